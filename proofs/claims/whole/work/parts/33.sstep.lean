/-! LEVEL B: step on both sides -/
theorem eqT_mA {M N : sm_M} (h : eqT M N) : mA N = mA M := by
  unfold mA
  rw [(h 10 (by decide)).1]
/-- the reference's memory behind step -/
def stM (N : sm_M) (k n : Nat) (w x y : Int32) : sm_M := sm_u (sm_u (sm_u (sm_u (sm_u N 10 0 0 0 0) 10 0 3 (8 * k + n) w) 10 0 4 (8 * k + n) x) 10 0 5 (8 * k + n) y) 10 0 2 k (nI (n + 1))
theorem stM_telE {N : sm_M} {k n : Nat} {w x y : Int32} : telE (stA (mA N) k n w x y) (mA (stM N k n w x y)) := by
  refine ⟨?_, fun j h2 h13 => ?_⟩
  · rw [stA_o (Or.inl rfl)]; rfl
  · funext i
    unfold mA stM stA
    rcases (show j = 2 ∨ j = 3 ∨ j = 4 ∨ j = 5 ∨ j = 6 ∨ j = 7 ∨ j = 8 ∨ j = 9 ∨ j = 10 ∨ j = 11 ∨ j = 12 ∨ j = 13 by omega) with rfl | rfl | rfl | rfl | rfl | rfl | rfl | rfl | rfl | rfl | rfl | rfl
    all_goals simp only [u_1, Nat.reduceEqDiff, true_and, false_and, if_false]
theorem S_step {sc : Nat × (Nat → Int32)} {M : sm_M} (r : rTel (mA M) M) (wf : wfA (mA M)) (p w x y : Int32) :
    (∃ e, e < 3 ∧ dn sc kTop_step 0 [.inr (.inr (9, 0, 0)), .inl p, .inl w, .inl x, .inl y] [] M = some (e + 1, .inl 0, M) ∧ ∀ N, eqT M N → dn sc kModel_step 0 [.inr (.inr (10, 0, 0)), .inl p, .inl w, .inl x, .inl y] [] N = some (0, .inl 0, sm_u N 10 0 0 0 (nI (e + 1)))) ∨
    (∃ k n, k < 3 ∧ n < 8 ∧ hasP (mA M) k = false ∧ dn sc kTop_step 0 [.inr (.inr (9, 0, 0)), .inl p, .inl w, .inl x, .inl y] [] M = some (0, .inl (nI n), stC M k n w x y) ∧ ∀ N, eqT (stC M k n w x y) N → dn sc kModel_step 0 [.inr (.inr (10, 0, 0)), .inl p, .inl w, .inl x, .inl y] [] N = some (0, .inl (nI n), stM N k n w x y) ∧ rTel (mA (stM N k n w x y)) (stM N k n w x y) ∧ wfA (mA (stM N k n w x y))) := by
  have hc := wf.2.2.1
  have hc3 := wf.2.2.2.1
  have hs : ∀ N, mA N = mA M → ∀ k, k < 3 → p = nI k → ∃ m, m ≤ 8 ∧ N.1 10 0 2 k = nI m := fun N e k hk _ => ⟨pnA (mA M) k, (wf.1 k hk).2.1, (show mA N 2 k = _ by rw [e]; exact (wf.1 k hk).1)⟩
  have hn : ∀ N, mA N = mA M → N.1 10 0 0 5 = nI (cnA (mA M)) := fun N e => (show mA N 0 5 = _ by rw [e]; exact hc)
  cases hp : wN p 3 with
  | false =>
    refine Or.inl ⟨0, by decide, by rw [P_tStep r, if_pos hp], fun N hN => ?_⟩
    rw [P_mStep (hn N (eqT_mA hN)) hc3 (hs N (eqT_mA hN)), if_pos hp]; rfl
  | true =>
    have hp' : ¬ wN p 3 = false := by rw [hp]; decide
    cases ho : okS w x y with
    | false =>
      refine Or.inl ⟨1, by decide, by rw [P_tStep r, if_neg hp', if_pos ho], fun N hN => ?_⟩
      rw [P_mStep (hn N (eqT_mA hN)) hc3 (hs N (eqT_mA hN)), if_neg hp', if_pos ho]; rfl
    | true =>
      have ho' : ¬ okS w x y = false := by rw [ho]; decide
      obtain ⟨k, hk, rfl⟩ := wN_of (n := 3) (by decide) hp
      obtain ⟨w1, w2, w3⟩ := wf.1 k hk
      have ek : (nI k).toNatClampNeg = k := i_cl (by omega)
      have e2 : ∀ N, mA N = mA M → N.1 10 0 2 k = nI (pnA (mA M) k) := fun N e => (show mA N 2 k = _ by rw [e]; exact w1)
      have eg : ∀ N, mA N = mA M → (decide (N.1 10 0 2 (nI k).toNatClampNeg = 8) || usedP (mA N) (nI k) 0 (cnA (mA M))) = (decide (pnA (mA M) (nI k).toNatClampNeg = 8) || hasP (mA M) (nI k).toNatClampNeg) := by
        intro N e
        rw [ek, e2 N e, e, usedP_hasP wf hk]
        have : decide (nI (pnA (mA M) k) = 8) = decide (pnA (mA M) k = 8) := decide_eq_decide.mpr (by rw [show (8 : Int32) = nI 8 from rfl, i_eq (by omega) (by decide)])
        rw [this]
      cases hg : (decide (pnA (mA M) (nI k).toNatClampNeg = 8) || hasP (mA M) (nI k).toNatClampNeg) with
      | true =>
        refine Or.inl ⟨2, by decide, by rw [P_tStep r, if_neg hp', if_neg ho', if_pos hg], fun N hN => ?_⟩
        rw [P_mStep (hn N (eqT_mA hN)) hc3 (hs N (eqT_mA hN)), if_neg hp', if_neg ho', if_pos ((eg N (eqT_mA hN)).trans hg)]; rfl
      | false =>
        have hg' : ¬ (decide (pnA (mA M) (nI k).toNatClampNeg = 8) || hasP (mA M) (nI k).toNatClampNeg) = true := by rw [hg]; decide
        have hh := hg
        rw [ek, Bool.or_eq_false_iff, decide_eq_false_iff_not] at hh
        have h8 : pnA (mA M) k < 8 := by omega
        refine Or.inr ⟨k, pnA (mA M) k, hk, h8, hh.2, by rw [P_tStep r, if_neg hp', if_neg ho', if_neg hg', ek]; rfl, fun N hN => ?_⟩
        have hm : mA N = mA M := (eqT_mA hN).trans (show mA (stC M k (pnA (mA M) k) w x y) = mA M from rfl)
        refine ⟨?_, ?_, ?_⟩
        · have hg2 : ¬ (decide (N.1 10 0 2 (nI k).toNatClampNeg = 8) || usedP (mA N) (nI k) 0 (cnA (mA M))) = true := by rw [eg N hm, hg]; decide
          rw [P_mStep (hn N hm) hc3 (hs N hm), if_neg hp', if_neg ho', if_neg hg2, ek, e2 N hm, i_cl (show pnA (mA M) k < 2147483648 by omega), nI_1]; rfl
        · refine rTel_a stM_telE ?_
          rw [hm]
          exact rTel_M (rTel_step r hk h8 hh.2) (hN 1 (by decide)).1 (hN 2 (by decide)).1 (hN 8 (by decide)).1
        · refine wfA_a stM_telE ?_
          rw [hm]
          exact wfA_step wf hk h8 hh.2 ho
