/-! LEVEL B: unop on both sides -/
def unA (a : Nat → Nat → Int32) (k n : Nat) : Nat → Nat → Int32 := fun j i => if j = 10 ∧ i = k then nI n else a j i
theorem unA_low {a : Nat → Nat → Int32} {k n : Nat} : lowE a (unA a k n) := fun j h => by
  funext i
  unfold unA
  rw [if_neg (by omega)]
theorem unA_n {a : Nat → Nat → Int32} {k n : Nat} {p : Nat} (hn : n < 17) : onA (unA a k n) p = if p = k then n else onA a p := by
  unfold onA unA
  by_cases q : p = k
  · rw [if_pos ⟨rfl, q⟩, if_pos q, i_cl (by omega)]
  · rw [if_neg (fun z => q z.2), if_neg q]
theorem unA_w {a : Nat → Nat → Int32} {k n : Nat} {p i : Nat} : opW (unA a k n) p i = opW a p i ∧ opX (unA a k n) p i = opX a p i ∧ opY (unA a k n) p i = opY a p i := by
  unfold opW opX opY unA
  refine ⟨if_neg (by omega), if_neg (by omega), if_neg (by omega)⟩
def unC (M : sm_M) (k n : Nat) : sm_M := sm_u (forgets M k) 2 k 0 3 (nI n)
theorem rTel_unop {a : Nat → Nat → Int32} {M : sm_M} (r : rTel a M) {k n : Nat} (hk : k < 3) (hn : onA a k = n + 1) : rTel (unA a k n) (unC M k n) := by
  obtain ⟨r1, r2, r3⟩ := r
  obtain ⟨l1, l2⟩ := rP_low (unA_low (k := k) (n := n)) ⟨r1, r3⟩
  refine ⟨l1, fun p hp => ?_, l2⟩
  obtain ⟨x1, x2, x3⟩ := r2 p hp
  have hk2 := (r2 k hk).2.1
  unfold rK unC forgets
  simp only [u_1, Nat.reduceEqDiff, and_false, false_and, and_true, true_and, if_false, unA_n (show n < 17 by omega)]
  by_cases q : p = k
  · subst q
    rw [if_pos rfl, if_pos rfl]
    refine ⟨rfl, by omega, fun i hi => ?_⟩
    rw [unA_w.1, unA_w.2.1, unA_w.2.2]
    exact x3 i (by omega)
  · rw [if_neg q, if_neg q]
    refine ⟨x1, x2, fun i hi => ?_⟩
    rw [unA_w.1, unA_w.2.1, unA_w.2.2]
    exact x3 i hi
theorem wfA_unop {a : Nat → Nat → Int32} (wf : wfA a) {k n : Nat} (hk : k < 3) (hn : onA a k = n + 1) : wfA (unA a k n) := by
  refine wfA_low unA_low wf (fun p hp => ?_)
  obtain ⟨x1, x2, x3⟩ := wf.2.1 p hp
  have hk2 := (wf.2.1 k hk).2.1
  rw [unA_n (show n < 17 by omega)]
  by_cases q : p = k
  · subst q
    rw [if_pos rfl]
    refine ⟨by unfold unA; rw [if_pos ⟨rfl, rfl⟩], by omega, fun i hi => ?_⟩
    rw [unA_w.1, unA_w.2.1, unA_w.2.2]
    exact x3 i (by omega)
  · rw [if_neg q]
    refine ⟨by unfold unA; rw [if_neg (fun z => q z.2)]; exact x1, x2, fun i hi => ?_⟩
    rw [unA_w.1, unA_w.2.1, unA_w.2.2]
    exact x3 i hi
def unM (N : sm_M) (k n : Nat) : sm_M := changed (sm_u (sm_u N 10 0 0 0 0) 10 0 10 k (nI n))
theorem unM_telE {N : sm_M} {k n : Nat} : telE (unA (mA N) k n) (mA (unM N k n)) := by
  refine ⟨?_, fun j h2 h13 => ?_⟩
  · unfold unA; rw [if_neg (by omega)]; rfl
  · funext i
    unfold mA unM unA changed
    rcases (show j = 2 ∨ j = 3 ∨ j = 4 ∨ j = 5 ∨ j = 6 ∨ j = 7 ∨ j = 8 ∨ j = 9 ∨ j = 10 ∨ j = 11 ∨ j = 12 ∨ j = 13 by omega) with rfl | rfl | rfl | rfl | rfl | rfl | rfl | rfl | rfl | rfl | rfl | rfl
    all_goals simp only [u_1, Nat.reduceEqDiff, true_and, false_and, if_false]
/-- unop: the class throws 1 or 3, which the law calls 1 and 2 -/
theorem S_unop {sc : Nat × (Nat → Int32)} {M : sm_M} (r : rTel (mA M) M) (wf : wfA (mA M)) (p : Int32) :
    (∃ e f, (e = 1 ∧ f = 1 ∨ e = 3 ∧ f = 2) ∧ dn sc kTop_unop 0 [.inr (.inr (9, 0, 0)), .inl p] [] M = some (e, .inl 0, M) ∧ ∀ N, eqT M N → dn sc kModel_unop 0 [.inr (.inr (10, 0, 0)), .inl p] [] N = some (0, .inl 0, sm_u N 10 0 0 0 (nI f))) ∨
    (∃ k n, k < 3 ∧ n < 16 ∧ onA (mA M) k = n + 1 ∧ dn sc kTop_unop 0 [.inr (.inr (9, 0, 0)), .inl p] [] M = some (0, .inl (nI n), unC M k n) ∧ ∀ N, eqT (unC M k n) N → dn sc kModel_unop 0 [.inr (.inr (10, 0, 0)), .inl p] [] N = some (0, .inl (nI n), unM N k n) ∧ rTel (mA (unM N k n)) (unM N k n) ∧ wfA (mA (unM N k n))) := by
  have hs : ∀ N, mA N = mA M → ∀ k, k < 3 → p = nI k → ∃ m, m ≤ 16 ∧ N.1 10 0 10 k = nI m := fun N e k hk _ => ⟨onA (mA M) k, (wf.2.1 k hk).2.1, (show mA N 10 k = _ by rw [e]; exact (wf.2.1 k hk).1)⟩
  cases hp : wN p 3 with
  | false =>
    refine Or.inl ⟨1, 1, Or.inl ⟨rfl, rfl⟩, by rw [P_tUnop r, if_pos hp], fun N hN => ?_⟩
    rw [P_mUnop (hs N (eqT_mA hN)), if_pos hp]; rfl
  | true =>
    have hp' : ¬ wN p 3 = false := by rw [hp]; decide
    obtain ⟨k, hk, rfl⟩ := wN_of (n := 3) (by decide) hp
    obtain ⟨w1, w2, w3⟩ := wf.2.1 k hk
    have ek : (nI k).toNatClampNeg = k := i_cl (by omega)
    have e2 : ∀ N, mA N = mA M → N.1 10 0 10 k = nI (onA (mA M) k) := fun N e => (show mA N 10 k = _ by rw [e]; exact w1)
    by_cases q : onA (mA M) k = 0
    · refine Or.inl ⟨3, 2, Or.inr ⟨rfl, rfl⟩, by rw [P_tUnop r, if_neg hp', ek, if_pos q], fun N hN => ?_⟩
      rw [P_mUnop (hs N (eqT_mA hN)), if_neg hp', ek, e2 N (eqT_mA hN), if_pos (by rw [q]; rfl)]; rfl
    · obtain ⟨n, hn⟩ : ∃ n, onA (mA M) k = n + 1 := ⟨onA (mA M) k - 1, by omega⟩
      refine Or.inr ⟨k, n, hk, by omega, hn, by rw [P_tUnop r, if_neg hp', ek, if_neg q, hn]; rfl, fun N hN => ?_⟩
      have hm : mA N = mA M := (eqT_mA hN).trans (show mA (unC M k n) = mA M from rfl)
      refine ⟨?_, ?_, ?_⟩
      · rw [P_mUnop (hs N hm), if_neg hp', ek, e2 N hm, hn, if_neg (nI_ne0 (by omega) (by omega)), nI_pred]; rfl
      · refine rTel_a unM_telE ?_
        rw [hm]
        exact rTel_M (rTel_unop r hk hn) (hN 1 (by decide)).1 (hN 2 (by decide)).1 (hN 8 (by decide)).1
      · refine wfA_a unM_telE ?_
        rw [hm]
        exact wfA_unop wf hk hn
