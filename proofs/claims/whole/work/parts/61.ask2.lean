/-! LEVEL B: holds, at and lives on both sides -/
/-- whether there is such an op, or the end -/
def ndB (a : Nat → Nat → Int32) (p o : Int32) : Bool := wN p 3 && wN o (nI (onA a p.toNatClampNeg + 1))
theorem P_tAhead {sc : Nat × (Nat → Int32)} {a : Nat → Nat → Int32} {M : sm_M} (b : BI a M) (p o : Int32) : dn sc kTop_isAhead 0 [.inr (.inr (9, 0, 0)), .inl p, .inl o] [] M = some (0, .inl (bI (ndB a p o)), M) := by
  rw [E_Top_isAhead_0, P_within, r1_s, show (!decide (p < 0) && decide (p < 3)) = wN p 3 from rfl]
  unfold ndB
  cases hp : wN p 3 with
  | false => rw [if_pos (show bI false = 0 from rfl)]; rfl
  | true =>
    obtain ⟨k, hk, rfl⟩ := wN_of (n := 3) (by decide) hp
    rw [if_neg (show ¬ bI true = 0 by decide), i_ib hk (by decide), if_pos rfl, i_cl (by omega), P_kSize (b.1.2.1 k hk), r1_s, P_within, r1_s, nI_1, show (!decide (o < 0) && decide (o < nI (onA a k + 1))) = wN o (nI (onA a k + 1)) from rfl, Bool.true_and]
    cases wN o (nI (onA a k + 1)) <;> rfl
theorem P_mNode {sc : Nat × (Nat → Int32)} {a : Nat → Nat → Int32} {N : sm_M} (b : BI a N) (p o : Int32) : dn sc kModel_isNode 0 [.inr (.inr (10, 0, 0)), .inl p, .inl o] [] N = some (0, .inl (bI (ndB a p o)), N) := by
  rw [E_Model_isNode_0, P_isThird, r1_s, show (!decide (p < 0) && decide (p < 3)) = wN p 3 from rfl]
  unfold ndB
  cases hp : wN p 3 with
  | false => rw [if_pos (show bI false = 0 from rfl)]; rfl
  | true =>
    obtain ⟨k, hk, rfl⟩ := wN_of (n := 3) (by decide) hp
    have h16 := (b.2.1.2.1 k hk).2.1
    rw [if_neg (show ¬ bI true = 0 by decide), i_ib hk (by decide), if_pos rfl, i_cl (by omega), cr_n b.2.1 b.2.2.1 hk, P_in, r1_s, in_wN (by omega), Bool.true_and]
    cases wN o (nI (onA a k + 1)) <;> rfl
theorem nd_of {a : Nat → Nat → Int32} (wf : wfA a) {p o : Int32} (h : ndB a p o = true) : ∃ k j, k < 3 ∧ j ≤ onA a k ∧ p = nI k ∧ o = nI j := by
  unfold ndB at h
  rw [Bool.and_eq_true] at h
  obtain ⟨k, hk, rfl⟩ := wN_of (n := 3) (by decide) h.1
  have h16 := (wf.2.1 k hk).2.1
  rw [i_cl (by omega)] at h
  obtain ⟨j, hj, rfl⟩ := wN_of (by omega) h.2
  exact ⟨k, j, hk, by omega, rfl, rfl⟩
theorem S_holds {sc : Nat × (Nat → Int32)} {a : Nat → Nat → Int32} {M : sm_M} (b : BI a M) (p o n : Int32) : SIM (dn sc kTop_holds 0 [.inr (.inr (9, 0, 0)), .inl p, .inl o, .inl n] [] M) (fun N => dn sc kModel_holds 0 [.inr (.inr (10, 0, 0)), .inl p, .inl o, .inl n] [] N) nI a M := by
  unfold SIM
  have wf := b.2.1
  have e4 : ∀ N, dn sc kModel_holds 4 [.inr (.inr (10, 0, 0)), .inl p, .inl o, .inl n] [.inl 1, .inr (.inr (10, 0, 0))] N = some (0, .inl 0, sm_u N 10 0 0 0 1) := fun N => by rw [E_Model_holds_4, u_hit, if_pos (by decide)]
  rw [E_Top_holds_0, P_tAhead b, r1_s]
  cases hp : ndB a p o with
  | false =>
    refine ⟨1, 0, M, by rw [if_pos (show bI false = 0 from rfl)], frS_r, fun N hN => ⟨0, sm_u N 10 0 0 0 1, ?_, u_hit, fun h => by omega, thr_fr, BI_thr (BI_eq hN b)⟩⟩
    dsimp only
    rw [E_Model_holds_0, P_mNode (BI_eq hN b), r1_s, hp, if_pos (show bI false = 0 from rfl), e4]
  | true =>
    obtain ⟨k, j, hk, hj, rfl, rfl⟩ := nd_of wf hp
    have h16 := (wf.2.1 k hk).2.1
    rw [if_neg (show ¬ bI true = 0 by decide), P_within, r1_s, show (!decide (n < 0) && decide (n < 6)) = wN n 6 from rfl]
    cases hn : wN n 6 with
    | false =>
      refine ⟨1, 0, M, by rw [if_pos (show bI false = 0 from rfl)], frS_r, fun N hN => ⟨0, sm_u N 10 0 0 0 1, ?_, u_hit, fun h => by omega, thr_fr, BI_thr (BI_eq hN b)⟩⟩
      dsimp only
      rw [E_Model_holds_0, P_mNode (BI_eq hN b), r1_s, hp, if_neg (show ¬ bI true = 0 by decide), P_in, r1_s, show (5 : Int32) = nI 5 from rfl, in_wN (by decide), show wN n (nI (5 + 1)) = wN n 6 from rfl, hn, if_pos (show bI false = 0 from rfl), e4]
    | true =>
      obtain ⟨i, hi, rfl⟩ := wN_of (n := 6) (by decide) hn
      obtain ⟨M1, h1, h2, h3, h4⟩ := BI_find (sc := sc) b hk
      have hcm : (fC M1 k).1 j = (cS a k).1 j := (cS_e h4.1 j (by omega)).1
      refine ⟨0, if (cS a k).1 j = true then (cS a k).2 j i else -1, M1, ?_, h2, fun N hN => ?_⟩
      · rw [if_neg (show ¬ bI true = 0 by decide), i_ib hk (by decide), if_pos rfl, i_cl (by omega), h1]
        show sm_r1 (dn sc kFlow_isComeTo 0 [.inr (.inr (4, k, 0)), .inl (nI j)] [] M1) _ = _
        rw [P_fCome (by omega), r1_s, ← hcm, show (fC M1 k).1 j = bt (M1.1 4 k 0 8) j from rfl]
        cases hc : bt (M1.1 4 k 0 8) j with
        | false => rw [if_pos (show bI false = 0 from rfl), if_neg (show ¬ false = true by decide)]
        | true => rw [if_neg (show ¬ bI true = 0 by decide), if_pos rfl, P_fName (by omega) hi, r1_s, (knC_v h4.1 (show j < 17 by omega) hc).1 i hi]
      · obtain ⟨N1, g1, g2, g3, g4⟩ := BI_all (sc := sc) (BI_thr (x := 0) (BI_eq hN h3))
        have hcr : (fR N1 k).1 j = (cS a k).1 j := (cS_e (g4 k hk).1 j (by omega)).1
        refine ⟨_, N1, ?_, (g2.2 _ _ _ _ (fun z => by unfold s10f at z; omega)).trans u_hit, fun _ => rfl, frS_t thr_fr (frS_w g2 (fun _ _ _ _ z => Or.inl z)), g3⟩
        dsimp only
        rw [E_Model_holds_0, P_mNode (BI_eq hN h3), r1_s, hp, if_neg (show ¬ bI true = 0 by decide), P_in, r1_s, show (5 : Int32) = nI 5 from rfl, in_wN (by decide), show wN (nI i) (nI (5 + 1)) = wN (nI i) 6 from rfl, hn, if_neg (show ¬ bI true = 0 by decide), E_Model_holds_4, u_hit, if_neg (by decide), g1, r0_s, show (17 : Int32) = nI 17 from rfl, i_mul, nI_add, i_ib (show 17 * k + j < 51 by omega) (by decide), if_pos rfl, i_cl (show 17 * k + j < 2147483648 by omega), ← hcr, fR_1]
        by_cases hc : N1.1 10 0 15 (17 * k + j) = 0
        · rw [if_pos hc, decide_eq_true hc]; rfl
        · have hct : (fR N1 k).1 j = true := by rw [fR_1, decide_eq_false hc]; rfl
          rw [if_neg hc, decide_eq_false hc, P_mFound hk (by omega) (knR_v (g4 k hk).1 (show j < 17 by omega) hct) (show i < 9 by omega), r1_s]; rfl
theorem S_at {sc : Nat × (Nat → Int32)} {a : Nat → Nat → Int32} {M : sm_M} (b : BI a M) (p o n : Int32) : SIM (dn sc kTop_at 0 [.inr (.inr (9, 0, 0)), .inl p, .inl o, .inl n] [] M) (fun N => dn sc kModel_at 0 [.inr (.inr (10, 0, 0)), .inl p, .inl o, .inl n] [] N) nI a M := by
  unfold SIM
  have wf := b.2.1
  have hc3 := wf.2.2.2.1
  have e4 : ∀ N, dn sc kModel_at 4 [.inr (.inr (10, 0, 0)), .inl p, .inl o, .inl n] [.inl 1, .inr (.inr (10, 0, 0))] N = some (0, .inl 0, sm_u N 10 0 0 0 1) := fun N => by rw [E_Model_at_4, u_hit, if_pos (by decide)]
  have h5 : ∀ N, BI a N → N.1 10 0 0 5 = nI (cnA a) := fun N bN => bN.2.2.1.1.trans wf.2.2.1
  rw [E_Top_at_0, P_tAhead b, r1_s]
  cases hp : ndB a p o with
  | false =>
    refine ⟨1, 0, M, by rw [if_pos (show bI false = 0 from rfl)], frS_r, fun N hN => ⟨0, sm_u N 10 0 0 0 1, ?_, u_hit, fun h => by omega, thr_fr, BI_thr (BI_eq hN b)⟩⟩
    dsimp only
    rw [E_Model_at_0, P_mNode (BI_eq hN b), r1_s, hp, if_pos (show bI false = 0 from rfl), e4]
  | true =>
    obtain ⟨k, j, hk, hj, rfl, rfl⟩ := nd_of wf hp
    have h16 := (wf.2.1 k hk).2.1
    rw [if_neg (show ¬ bI true = 0 by decide), P_cSize b.1.2.2, r1_s, P_within, r1_s, show (!decide (n < 0) && decide (n < nI (cnA a))) = wN n (nI (cnA a)) from rfl]
    cases hn : wN n (nI (cnA a)) with
    | false =>
      refine ⟨1, 0, M, by rw [if_pos (show bI false = 0 from rfl)], frS_r, fun N hN => ⟨0, sm_u N 10 0 0 0 1, ?_, u_hit, fun h => by omega, thr_fr, BI_thr (BI_eq hN b)⟩⟩
      dsimp only
      rw [E_Model_at_0, P_mNode (BI_eq hN b), r1_s, hp, if_neg (show ¬ bI true = 0 by decide), h5 N (BI_eq hN b), dI_s, P_in, r1_s, in_wN1 (by omega), hn, if_pos (show bI false = 0 from rfl), e4]
    | true =>
      obtain ⟨i, hi, rfl⟩ := wN_of (by omega) hn
      obtain ⟨M1, h1, h2, h3, h4⟩ := BI_find (sc := sc) b hk
      have hcm : (fC M1 k).1 j = (cS a k).1 j := (cS_e h4.1 j (by omega)).1
      refine ⟨0, if (cS a k).1 j = true then (cS a k).2 j (6 + i) else -1, M1, ?_, h2, fun N hN => ?_⟩
      · rw [if_neg (show ¬ bI true = 0 by decide), i_ib hk (by decide), if_pos rfl, i_cl (by omega), h1]
        show sm_r1 (dn sc kFlow_isComeTo 0 [.inr (.inr (4, k, 0)), .inl (nI j)] [] M1) _ = _
        rw [P_fCome (by omega), r1_s, ← hcm, show (fC M1 k).1 j = bt (M1.1 4 k 0 8) j from rfl]
        cases hc : bt (M1.1 4 k 0 8) j with
        | false => rw [if_pos (show bI false = 0 from rfl), if_neg (show ¬ false = true by decide)]
        | true => rw [if_neg (show ¬ bI true = 0 by decide), if_pos rfl, P_fStep (by omega) (show i < 3 by omega), r1_s, (knC_v h4.1 (show j < 17 by omega) hc).2 i (by omega)]
      · obtain ⟨N1, g1, g2, g3, g4⟩ := BI_all (sc := sc) (BI_thr (x := 0) (BI_eq hN h3))
        have hcr : (fR N1 k).1 j = (cS a k).1 j := (cS_e (g4 k hk).1 j (by omega)).1
        refine ⟨_, N1, ?_, (g2.2 _ _ _ _ (fun z => by unfold s10f at z; omega)).trans u_hit, fun _ => rfl, frS_t thr_fr (frS_w g2 (fun _ _ _ _ z => Or.inl z)), g3⟩
        dsimp only
        rw [E_Model_at_0, P_mNode (BI_eq hN h3), r1_s, hp, if_neg (show ¬ bI true = 0 by decide), h5 N (BI_eq hN h3), dI_s, P_in, r1_s, in_wN1 (by omega), hn, if_neg (show ¬ bI true = 0 by decide), E_Model_at_4, u_hit, if_neg (by decide), g1, r0_s, show (17 : Int32) = nI 17 from rfl, i_mul, nI_add, i_ib (show 17 * k + j < 51 by omega) (by decide), if_pos rfl, i_cl (show 17 * k + j < 2147483648 by omega), ← hcr, fR_1, show (6 : Int32) = nI 6 from rfl, nI_add]
        by_cases hc : N1.1 10 0 15 (17 * k + j) = 0
        · rw [if_pos hc, decide_eq_true hc]; rfl
        · have hct : (fR N1 k).1 j = true := by rw [fR_1, decide_eq_false hc]; rfl
          rw [if_neg hc, decide_eq_false hc, P_mFound hk (by omega) (knR_v (g4 k hk).1 (show j < 17 by omega) hct) (show 6 + i < 9 by omega), r1_s]; rfl
theorem S_lives {sc : Nat × (Nat → Int32)} {a : Nat → Nat → Int32} {M : sm_M} (b : BI a M) (p o : Int32) : SIM (dn sc kTop_lives 0 [.inr (.inr (9, 0, 0)), .inl p, .inl o] [] M) (fun N => dn sc kModel_lives 0 [.inr (.inr (10, 0, 0)), .inl p, .inl o] [] N) nI a M := by
  unfold SIM
  have wf := b.2.1
  rw [E_Top_lives_0, P_tAhead b, r1_s]
  cases hp : ndB a p o with
  | false =>
    refine ⟨1, 0, M, by rw [if_pos (show bI false = 0 from rfl)], frS_r, fun N hN => ⟨0, sm_u N 10 0 0 0 1, ?_, u_hit, fun h => by omega, thr_fr, BI_thr (BI_eq hN b)⟩⟩
    dsimp only
    rw [E_Model_lives_0, P_mNode (BI_eq hN b), r1_s, hp, if_pos (show bI false = 0 from rfl), E_Model_lives_3, u_hit, if_pos (by decide)]
  | true =>
    obtain ⟨k, j, hk, hj, rfl, rfl⟩ := nd_of wf hp
    have h16 := (wf.2.1 k hk).2.1
    obtain ⟨M1, h1, h2, h3, h4⟩ := BI_find (sc := sc) b hk
    refine ⟨0, cL a k j, M1, ?_, h2, fun N hN => ?_⟩
    · rw [if_neg (show ¬ bI true = 0 by decide), i_ib hk (by decide), if_pos rfl, i_cl (by omega), h1]
      show sm_r1 (dn sc kFlow_livesAt 0 [.inr (.inr (4, k, 0)), .inl (nI j)] [] M1) _ = _
      rw [P_fLive (by omega), r1_s, ← cL_e wf hk h4.2.1 j (by omega)]
      unfold LvC
      rw [if_pos (show j < 17 by omega)]
    · obtain ⟨N1, g1, g2, g3, g4⟩ := BI_all (sc := sc) (BI_thr (x := 0) (BI_eq hN h3))
      refine ⟨_, N1, ?_, (g2.2 _ _ _ _ (fun z => by unfold s10f at z; omega)).trans u_hit, fun _ => rfl, frS_t thr_fr (frS_w g2 (fun _ _ _ _ z => Or.inl z)), g3⟩
      dsimp only
      rw [E_Model_lives_0, P_mNode (BI_eq hN h3), r1_s, hp, if_neg (show ¬ bI true = 0 by decide), E_Model_lives_3, u_hit, if_neg (by decide), g1, r0_s, show (17 : Int32) = nI 17 from rfl, i_mul, nI_add, i_ib (show 17 * k + j < 51 by omega) (by decide), if_pos rfl, i_cl (show 17 * k + j < 2147483648 by omega), ← cL_e wf hk (g4 k hk).2 j (by omega)]
      unfold LvR
      rw [if_pos (show j < 17 by omega)]
