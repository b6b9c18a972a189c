/-! LEVEL B: the run: values and messages that are asked of, on both sides -/
theorem askR_n {N : sm_M} : askR N (-1) = 1 := by
  unfold askR
  rw [show wN (-1) 3 = false by decide, if_pos rfl]
theorem JR_ref {a : Nat → Nat → Int32} {M : sm_M} {B : Nat} (j : JR a M B) (mp : Nat → Int32) (h1 : mp 1 = 1) (dC : Option sm_R) (dR : sm_M → Option sm_R) (hC : dC = some (1, .inl 0, M)) (hR : ∀ N, eqT M N → dR N = some (0, .inl 0, sm_u N 10 0 0 0 1)) : SIR dC dR mp a M B :=
  ⟨1, 0, M, hC, frS_r, fun N hN => ⟨0, _, hR N hN, u_hit.trans h1.symm, fun h => by omega, thr_sRN, JR_thr (Nat.le_refl _) (JR_eq hN (Nat.le_refl _) j)⟩⟩
theorem S_value {sc : Nat × (Nat → Int32)} {a : Nat → Nat → Int32} {M : sm_M} {B : Nat} (j : JR a M B) (p v : Int32) : SIR (dn sc kTop_value 0 [.inr (.inr (9, 0, 0)), .inl p, .inl v] [] M) (fun N => dn sc kModel_value 0 [.inr (.inr (10, 0, 0)), .inl p, .inl v] [] N) mpG a M B := by
  have ev : (!decide (v < 0) && !decide (5 < v)) = wN v 6 := in_wN (n := 5) (by decide)
  cases hv : wN v 6 with
  | false =>
    refine JR_ref j mpG (by decide) _ _ ?_ (fun N hN => ?_)
    · rw [E_Top_value_0, P_within, r1_s, show (!decide (p < 0) && decide (p < 3)) = wN p 3 from rfl]
      cases wN p 3 with
      | false => rw [if_pos (show bI false = 0 from rfl)]
      | true => rw [if_neg (show ¬ bI true = 0 by decide), P_within, r1_s, show (!decide (v < 0) && decide (v < 6)) = wN v 6 from rfl, hv, if_pos (show bI false = 0 from rfl)]
    · rw [E_Model_value_0, P_in, r1_s, ev, hv, if_pos (show bI false = 0 from rfl), E_Model_value_3, P_isAsked, askR_n, r1_s, if_pos (show bI (decide ((1 : Int32) = 0)) = 0 by decide)]
  | true =>
    obtain ⟨k, hk, rfl⟩ := wN_of (n := 6) (by decide) hv
    refine S_ask j p _ _ (fun q => if hC M q k = 0 then -1 else xC M q k) ?_ (fun N hN => ?_)
    · rw [E_Top_value_0, P_within, r1_s, show (!decide (p < 0) && decide (p < 3)) = wN p 3 from rfl]
      cases hp : wN p 3 with
      | false => rw [if_pos (show bI false = 0 from rfl), if_pos rfl]
      | true =>
        obtain ⟨q, hq, rfl⟩ := wN_of (n := 3) (by decide) hp
        rw [if_neg (show ¬ bI true = 0 by decide), if_neg (show ¬ true = false by decide), P_within, r1_s, show (!decide (nI k < 0) && decide (nI k < 6)) = wN (nI k) 6 from rfl, hv, if_neg (show ¬ bI true = 0 by decide), P_on (JR_on j), r1_s, P_body hq, i_cl (show q < 2147483648 by omega)]
        by_cases z : M.1 3 0 0 5 = 0
        · rw [if_pos z, if_pos z]
        · rw [if_neg z, if_neg z]
          show sm_r1 (dn sc kBody_valueOf 0 [.inr (.inr (0, q, 0)), .inl (nI k)] [] M) _ = _
          rw [P_bValue hk, r1_s]
    · rw [E_Model_value_0, P_in, r1_s, ev, hv, if_neg (show ¬ bI true = 0 by decide), E_Model_value_3, P_isAsked, r1_s]
      by_cases z : askR N p = 0
      · obtain ⟨q, hq, rfl⟩ := askR_p z
        rw [decide_eq_true z, if_neg (show ¬ bI true = 0 by decide), six, i_ib (show 6 * q + k < 18 by omega) (by decide), if_pos rfl, if_pos rfl, i_cl (show 6 * q + k < 2147483648 by omega), u_mis (by omega), u_mis (by omega), eqT_cell hN (by decide), eqT_cell hN (by decide)]
        by_cases z9 : M.1 10 0 29 (6 * q + k) = 0
        · rw [if_pos z9]
          refine ⟨_, rfl, fun _ ⟨mk1, t, tc, ps⟩ _ => ?_⟩
          have pv := (ps.1 q hq).1.1 k hk
          rw [i_cl (show q < 2147483648 by omega), pv.1, ← aR_i hk, if_pos z9]
        · rw [if_neg z9]
          refine ⟨_, rfl, fun _ ⟨mk1, t, tc, ps⟩ _ => ?_⟩
          have pv := (ps.1 q hq).1.1 k hk
          rw [i_cl (show q < 2147483648 by omega), pv.1, ← aR_i hk, if_neg z9, pv.2.1, aR_i hk]
      · rw [decide_eq_false z, if_pos (show bI false = 0 from rfl)]
        exact ⟨_, rfl, fun h => absurd h z⟩
theorem S_waiting {sc : Nat × (Nat → Int32)} {a : Nat → Nat → Int32} {M : sm_M} {B : Nat} (b : BI a M) (j : JR a M B) (p c : Int32) : SIR (dn sc kTop_waiting 0 [.inr (.inr (9, 0, 0)), .inl p, .inl c] [] M) (fun N => dn sc kModel_waiting 0 [.inr (.inr (10, 0, 0)), .inl p, .inl c] [] N) mpG a M B := by
  have wf := b.2.1
  cases hc : wN c 3 with
  | false =>
    refine JR_ref j mpG (by decide) _ _ ?_ (fun N hN => ?_)
    · rw [E_Top_waiting_0, P_within, r1_s, show (!decide (p < 0) && decide (p < 3)) = wN p 3 from rfl]
      cases wN p 3 with
      | false => rw [if_pos (show bI false = 0 from rfl)]
      | true => rw [if_neg (show ¬ bI true = 0 by decide), P_within, r1_s, show (!decide (c < 0) && decide (c < 3)) = wN c 3 from rfl, hc, if_pos (show bI false = 0 from rfl)]
    · rw [E_Model_waiting_0, P_isThird, r1_s, show (!decide (c < 0) && decide (c < 3)) = wN c 3 from rfl, hc, if_pos (show bI false = 0 from rfl), E_Model_waiting_3, P_isAsked, askR_n, r1_s, if_pos (show bI (decide ((1 : Int32) = 0)) = 0 by decide)]
  | true =>
    obtain ⟨k, hk, rfl⟩ := wN_of (n := 3) (by decide) hc
    refine S_ask j p _ _ (fun q => if ofA a k q = true then M.1 7 0 1 (qN a k q) else 0) ?_ (fun N hN => ?_)
    · rw [E_Top_waiting_0, P_within, r1_s, show (!decide (p < 0) && decide (p < 3)) = wN p 3 from rfl]
      cases hp : wN p 3 with
      | false => rw [if_pos (show bI false = 0 from rfl), if_pos rfl]
      | true =>
        obtain ⟨q, hq, rfl⟩ := wN_of (n := 3) (by decide) hp
        rw [if_neg (show ¬ bI true = 0 by decide), if_neg (show ¬ true = false by decide), P_within, r1_s, show (!decide (nI k < 0) && decide (nI k < 3)) = wN (nI k) 3 from rfl, hc, if_neg (show ¬ bI true = 0 by decide), P_on (JR_on j), r1_s, P_cCount wf b.1.2.2 hk hq, r1_s, i_cl (show q < 2147483648 by omega)]
    · have rN : cr a (sm_u N 10 0 0 0 (askR N p)) := by
        refine ⟨(u_mis (by omega)).trans ((eqT_cell hN (by decide) 0 0 5).trans b.2.2.1.1), fun j h1 h2 => ?_⟩
        refine Eq.trans ?_ (b.2.2.1.2 j h1 h2)
        funext i
        exact (u_mis (by omega)).trans (eqT_cell hN (by decide) 0 j i)
      rw [E_Model_waiting_0, P_isThird, r1_s, show (!decide (nI k < 0) && decide (nI k < 3)) = wN (nI k) 3 from rfl, hc, if_neg (show ¬ bI true = 0 by decide), E_Model_waiting_3, P_isAsked, r1_s]
      by_cases z : askR N p = 0
      · obtain ⟨q, hq, rfl⟩ := askR_p z
        rw [decide_eq_true z, if_neg (show ¬ bI true = 0 by decide), P_mIsOf wf rN hk hq, r1_s, i_cl (show q < 2147483648 by omega)]
        cases ho : ofA a k q with
        | false =>
          rw [if_pos (show bI false = 0 from rfl)]
          exact ⟨_, rfl, fun _ _ _ => by rw [if_neg (show ¬ false = true by decide)]⟩
        | true =>
          rw [if_neg (show ¬ bI true = 0 by decide), P_mSide0 wf rN ho, r1_s, i_ib (qN_6 hk) (by decide), if_pos rfl, q_cl hk, u_mis (by omega), eqT_cell hN (by decide)]
          refine ⟨_, rfl, fun _ ⟨mk1, t, tc, ps⟩ _ => ?_⟩
          obtain ⟨m, m1, m2, m3, _⟩ := ps.2.1 _ (qN_6 (a := a) (p := q) hk)
          rw [if_pos rfl, m2, m3]
      · rw [decide_eq_false z, if_pos (show bI false = 0 from rfl)]
        exact ⟨_, rfl, fun h => absurd h z⟩
theorem S_dropped {sc : Nat × (Nat → Int32)} {a : Nat → Nat → Int32} {M : sm_M} {B : Nat} (j : JR a M B) (i : Int32) : SIR (dn sc kTop_dropped 0 [.inr (.inr (9, 0, 0)), .inl i] [] M) (fun N => dn sc kModel_dropped 0 [.inr (.inr (10, 0, 0)), .inl i] [] N) mpG a M B := by
  obtain ⟨d, d1, m2, m3, m4⟩ := j.2.1.1
  have eC : dn sc kTop_dropped 0 [.inr (.inr (9, 0, 0)), .inl i] [] M = if wN i (nI d) = false then some (1, .inl 0, M) else sm_r1 (dn sc kLedger_droppedAt 0 [.inr (.inr (6, 0, 0)), .inl i] [] M) (fun x10 M9 => some (0, .inl x10, M9)) := by
    rw [E_Top_dropped_0, E_Course_ledger_0]
    show sm_r1 (dn sc kLedger_told 0 [.inr (.inr (6, 0, 0))] [] M) _ = _
    rw [E_Ledger_told_0, r1_s, m2, P_within, r1_s, show (!decide (i < 0) && decide (i < nI d)) = wN i (nI d) from rfl]
    cases wN i (nI d) with
    | false => rw [if_pos (show bI false = 0 from rfl), if_pos rfl]
    | true => rw [if_neg (show ¬ bI true = 0 by decide), if_neg (show ¬ true = false by decide), E_Course_ledger_0]; rfl
  have ein : (!decide (i < 0) && !decide (nI d - 1 < i)) = wN i (nI d) := by
    unfold wN
    by_cases z : i < 0
    · rw [decide_eq_true z]; rfl
    · obtain ⟨k, hk, rfl⟩ := nI_of z
      have : (!decide (nI d - 1 < nI k)) = decide (nI k < nI d) := by
        rw [← decide_not]
        refine decide_eq_decide.mpr ?_
        rcases Nat.eq_zero_or_pos d with y | y
        · subst y
          rw [show nI 0 - 1 = (-1 : Int32) by decide, i_lt hk (by decide)]
          refine ⟨fun h => absurd ?_ h, fun h => by omega⟩
          rw [Int32.lt_iff_toInt_lt, nI_toInt hk, show (-1 : Int32).toInt = -1 from rfl]
          omega
        · have e : nI d - 1 = nI (d - 1) := by
            have h2 : nI d = nI (d - 1) + 1 := by rw [nI_1, show d - 1 + 1 = d by omega]
            rw [h2, add1_sub]
          rw [e, i_lt (by omega) hk, i_lt hk (by omega)]
          omega
      rw [this]
  cases hi : wN i (nI d) with
  | false =>
    refine JR_ref j mpG (by decide) _ _ ?_ (fun N hN => ?_)
    · rw [eC, hi, if_pos rfl]
    · rw [E_Model_dropped_0, eqT_cell hN (by decide), m3, P_in, r1_s, ein, hi, if_pos (show bI false = 0 from rfl), E_Model_dropped_3, u_hit, if_pos (by decide)]
  | true =>
    obtain ⟨k, hk, rfl⟩ := wN_of (n := d) (by omega) hi
    refine ⟨0, M.1 6 0 1 k, M, ?_, frS_r, fun N hN => ⟨M.1 6 0 1 k, sm_u N 10 0 0 0 0, ?_, u_hit, fun _ => rfl, thr_sRN, JR_thr (Nat.le_refl _) (JR_eq hN (Nat.le_refl _) j)⟩⟩
    · rw [eC, hi, if_neg (show ¬ true = false by decide), E_Ledger_droppedAt_0, m2, P_within, r1_s, show (!decide (nI k < 0) && decide (nI k < nI d)) = wN (nI k) (nI d) from rfl, hi, if_neg (show ¬ bI true = 0 by decide), i_ib (show k < 200 by omega) (by decide), if_pos rfl, i_cl (show k < 2147483648 by omega), r1_s]
    · dsimp only
      rw [E_Model_dropped_0, eqT_cell hN (by decide), m3, P_in, r1_s, ein, hi, if_neg (show ¬ bI true = 0 by decide), E_Model_dropped_3, u_hit, if_neg (show ¬ (0 : Int32) < 0 by decide), i_ib (show k < 200 by omega) (by decide), if_pos rfl, i_cl (show k < 2147483648 by omega), u_mis (by omega), eqT_cell hN (by decide), m4 k hk]
