/-! LEVEL B: the run: what is asked of it, on both sides -/
def askR (M : sm_M) (p : Int32) : Int32 := if wN p 3 = false then 1 else if M.1 10 0 0 24 = 0 then 2 else 0
theorem P_isAsked {sc : Nat × (Nat → Int32)} {N : sm_M} {p : Int32} : dn sc kModel_isAsked 0 [.inr (.inr (10, 0, 0)), .inl p] [] N = some (0, .inl (bI (decide (askR N p = 0))), sm_u N 10 0 0 0 (askR N p)) := by
  have e5 : ∀ x : Int32, dn sc kModel_isAsked 5 [.inr (.inr (10, 0, 0))] [.inl x, .inr (.inr (10, 0, 0))] N = some (0, .inl (bI (decide (x = 0))), sm_u N 10 0 0 0 x) := fun x => by
    rw [E_Model_isAsked_5, u_hit, ite_1]
  rw [E_Model_isAsked_0, P_isThird, r1_s, show (!decide (p < 0) && decide (p < 3)) = wN p 3 from rfl]
  unfold askR
  cases wN p 3 with
  | false => rw [if_pos (show bI false = 0 from rfl), if_pos rfl, e5]
  | true =>
    rw [if_neg (show ¬ bI true = 0 by decide), if_neg (show ¬ true = false by decide)]
    by_cases z : N.1 10 0 0 24 = 0
    · rw [if_pos z, if_pos z, e5]
    · rw [if_neg z, if_neg z, e5]
/-- a question to a process: f reads the class, g the reference -/
theorem S_ask {a : Nat → Nat → Int32} {M : sm_M} {B : Nat} (j : JR a M B) (p : Int32) (dC : Option sm_R) (dR : sm_M → Option sm_R) (f : Nat → Int32)
    (hC : dC = if wN p 3 = false then some (1, .inl 0, M) else if M.1 3 0 0 5 = 0 then some (3, .inl 0, M) else some (0, .inl (f p.toNatClampNeg), M))
    (hR : ∀ N, eqT M N → ∃ y, dR N = some (0, .inl y, sm_u N 10 0 0 0 (askR N p)) ∧ (askR N p = 0 → (∃ mk t tc, PS a M M mk t t tc) → p.toNatClampNeg < 3 → y = f p.toNatClampNeg)) : SIR dC dR mpG a M B := by
  unfold SIR
  rw [hC]
  have eN : ∀ {N}, eqT M N → N.1 10 0 0 24 = M.1 10 0 0 24 := fun hN => eqT_cell hN (by decide) 0 0 24
  cases hp : wN p 3 with
  | false =>
    refine ⟨1, 0, M, if_pos rfl, frS_r, fun N hN => ?_⟩
    obtain ⟨y, h1, h2⟩ := hR N hN
    have e : askR N p = 1 := by unfold askR; rw [hp, if_pos rfl]
    exact ⟨y, _, h1, by rw [u_hit, e]; rfl, fun h => by omega, thr_sRN, JR_thr (Nat.le_refl _) (JR_eq hN (Nat.le_refl _) j)⟩
  | true =>
    rw [if_neg (show ¬ true = false by decide)]
    have jj := j
    obtain ⟨j1, _⟩ := j
    rcases j1 with ⟨o1, o2⟩ | ⟨o1, o2, mk, t, tc, b1, b2, b3, ps⟩
    · refine ⟨3, 0, M, if_pos o1, frS_r, fun N hN => ?_⟩
      obtain ⟨y, h1, h2⟩ := hR N hN
      have e : askR N p = 2 := by unfold askR; rw [hp, if_neg (show ¬ true = false by decide), eN hN, if_pos o2]
      exact ⟨y, _, h1, by rw [u_hit, e]; rfl, fun h => by omega, thr_sRN, JR_thr (Nat.le_refl _) (JR_eq hN (Nat.le_refl _) jj)⟩
    · refine ⟨0, f p.toNatClampNeg, M, if_neg (by rw [o1]; decide), frS_r, fun N hN => ?_⟩
      obtain ⟨y, h1, h2⟩ := hR N hN
      have e : askR N p = 0 := by unfold askR; rw [hp, if_neg (show ¬ true = false by decide), eN hN, o2, if_neg (by decide)]
      obtain ⟨k, hk, ek⟩ := wN_of (n := 3) (by decide) hp
      exact ⟨y, _, h1, by rw [u_hit, e]; rfl, fun _ => (h2 e ⟨mk, t, tc, ps⟩ (by rw [ek, i_cl (by omega)]; exact hk)).symm, thr_sRN, JR_thr (Nat.le_refl _) (JR_eq hN (Nat.le_refl _) jj)⟩
theorem P_on {sc : Nat × (Nat → Int32)} {M : sm_M} (h : M.1 3 0 0 5 = 0 ∨ M.1 3 0 0 5 = 1) : dn sc kCourse_isOn 0 [.inr (.inr (3, 0, 0))] [] M = some (0, .inl (M.1 3 0 0 5), M) := by
  rw [E_Course_isOn_0]
  rcases h with h | h
  · rw [h, if_pos rfl]
  · rw [h, if_neg (by decide), if_pos rfl]
theorem JR_on {a : Nat → Nat → Int32} {M : sm_M} {B : Nat} (j : JR a M B) : M.1 3 0 0 5 = 0 ∨ M.1 3 0 0 5 = 1 := j.1.imp (fun h => h.1) (fun h => h.1)
theorem askR_p {N : sm_M} {p : Int32} (h : askR N p = 0) : ∃ q, q < 3 ∧ p = nI q := by
  unfold askR at h
  cases hp : wN p 3 with
  | false => rw [hp, if_pos rfl] at h; exact absurd h (by decide)
  | true => exact wN_of (n := 3) (by decide) hp
theorem S_state {sc : Nat × (Nat → Int32)} {a : Nat → Nat → Int32} {M : sm_M} {B : Nat} (j : JR a M B) (p : Int32) : SIR (dn sc kTop_state 0 [.inr (.inr (9, 0, 0)), .inl p] [] M) (fun N => dn sc kModel_state 0 [.inr (.inr (10, 0, 0)), .inl p] [] N) mpG a M B := by
  refine S_ask j p _ _ (fun q => M.1 0 q 0 7) ?_ (fun N hN => ?_)
  · rw [E_Top_state_0, P_within, r1_s, show (!decide (p < 0) && decide (p < 3)) = wN p 3 from rfl]
    cases hp : wN p 3 with
    | false => rw [if_pos (show bI false = 0 from rfl), if_pos rfl]
    | true =>
      obtain ⟨q, hq, rfl⟩ := wN_of (n := 3) (by decide) hp
      rw [if_neg (show ¬ bI true = 0 by decide), if_neg (show ¬ true = false by decide), P_on (JR_on j), r1_s, P_body hq, i_cl (show q < 2147483648 by omega)]
      by_cases z : M.1 3 0 0 5 = 0
      · rw [if_pos z, if_pos z]
      · rw [if_neg z, if_neg z]
        show sm_r1 (dn sc kBody_life 0 [.inr (.inr (0, q, 0))] [] M) _ = _
        rw [E_Body_life_0, r1_s]
  · rw [E_Model_state_0, P_isAsked, r1_s]
    by_cases z : askR N p = 0
    · obtain ⟨q, hq, rfl⟩ := askR_p z
      rw [decide_eq_true z, if_neg (show ¬ bI true = 0 by decide), i_ib hq (by decide), if_pos rfl, i_cl (show q < 2147483648 by omega), u_mis (by omega)]
      refine ⟨_, rfl, fun _ ⟨mk1, t, tc, ps⟩ _ => ?_⟩
      obtain ⟨⟨l, l1, l2, l3⟩, _⟩ := ps.2.2 q hq
      rw [eqT_cell hN (by decide), l3, l2]
    · rw [decide_eq_false z, if_pos (show bI false = 0 from rfl)]
      exact ⟨_, rfl, fun h => absurd h z⟩
theorem S_fault {sc : Nat × (Nat → Int32)} {a : Nat → Nat → Int32} {M : sm_M} {B : Nat} (j : JR a M B) (p : Int32) : SIR (dn sc kTop_fault 0 [.inr (.inr (9, 0, 0)), .inl p] [] M) (fun N => dn sc kModel_fault 0 [.inr (.inr (10, 0, 0)), .inl p] [] N) mpG a M B := by
  refine S_ask j p _ _ (fun q => M.1 0 q 0 8) ?_ (fun N hN => ?_)
  · rw [E_Top_fault_0, P_within, r1_s, show (!decide (p < 0) && decide (p < 3)) = wN p 3 from rfl]
    cases hp : wN p 3 with
    | false => rw [if_pos (show bI false = 0 from rfl), if_pos rfl]
    | true =>
      obtain ⟨q, hq, rfl⟩ := wN_of (n := 3) (by decide) hp
      rw [if_neg (show ¬ bI true = 0 by decide), if_neg (show ¬ true = false by decide), P_on (JR_on j), r1_s, P_body hq, i_cl (show q < 2147483648 by omega)]
      by_cases z : M.1 3 0 0 5 = 0
      · rw [if_pos z, if_pos z]
      · rw [if_neg z, if_neg z]
        show sm_r1 (dn sc kBody_broken 0 [.inr (.inr (0, q, 0))] [] M) _ = _
        rw [E_Body_broken_0, r1_s]
  · rw [E_Model_fault_0, P_isAsked, r1_s]
    by_cases z : askR N p = 0
    · obtain ⟨q, hq, rfl⟩ := askR_p z
      rw [decide_eq_true z, if_neg (show ¬ bI true = 0 by decide), i_ib hq (by decide), if_pos rfl, i_cl (show q < 2147483648 by omega), u_mis (by omega)]
      refine ⟨_, rfl, fun _ ⟨mk1, t, tc, ps⟩ _ => ?_⟩
      rw [eqT_cell hN (by decide), (ps.2.2 q hq).2.1]
    · rw [decide_eq_false z, if_pos (show bI false = 0 from rfl)]
      exact ⟨_, rfl, fun h => absurd h z⟩
theorem S_place {sc : Nat × (Nat → Int32)} {a : Nat → Nat → Int32} {M : sm_M} {B : Nat} (j : JR a M B) (p : Int32) : SIR (dn sc kTop_place 0 [.inr (.inr (9, 0, 0)), .inl p] [] M) (fun N => dn sc kModel_place 0 [.inr (.inr (10, 0, 0)), .inl p] [] N) mpG a M B := by
  refine S_ask j p _ _ (fun q => M.1 0 q 0 9) ?_ (fun N hN => ?_)
  · rw [E_Top_place_0, P_within, r1_s, show (!decide (p < 0) && decide (p < 3)) = wN p 3 from rfl]
    cases hp : wN p 3 with
    | false => rw [if_pos (show bI false = 0 from rfl), if_pos rfl]
    | true =>
      obtain ⟨q, hq, rfl⟩ := wN_of (n := 3) (by decide) hp
      rw [if_neg (show ¬ bI true = 0 by decide), if_neg (show ¬ true = false by decide), P_on (JR_on j), r1_s, P_body hq, i_cl (show q < 2147483648 by omega)]
      by_cases z : M.1 3 0 0 5 = 0
      · rw [if_pos z, if_pos z]
      · rw [if_neg z, if_neg z]
        show sm_r1 (dn sc kBody_spot 0 [.inr (.inr (0, q, 0))] [] M) _ = _
        rw [E_Body_spot_0, r1_s]
  · rw [E_Model_place_0, P_isAsked, r1_s]
    by_cases z : askR N p = 0
    · obtain ⟨q, hq, rfl⟩ := askR_p z
      rw [decide_eq_true z, if_neg (show ¬ bI true = 0 by decide), i_ib hq (by decide), if_pos rfl, i_cl (show q < 2147483648 by omega), u_mis (by omega)]
      refine ⟨_, rfl, fun _ ⟨mk1, t, tc, ps⟩ _ => ?_⟩
      obtain ⟨_, _, ⟨o, o1, o2, o3⟩, _⟩ := ps.2.2 q hq
      rw [eqT_cell hN (by decide), o3, o2]
    · rw [decide_eq_false z, if_pos (show bI false = 0 from rfl)]
      exact ⟨_, rfl, fun h => absurd h z⟩
theorem S_made {sc : Nat × (Nat → Int32)} {a : Nat → Nat → Int32} {M : sm_M} {B : Nat} (j : JR a M B) : SIR (dn sc kTop_made 0 [.inr (.inr (9, 0, 0))] [] M) (fun N => dn sc kModel_made 0 [.inr (.inr (10, 0, 0))] [] N) mpG a M B := by
  obtain ⟨mk, _, m2, m3⟩ := j.2.2
  refine ⟨0, nI mk, M, ?_, frS_r, fun N hN => ⟨nI mk, sm_u N 10 0 0 0 0, ?_, u_hit, fun _ => rfl, thr_sRN, JR_thr (Nat.le_refl _) (JR_eq hN (Nat.le_refl _) j)⟩⟩
  · rw [E_Top_made_0, E_Course_ledger_0]
    show sm_r1 (dn sc kLedger_numbered 0 [.inr (.inr (6, 0, 0))] [] M) _ = _
    rw [E_Ledger_numbered_0, r1_s, m2]
  · dsimp only
    rw [E_Model_made_0, u_mis (by omega), eqT_cell hN (by decide), m3]
theorem S_drops {sc : Nat × (Nat → Int32)} {a : Nat → Nat → Int32} {M : sm_M} {B : Nat} (j : JR a M B) : SIR (dn sc kTop_drops 0 [.inr (.inr (9, 0, 0))] [] M) (fun N => dn sc kModel_drops 0 [.inr (.inr (10, 0, 0))] [] N) mpG a M B := by
  obtain ⟨d, _, m2, m3, _⟩ := j.2.1.1
  refine ⟨0, nI d, M, ?_, frS_r, fun N hN => ⟨nI d, sm_u N 10 0 0 0 0, ?_, u_hit, fun _ => rfl, thr_sRN, JR_thr (Nat.le_refl _) (JR_eq hN (Nat.le_refl _) j)⟩⟩
  · rw [E_Top_drops_0, E_Course_ledger_0]
    show sm_r1 (dn sc kLedger_told 0 [.inr (.inr (6, 0, 0))] [] M) _ = _
    rw [E_Ledger_told_0, r1_s, m2]
  · dsimp only
    rw [E_Model_drops_0, u_mis (by omega), eqT_cell hN (by decide), m3]
