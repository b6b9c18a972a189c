/-! LEVEL B: the run: a turn, on both sides -/
def linB (M : sm_M) (p : Nat) : Nat → Nat → Bool
  | 0, _ => false
  | n + 1, i => (decide (hC M p i = 1) && decide (kC M p i = 2)) || linB M p n (i + 1)
def olB (a : Nat → Nat → Int32) (M : sm_M) (p : Nat) : Nat → Nat → Bool
  | 0, _ => false
  | n + 1, c => (!decide (aF a p c (M.1 0 p 6 c) = -1) && !decide (aF a p c (M.1 0 p 6 c) = 4)) || olB a M p n (c + 1)
theorem linB_s {M : sm_M} {p n i : Nat} : linB M p (n + 1) i = ((decide (hC M p i = 1) && decide (kC M p i = 2)) || linB M p n (i + 1)) := rfl
theorem olB_s {a : Nat → Nat → Int32} {M : sm_M} {p n c : Nat} : olB a M p (n + 1) c = ((!decide (aF a p c (M.1 0 p 6 c) = -1) && !decide (aF a p c (M.1 0 p 6 c) = 4)) || olB a M p n (c + 1)) := rfl
def edT (a : Nat → Nat → Int32) (M : sm_M) (p : Nat) : Int32 := if linB M p 6 0 = true then 7 else if olB a M p 3 0 = true then 8 else 0
theorem P_cEnd6 {sc : Nat × (Nat → Int32)} {a : Nat → Nat → Int32} {M N : sm_M} {p : Nat} (t : rTel a M) (rs : RS a M N) (hp : p < 3) : ∀ n c, c + n = 3 → dn sc kCourse_endFault 6 [.inr (.inr (3, 0, 0)), .inl (nI p), .inl (nI c)] [] M = some (0, .inl (if olB a M p n c = true then 8 else 0), M) := by
  intro n
  induction n with
  | zero =>
    intro c hc
    obtain rfl : c = 3 := by omega
    rw [E_Course_endFault_6, if_neg (by decide)]; rfl
  | succ n ih =>
    intro c hc
    have c3 : c < 3 := by omega
    obtain ⟨s, s1, s2⟩ := (rs p hp).2.2.2.1 c c3
    rw [E_Course_endFault_6, if_pos (show nI c < 3 from by rw [show (3 : Int32) = nI 3 from rfl, i_lt (by omega) (by decide)]; exact c3), i_ib hp (by decide), if_pos rfl, i_cl (show p < 2147483648 by omega), P_stepOf c3, r1_s, P_aF t.2.2 c3 hp (Or.inr ⟨s, s1, s2⟩), r1_s, nI_1, ih (c + 1) (by omega)]
    rw [olB_s]
    by_cases z : aF a p c (M.1 0 p 6 c) = -1
    · rw [if_pos z, decide_eq_true z]; rfl
    · rw [if_neg z, decide_eq_false z]
      by_cases z4 : aF a p c (M.1 0 p 6 c) = 4
      · rw [if_pos z4, decide_eq_true z4]; rfl
      · rw [if_neg z4, decide_eq_false z4]; rfl
theorem P_cEnd1 {sc : Nat × (Nat → Int32)} {M : sm_M} {p : Nat} (hp : p < 3) : ∀ n i, i + n = 6 → dn sc kCourse_endFault 1 [.inr (.inr (3, 0, 0)), .inl (nI p), .inl (nI i)] [] M = if linB M p n i = true then some (0, .inl 7, M) else dn sc kCourse_endFault 6 [.inr (.inr (3, 0, 0)), .inl (nI p), .inl 0] [] M := by
  intro n
  induction n with
  | zero =>
    intro i hi
    obtain rfl : i = 6 := by omega
    rw [E_Course_endFault_1, if_neg (by decide)]; rfl
  | succ n ih =>
    intro i hi
    have i6 : i < 6 := by omega
    rw [E_Course_endFault_1, if_pos (show nI i < 6 from by rw [show (6 : Int32) = nI 6 from rfl, i_lt (by omega) (by decide)]; exact i6), i_ib hp (by decide), if_pos rfl, i_cl (show p < 2147483648 by omega), P_bLinear i6, r1_s, nI_1, ih (i + 1) (by omega)]
    rw [linB_s]
    cases (decide (hC M p i = 1) && decide (kC M p i = 2)) with
    | true => rw [if_neg (show ¬ bI true = 0 by decide), Bool.true_or, if_pos rfl]
    | false => rw [if_pos (show bI false = 0 from rfl), Bool.false_or]
theorem P_cEnd {sc : Nat × (Nat → Int32)} {a : Nat → Nat → Int32} {M N : sm_M} {p : Nat} (t : rTel a M) (rs : RS a M N) (hp : p < 3) : dn sc kCourse_endFault 0 [.inr (.inr (3, 0, 0)), .inl (nI p)] [] M = some (0, .inl (edT a M p), M) := by
  rw [E_Course_endFault_0, show dn sc kCourse_endFault 1 [.inr (.inr (3, 0, 0)), .inl (nI p), .inl 0] [] M = _ from P_cEnd1 hp 6 0 (by decide), show dn sc kCourse_endFault 6 [.inr (.inr (3, 0, 0)), .inl (nI p), .inl 0] [] M = _ from P_cEnd6 t rs hp 3 0 (by decide)]
  unfold edT
  split <;> rfl
theorem ask_n {a : Nat → Nat → Int32} {c p s : Nat} (wf : wfA a) (ho : ofA a c p = true) (hs : s < pnA a (prA a c)) : ¬ askA a c p s = -1 := by
  obtain ⟨h1, _, _, _, _, _, _, g⟩ := of_c wf ho
  obtain ⟨k, hk, ek⟩ := okS_wn ((wf.1 _ (wf.2.2.2.2 c h1).2.2.2.1).2.2 s hs)
  unfold askA
  rw [if_pos hs, ek]
  rcases g with l | ⟨l, r⟩
  · rw [if_pos l.symm]; exact (by decide : ∀ k, k < 5 → ¬ nI k = -1) k hk
  · rw [if_neg (fun z => l z.symm), if_pos r.symm]; exact (by decide : ∀ k, k < 5 → ¬ trn (nI k) = -1) k hk
theorem aF_nof {a : Nat → Nat → Int32} {c p : Nat} {s : Int32} (h : ofA a c p = false) : aF a p c s = -1 := by
  unfold aF
  by_cases q : c < cnA a ∧ ¬ s < 0
  · rw [if_pos q]
    unfold ofA at h
    rw [decide_eq_true q.1, Bool.true_and, Bool.or_eq_false_iff, decide_eq_false_iff_not, decide_eq_false_iff_not] at h
    unfold askA
    have h1 : ¬ p = lA a c := fun z => h.1 z.symm
    have h2 : ¬ p = rA a c := fun z => h.2 z.symm
    rw [if_neg h1, if_neg h2]
    split <;> rfl
  · rw [if_neg q]
theorem olB_n {a : Nat → Nat → Int32} {M : sm_M} {p : Nat} : ∀ n c, cnA a ≤ c → olB a M p n c = false := by
  intro n
  induction n with
  | zero => intro c _; rfl
  | succ n ih =>
    intro c hc
    rw [olB_s]
    have : ofA a c p = false := by
      unfold ofA
      rw [decide_eq_false (by omega)]; rfl
    rw [aF_nof this, ih (c + 1) (by omega)]; rfl
theorem P_mEnds8 {sc : Nat × (Nat → Int32)} {a : Nat → Nat → Int32} {M N : sm_M} {p : Nat} (wf : wfA a) (r : cr a N) (rs : RS a M N) (hp : p < 3) : ∀ n c, c + n = 3 → dn sc kModel_ends 8 [.inr (.inr (10, 0, 0)), .inl (nI p), .inl 0, .inl (nI c)] [] N = dn sc kModel_ends 15 [.inr (.inr (10, 0, 0)), .inl (nI p), .inl (if olB a M p n c = true then 8 else 0)] [] N := by
  have cn3 := wf.2.2.2.1
  have e5 : N.1 10 0 0 5 = nI (cnA a) := r.1.trans wf.2.2.1
  intro n
  induction n with
  | zero =>
    intro c hc
    obtain rfl : c = 3 := by omega
    rw [E_Model_ends_8, e5, if_neg (by rw [i_lt (by omega) (by omega)]; omega)]; rfl
  | succ n ih =>
    intro c hc
    have c3 : c < 3 := by omega
    by_cases z : c < cnA a
    · rw [E_Model_ends_8, e5, if_pos (by rw [i_lt (by omega) (by omega)]; exact z), if_pos rfl, P_mIsOf wf r c3 hp, r1_s]
      rw [olB_s]
      cases ho : ofA a c p with
      | false =>
        rw [if_pos (show bI false = 0 from rfl), nI_1, ih (c + 1) (by omega), aF_nof ho]; rfl
      | true =>
        obtain ⟨s, s1, s2, s3⟩ := (rs p hp).2.2.2.2 c ho
        have h8 := (wf.1 _ (wf.2.2.2.2 c z).2.2.2.1).2.1
        have ea : aF a p c (M.1 0 p 6 c) = askA a c p s := by
          unfold aF
          rw [s2, i_cl (by omega), if_pos (show c < cnA a ∧ ¬ nI s < 0 from ⟨z, by rw [i_neg (by omega)]; exact id⟩)]
        rw [if_neg (show ¬ bI true = 0 by decide), P_mSide0 wf r ho, r1_s, i_ib (qN_6 c3) (by decide), if_pos rfl, q_cl c3, s3, P_mStepFor wf r hp ho s1, r1_s, ea, decide_eq_false (ask_n wf ho s1), nI_1]
        by_cases z4 : askA a c p s = 4
        · rw [if_pos z4, decide_eq_true z4, ih (c + 1) (by omega)]; rfl
        · rw [if_neg z4, decide_eq_false z4]
          show dn sc kModel_ends 8 _ [] N = dn sc kModel_ends 15 [.inr (.inr (10, 0, 0)), .inl (nI p), .inl 8] [] N
          rw [E_Model_ends_8, e5]
          by_cases z1 : c + 1 < cnA a
          · rw [if_pos (by rw [i_lt (by omega) (by omega)]; exact z1), if_neg (show ¬ (8 : Int32) = 0 by decide)]
          · rw [if_neg (by rw [i_lt (by omega) (by omega)]; exact z1)]
    · rw [E_Model_ends_8, e5, if_neg (by rw [i_lt (by omega) (by omega)]; exact z), olB_n (n + 1) c (by omega), if_neg (show ¬ false = true by decide)]
theorem P_mEnds1 {sc : Nat × (Nat → Int32)} {M N : sm_M} {p mk T tc : Nat} (pv : PV p M N mk T tc) (hp : p < 3) : ∀ n i l, i + n = 6 → dn sc kModel_ends 1 [.inr (.inr (10, 0, 0)), .inl (nI p), .inl l, .inl (nI (6 * p + i))] [] N = dn sc kModel_ends 8 [.inr (.inr (10, 0, 0)), .inl (nI p), .inl (if linB M p n i = true then 7 else l), .inl 0] [] N := by
  intro n
  induction n with
  | zero =>
    intro i l hi
    obtain rfl : i = 6 := by omega
    rw [E_Model_ends_1, if_neg (show ¬ nI (6 * p + 6) < 6 * nI p + 6 from by rw [show (6 : Int32) = nI 6 from rfl, i_mul, nI_add, i_lt (by omega) (by omega)]; omega)]; rfl
  | succ n ih =>
    intro i l hi
    have i6 : i < 6 := by omega
    have i18 : sm_ib (nI (6 * p + i)) 18 = true := i_ib (by omega) (by decide)
    rw [E_Model_ends_1, if_pos (show nI (6 * p + i) < 6 * nI p + 6 from by rw [show (6 : Int32) = nI 6 from rfl, i_mul, nI_add, i_lt (by omega) (by omega)]; omega), i18, if_pos rfl, i_cl (show 6 * p + i < 2147483648 by omega), aR_i i6, aR_i i6, ← (pv.1 i i6).1, ← (pv.1 i i6).2.2, nI_1, Nat.add_assoc, if_pos rfl]
    rw [linB_s]
    by_cases o1 : hC M p i = 1
    · rw [if_pos o1, decide_eq_true o1]
      by_cases k : kC M p i = 2
      · rw [if_pos k, decide_eq_true k, ih (i + 1) 7 (by omega)]
        show dn sc kModel_ends 8 [_, _, .inl (if linB M p n (i + 1) = true then 7 else 7), _] [] N = dn sc kModel_ends 8 [_, _, .inl 7, _] [] N
        split <;> rfl
      · rw [if_neg k, decide_eq_false k, ih (i + 1) l (by omega)]; rfl
    · rw [if_neg o1, decide_eq_false o1, ih (i + 1) l (by omega)]; rfl
theorem P_mEnds {sc : Nat × (Nat → Int32)} {a : Nat → Nat → Int32} {M N : sm_M} {p mk T tc : Nat} (wf : wfA a) (r : cr a N) (rs : RS a M N) (pv : PV p M N mk T tc) (hp : p < 3) : dn sc kModel_ends 0 [.inr (.inr (10, 0, 0)), .inl (nI p)] [] N = dn sc kModel_ends 15 [.inr (.inr (10, 0, 0)), .inl (nI p), .inl (edT a M p)] [] N := by
  have e := P_mEnds1 (sc := sc) pv hp 6 0 0 (by decide)
  rw [Nat.add_zero] at e
  rw [E_Model_ends_0, show (6 : Int32) * nI p = nI (6 * p) by rw [show (6 : Int32) = nI 6 from rfl, i_mul], e]
  unfold edT
  by_cases z : linB M p 6 0 = true
  · have e5 : N.1 10 0 0 5 = nI (cnA a) := r.1.trans wf.2.2.1
    rw [if_pos z, if_pos z, E_Model_ends_8, e5, if_neg (show ¬ (7 : Int32) = 0 by decide)]
    split <;> rfl
  · rw [if_neg z, if_neg z]
    exact P_mEnds8 wf r rs hp 3 0 (by decide)
theorem PS_tick {a : Nat → Nat → Int32} {M N : sm_M} {mk t tc : Nat} (h : PS a M N mk t t tc) : PS a M (sm_u N 10 0 0 38 (nI (t + 1))) mk (t + 1) t tc := by
  obtain ⟨q, rm, rs⟩ := h
  refine ⟨fun p hp => ?_, RM_fr rm (fun _ _ => rfl) (fun j i _ _ => u_mis (by omega)) (Nat.le_refl _), RS_fr rs (fun _ _ _ _ _ => rfl) (fun j i _ => u_mis (by omega))⟩
  obtain ⟨q1, q2, q3, q4, q5, q6, q7⟩ := q p hp
  refine ⟨PV_o q1 rfl rfl rfl rfl rfl (fun j _ _ => aR_0 (by omega)), RD_fr q2 rfl (fun _ => rfl) (u_mis (by omega)) (fun i => u_mis (by omega)), ?_, q4, (u_mis (by omega)).trans q5, u_hit, q7⟩
  unfold RI
  rw [Wt_35 (by omega)]
  simp only [aR_0 (show ¬ 29 = 0 by decide), aR_0 (show ¬ 30 = 0 by decide)]
  exact q3
theorem ft_pos {a : Nat → Nat → Int32} {M : sm_M} {p o : Nat} : ftT a M p o = 0 ∨ (¬ ftT a M p o = 0 ∧ 0 < ftT a M p o) := by
  have hm : mfT a M p o = 0 ∨ (¬ mfT a M p o = 0 ∧ 0 < mfT a M p o) := by
    unfold mfT
    repeat' split
    all_goals decide
  unfold ftT
  repeat' split
  all_goals first | exact hm | decide
theorem ed_pos {a : Nat → Nat → Int32} {M : sm_M} {p : Nat} : edT a M p = 0 ∨ (¬ edT a M p = 0 ∧ 0 < edT a M p) := by
  unfold edT
  repeat' split
  all_goals decide
/-- a turn of a process that goes on and need not wait -/
theorem T_turn {sc : Nat × (Nat → Int32)} {a : Nat → Nat → Int32} {M N : sm_M} {p mk t tc : Nat} {coin : Bool} (wf : wfA a) (tl : rTel a M) (r : cr a N) (ps : PS a M N mk t t tc) (hmk : mk + 1 < 2000000) (ht : t < 2000000) (htc : tc < 2000000) (hp : p < 3) (hw : dn sc kCourse_mustWait 0 [.inr (.inr (3, 0, 0)), .inl (nI p)] [] M = some (0, .inl 0, M)) :
    ∃ M1 N1, dn sc kCourse_advance 0 [.inr (.inr (3, 0, 0)), .inl (nI p), .inl (bI coin)] [] M = some (0, .inl 1, M1) ∧ dn sc kModel_goesFurther 0 [.inr (.inr (10, 0, 0)), .inl (nI p), .inl (bI coin)] [] N = some (0, .inl 0, N1) ∧ PE a mk t tc M N M1 N1 := by
  have h16 := on16 wf hp
  have ps1 := PS_tick ps
  obtain ⟨_, _, _, _, _, q38, _⟩ := ps.1 p hp
  have fN1 : frS sRN N (sm_u N 10 0 0 38 (nI (t + 1))) := frS_u ⟨rfl, rfl, Or.inr ⟨rfl, by omega⟩⟩
  generalize hN1 : sm_u N 10 0 0 38 (nI (t + 1)) = N1 at ps1 fN1
  have r1 : cr a N1 := cr_run fN1 r
  have e10 : N1.1 10 0 10 p = nI (onA a p) := (cr_c r1 10 p (by decide) (by decide)).trans (wf.2.1 p hp).1
  obtain ⟨_, _, ⟨o, o1, o2, o3⟩, _⟩ := ps1.2.2 p hp
  have r35 : cr a N1 := r1
  -- the end of a process
  have hE : ∀ op, ∃ M1 N2, dn sc kCourse_advance 5 [.inr (.inr (3, 0, 0)), .inl (nI p), .inl (bI coin), .inl op, .inl 13] [.inl (edT a M p)] M = some (0, .inl 1, M1) ∧ dn sc kModel_ends 0 [.inr (.inr (10, 0, 0)), .inl (nI p)] [] N1 = some (0, .inl 0, N2) ∧ PE a mk t tc M N M1 N2 := by
    intro op
    have em := P_mEnds (sc := sc) wf r1 ps1.2.2 (ps1.1 p hp).1 hp
    rcases ed_pos (a := a) (M := M) (p := p) with z | ⟨z, z2⟩
    · obtain ⟨M1, N2, g1, g2, g3, g4, g5⟩ := T_fin (sc := sc) ps1 hp
      refine ⟨M1, N2, ?_, ?_, ⟨mk, tc, Nat.le_refl _, by omega, Nat.le_refl _, by omega, PS_up g3 (by omega)⟩, g4, frS_t fN1 g5⟩
      · rw [E_Course_advance_5, z, if_pos rfl, if_pos rfl, i_ib hp (by decide), if_pos rfl, i_cl (show p < 2147483648 by omega), g1, r0_s]
      · rw [em, z, E_Model_ends_15, if_neg (by decide), i_ib hp (by decide), if_pos rfl, i_cl (show p < 2147483648 by omega), g2, r0_s]
    · obtain ⟨M1, M2, N2, g1, g2, g3, g4, g5, g6⟩ := T_die (sc := sc) (x := edT a M p) wf tl r1 ps1 (by omega) hp
      refine ⟨M2, N2, ?_, ?_, ⟨mk, tc, Nat.le_refl _, by omega, Nat.le_refl _, by omega, PS_up g4 (by omega)⟩, g5, frS_t fN1 g6⟩
      · rw [E_Course_advance_5, if_neg z, i_ib hp (by decide), if_pos rfl, i_cl (show p < 2147483648 by omega), g1, r0_s, g2, r0_s]
      · rw [em, E_Model_ends_15, if_pos z2, g3, r0_s]
  have e28 : N1.1 10 0 28 p = nI o := o3
  have eG : dn sc kModel_goesFurther 0 [.inr (.inr (10, 0, 0)), .inl (nI p), .inl (bI coin)] [] N = (if nI o = nI (onA a p) then sm_r0 (dn sc kModel_ends 0 [.inr (.inr (10, 0, 0)), .inl (nI p)] [] N1) (fun M1 => some (0, .inl 0, M1)) else sm_r1 (dn sc kModel_isStop 0 [.inr (.inr (10, 0, 0)), .inl (nI p), .inl (nI o)] [] N1) (fun x3 M2 => if x3 = 0 then sm_r1 (dn sc kModel_broken 0 [.inr (.inr (10, 0, 0)), .inl (nI p), .inl (16 * nI p + M2.1 10 0 28 p)] [] M2) (fun x5 M4 => if 0 < x5 then sm_r0 (dn sc kModel_dies 0 [.inr (.inr (10, 0, 0)), .inl (nI p), .inl x5] [] M4) (fun M7 => some (0, .inl 0, M7)) else sm_r0 (dn sc kModel_carriesOut 0 [.inr (.inr (10, 0, 0)), .inl (nI p), .inl (16 * nI p + M2.1 10 0 28 p), .inl (bI coin)] [] M4) (fun M6 => some (0, .inl 0, M6))) else sm_r0 (dn sc kModel_ends 0 [.inr (.inr (10, 0, 0)), .inl (nI p)] [] M2) (fun M8 => some (0, .inl 0, M8)))) := by
    rw [E_Model_goesFurther_0, q38, nI_1, hN1, i_ib hp (by decide)]
    simp only [if_true]
    rw [i_cl (show p < 2147483648 by omega), e28, e10]
  by_cases oe : o = onA a p
  · subst oe
    obtain ⟨M1, N2, g1, g2, g3⟩ := hE (nI (onA a p))
    refine ⟨M1, N2, ?_, ?_, g3⟩
    · rw [E_Course_advance_0, hw, r1_s, if_pos rfl, i_ib hp (by decide), if_pos rfl, i_cl (show p < 2147483648 by omega), E_Body_spot_0, o2, r1_s, if_pos rfl, P_kWh_e wf tl hp, r1_s, if_pos rfl, P_cEnd tl ps1.2.2 hp, r1_s, g1]
    · rw [eG, if_pos rfl, g2, r0_s]
  · have ho : o < onA a p := by omega
    have eA : dn sc kCourse_advance 0 [.inr (.inr (3, 0, 0)), .inl (nI p), .inl (bI coin)] [] M = if opW a p o = 13 then dn sc kCourse_advance 5 [.inr (.inr (3, 0, 0)), .inl (nI p), .inl (bI coin), .inl (nI o), .inl (opW a p o)] [.inl (edT a M p)] M else dn sc kCourse_advance 5 [.inr (.inr (3, 0, 0)), .inl (nI p), .inl (bI coin), .inl (nI o), .inl (opW a p o)] [.inl (ftT a M p o)] M := by
      rw [E_Course_advance_0, hw, r1_s, if_pos rfl, i_ib hp (by decide), if_pos rfl, i_cl (show p < 2147483648 by omega), E_Body_spot_0, o2, r1_s, if_pos rfl, P_kWh wf tl hp ho, r1_s, P_cEnd tl ps1.2.2 hp, r1_s, P_cFault wf tl ps1.2.2 ps1.2.1 (ps1.1 p hp).1 (by omega) hp ho, r1_s]
    rw [eG, if_neg (by rw [i_eq (by omega) (by omega)]; exact oe), P_mStop wf r1 hp (by omega), r1_s, decide_eq_true ho, Bool.true_and, eA]
    by_cases w13 : opW a p o = 13
    · obtain ⟨M1, N2, g1, g2, g3⟩ := hE (nI o)
      refine ⟨M1, N2, ?_, ?_, g3⟩
      · rw [if_pos w13, w13, g1]
      · rw [decide_eq_true w13, if_neg (show ¬ bI true = 0 by decide), g2, r0_s]
    · have c16 : 16 * nI p + nI o = nI (16 * p + o) := by rw [show (16 : Int32) = nI 16 from rfl, i_mul, nI_add]
      rw [if_neg w13, decide_eq_false w13, if_pos (show bI false = 0 from rfl), e28, c16, P_mBroken wf r1 ps1.2.2 ps1.2.1 (ps1.1 p hp).1 (Q_uq (ps1.1 p hp)) (by omega) hp ho, r1_s]
      rcases ft_pos (a := a) (M := M) (p := p) (o := o) with z | ⟨z, z2⟩
      · have hwt : wtB a M p o = false := by
          have e := P_cWait (sc := sc) wf tl ps1.2.2 hp ho o2
          rw [hw] at e
          cases hb : wtB a M p o with
          | false => rfl
          | true =>
            rw [hb] at e
            have e2 := Sum.inl.inj (Prod.mk.inj (Prod.mk.inj (Option.some.inj e)).2).1
            exact absurd e2 (by decide)
        obtain ⟨M1, N2, g1, g2, g3, g4, g5⟩ := T_perf (sc := sc) (coin := coin) wf tl r1 ps1 hmk ht htc hp ho e28 z hwt w13
        refine ⟨M1, N2, ?_, ?_, g3, g4, frS_t fN1 g5⟩
        · rw [z, E_Course_advance_5, if_pos rfl, if_neg w13, g1, r0_s]
        · rw [z, if_neg (by decide), g2, r0_s]
      · obtain ⟨M1, M2, N2, g1, g2, g3, g4, g5, g6⟩ := T_die (sc := sc) (x := ftT a M p o) wf tl r1 ps1 (by omega) hp
        refine ⟨M2, N2, ?_, ?_, ⟨mk, tc, Nat.le_refl _, by omega, Nat.le_refl _, by omega, PS_up g4 (by omega)⟩, g5, frS_t fN1 g6⟩
        · rw [E_Course_advance_5, if_neg z, i_ib hp (by decide), if_pos rfl, i_cl (show p < 2147483648 by omega), g1, r0_s, g2, r0_s]
        · rw [if_pos z2, g3, r0_s]
