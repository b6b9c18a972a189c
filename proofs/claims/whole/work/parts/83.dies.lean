/-! LEVEL B: the run: a process dies or ends -/
theorem PS_empty {a : Nat → Nat → Int32} {M N : sm_M} {mk T b tc k : Nat} (h : PS a M N mk T b tc) (hk : k < 6) : PS a (sm_u M 7 0 1 k 0) (sm_u N 10 0 36 k 0) mk T b tc := by
  obtain ⟨q, rm, rs⟩ := h
  have fn : frS jN N (sm_u N 10 0 36 k 0) := frS_u (by unfold jN; omega)
  refine ⟨QA_j q (frS_u (Or.inl rfl)) fn (RI_j (q 0 (by decide)).2.2.1 fn (fun k' i x hk' w => ?_)), fun k' hk' => ?_, RS_fr rs (fun p j i _ _ => u_mis (by omega)) (fun j i _ => u_mis (by omega))⟩
  · obtain ⟨⟨m', g1, g2, g3⟩, g4⟩ := w
    rw [u_at] at g2
    rw [u_mis (by omega)] at g4
    by_cases z : k' = k
    · rw [if_pos z, show (0 : Int32) = nI 0 from rfl, i_eq (by omega) (by omega)] at g2; omega
    · rw [if_neg z] at g2
      exact ⟨⟨m', g1, g2, g3⟩, g4⟩
  · obtain ⟨m, m1, m2, m3, m4⟩ := rm k' hk'
    by_cases z : k' = k
    · subst z
      exact ⟨0, by decide, u_hit, u_hit, fun i hi => absurd hi (by omega)⟩
    · refine ⟨m, m1, (u_mis (by omega)).trans m2, (u_mis (by omega)).trans m3, fun i hi => ?_⟩
      rw [u_mis (by omega), u_mis (by omega), u_mis (by omega), u_mis (by omega)]
      exact m4 i hi
def FF (M N M1 N1 : sm_M) : Prop := frS sRC M M1 ∧ frS sRN N N1
theorem FF_t {M N M1 N1 M2 N2 : sm_M} (h : FF M N M1 N1) (h2 : FF M1 N1 M2 N2) : FF M N M2 N2 := ⟨frS_t h.1 h2.1, frS_t h.2 h2.2⟩
theorem D_in {sc : Nat × (Nat → Int32)} {a : Nat → Nat → Int32} {p c mk T b tc m : Nat} (hmk : mk < 2000000) (hc : c < 3) (m2 : m ≤ 2) : ∀ (n i : Nat) (M N : sm_M), i + n = m → M.1 7 0 1 (qN a c p) = nI m → N.1 10 0 36 (qN a c p) = nI m → PS a M N mk T b tc →
    ∃ M' N', dn sc kCourse_dropWaiting 3 [.inr (.inr (3, 0, 0)), .inl (nI p), .inl (nI c), .inl (nI (qN a c p)), .inl (nI i)] [] M = dn sc kCourse_dropWaiting 1 [.inr (.inr (3, 0, 0)), .inl (nI p), .inl (nI (c + 1))] [] M' ∧ dn sc kModel_dies 4 [.inr (.inr (10, 0, 0)), .inl (nI p), .inl (nI c), .inl (nI (qN a c p)), .inl (nI i)] [] N = dn sc kModel_dies 1 [.inr (.inr (10, 0, 0)), .inl (nI p), .inl (nI (c + 1))] [] N' ∧ PS a M' N' mk T b tc ∧ FF M N M' N' := by
  have q6 := qN_6 (a := a) (p := p) hc
  intro n
  induction n with
  | zero =>
    intro i M N hi h1 h2 ps
    obtain rfl : i = m := by omega
    refine ⟨sm_u M 7 0 1 (qN a c p) 0, sm_u N 10 0 36 (qN a c p) 0, ?_, ?_, PS_empty ps q6, frS_u (Or.inr (Or.inr rfl)), sRN_u (by decide)⟩
    · rw [E_Course_dropWaiting_3, P_gSize q6, r1_s, h1, if_neg (by rw [i_lt (by omega) (by omega)]; omega), P_gEmpty q6, r0_s, nI_1]
    · rw [E_Model_dies_4, i_ib q6 (by decide), if_pos rfl, q_cl hc, h2, if_neg (by rw [i_lt (by omega) (by omega)]; omega), if_pos rfl, nI_1]
  | succ n ih =>
    intro i M N hi h1 h2 ps
    obtain ⟨m', a1, a2, a3, a4⟩ := ps.2.1 _ q6
    have em : m = m' := by
      have e := h1.symm.trans a2
      rw [i_eq (by omega) (by omega)] at e
      exact e
    subst em
    obtain ⟨g1, g2⟩ := a4 i (by omega)
    have ec : dn sc kCourse_dropWaiting 3 [.inr (.inr (3, 0, 0)), .inl (nI p), .inl (nI c), .inl (nI (qN a c p)), .inl (nI i)] [] M = if M.1 7 0 2 (2 * qN a c p + i) = -1 then dn sc kCourse_dropWaiting 3 [.inr (.inr (3, 0, 0)), .inl (nI p), .inl (nI c), .inl (nI (qN a c p)), .inl (nI (i + 1))] [] M else sm_r0 (dn sc kLedger_drop 0 [.inr (.inr (6, 0, 0)), .inl (M.1 7 0 2 (2 * qN a c p + i))] [] M) (fun M8 => dn sc kCourse_dropWaiting 3 [.inr (.inr (3, 0, 0)), .inl (nI p), .inl (nI c), .inl (nI (qN a c p)), .inl (nI (i + 1))] [] M8) := by
      rw [E_Course_dropWaiting_3, P_gSize q6, r1_s, h1, if_pos (by rw [i_lt (by omega) (by omega)]; omega), P_gVal q6 h1 m2 (by omega), r1_s, if_pos (show i < m by omega), nI_1, P_gVal q6 h1 m2 (by omega), r1_s, if_pos (show i < m by omega)]
    have er : dn sc kModel_dies 4 [.inr (.inr (10, 0, 0)), .inl (nI p), .inl (nI c), .inl (nI (qN a c p)), .inl (nI i)] [] N = if N.1 10 0 38 (2 * qN a c p + i) < 10 then sm_r0 (dn sc kModel_goesAway 0 [.inr (.inr (10, 0, 0)), .inl (N.1 10 0 37 (2 * qN a c p + i))] [] N) (fun M1 => dn sc kModel_dies 4 [.inr (.inr (10, 0, 0)), .inl (nI p), .inl (nI c), .inl (nI (qN a c p)), .inl (nI (i + 1))] [] M1) else dn sc kModel_dies 4 [.inr (.inr (10, 0, 0)), .inl (nI p), .inl (nI c), .inl (nI (qN a c p)), .inl (nI (i + 1))] [] N := by
      rw [E_Model_dies_4, i_ib q6 (by decide), if_pos rfl, q_cl hc, h2, if_pos (by rw [i_lt (by omega) (by omega)]; omega), i_2m, nI_add, i_ib (show 2 * qN a c p + i < 12 by omega) (by decide), if_pos rfl, i_cl (show 2 * qN a c p + i < 2147483648 by omega), if_pos rfl, nI_1]
    rw [ec, er, ← g1]
    rcases g2 with ⟨y, k, y1, k1, e1, e2, e3⟩ | ⟨k, k1, e1, e2, e3⟩
    · have ny : ¬ nI y = -1 := fun g => absurd (nI_pos (show y < 2147483648 by omega)) (by rw [g]; decide)
      obtain ⟨d, d1, d2, d3, _⟩ := (ps.1 0 (by decide)).2.1
      rw [e1, e3, if_neg ny, if_pos ((by decide : ∀ k, k < 3 → nI k < 10) k k1), P_drop d2 d1, r0_s, P_mAway d3 d1, r0_s]
      obtain ⟨M', N', k1, k2, k3, k4⟩ := ih (i + 1) (dpC M (nI y)) (dpR N (nI y)) (by omega) ((dpC_c (by decide)).trans h1) ((dpR_c (by omega)).trans h2) (PS_drop ps)
      exact ⟨M', N', k1, k2, k3, FF_t ⟨fM_sRC (p := 0) dpC_fr, fN_sRN (p := 0) dpR_fr⟩ k4⟩
    · rw [e1, e3, if_pos rfl, if_neg ((by decide : ∀ k, k < 2 → ¬ nI (10 + k) < 10) k k1)]
      exact ih (i + 1) M N (by omega) h1 h2 ps
theorem D_wait {sc : Nat × (Nat → Int32)} {a : Nat → Nat → Int32} {p mk T b tc : Nat} (wf : wfA a) (hmk : mk < 2000000) (hp : p < 3) : ∀ (n c : Nat) (M N : sm_M), c + n = 3 → rTel a M → cr a N → PS a M N mk T b tc →
    ∃ M' N', dn sc kCourse_dropWaiting 1 [.inr (.inr (3, 0, 0)), .inl (nI p), .inl (nI c)] [] M = some (0, .inl 0, M') ∧ dn sc kModel_dies 1 [.inr (.inr (10, 0, 0)), .inl (nI p), .inl (nI c)] [] N = some (0, .inl 0, N') ∧ PS a M' N' mk T b tc ∧ FF M N M' N' := by
  have cn3 := wf.2.2.2.1
  intro n
  induction n with
  | zero =>
    intro c M N hc t r ps
    obtain rfl : c = 3 := by omega
    have e5 : N.1 10 0 0 5 = nI (cnA a) := r.1.trans wf.2.2.1
    exact ⟨M, N, by rw [E_Course_dropWaiting_1, if_neg (by decide)], by rw [E_Model_dies_1, e5, if_neg (by rw [i_lt (by omega) (by omega)]; omega)], ps, frS_r, frS_r⟩
  | succ n ih =>
    intro c M N hc t r ps
    have c3 : c < 3 := by omega
    have e5 : N.1 10 0 0 5 = nI (cnA a) := r.1.trans wf.2.2.1
    have ec : dn sc kCourse_dropWaiting 1 [.inr (.inr (3, 0, 0)), .inl (nI p), .inl (nI c)] [] M = dn sc kCourse_dropWaiting 3 [.inr (.inr (3, 0, 0)), .inl (nI p), .inl (nI c), .inl (if ofA a c p = true then nI (qN a c p) else -1), .inl 0] [] M := by
      rw [E_Course_dropWaiting_1, if_pos (show nI c < 3 from by rw [show (3 : Int32) = nI 3 from rfl, i_lt (by omega) (by decide)]; exact c3), P_qOf wf t.2.2 c3 hp, r1_s]
    rw [ec]
    cases ho : ofA a c p with
    | false =>
      obtain ⟨M', N', k1, k2, k3⟩ := ih (c + 1) M N (by omega) t r ps
      refine ⟨M', N', ?_, ?_, k3⟩
      · rw [if_neg (show ¬ false = true by decide), E_Course_dropWaiting_3, P_gSize_n, r1_s, if_neg (by decide), P_gEmpty_n, r0_s, nI_1, k1]
      · rw [E_Model_dies_1, e5]
        by_cases z : c < cnA a
        · rw [if_pos (by rw [i_lt (by omega) (by omega)]; exact z), P_mIsOf wf r c3 hp, r1_s, ho, if_pos (show bI false = 0 from rfl), nI_1, k2]
        · rw [if_neg (by rw [i_lt (by omega) (by omega)]; exact z), ← k2, E_Model_dies_1, e5, if_neg (by rw [i_lt (by omega) (by omega)]; omega)]
    | true =>
      obtain ⟨h1, _⟩ := of_c wf ho
      obtain ⟨m, m1, m2, m3, _⟩ := ps.2.1 _ (qN_6 (a := a) (p := p) c3)
      obtain ⟨M1, N1, g1, g2, g3, g4⟩ := D_in (sc := sc) (p := p) hmk c3 m1 m 0 M N (by omega) m2 m3 ps
      obtain ⟨M', N', k1, k2, k3, k4⟩ := ih (c + 1) M1 N1 (by omega) (rTel_run g4.1 t) (cr_run g4.2 r) g3
      refine ⟨M', N', ?_, ?_, k3, FF_t g4 k4⟩
      · rw [if_pos rfl]; exact g1.trans k1
      · rw [E_Model_dies_1, e5, if_pos (by rw [i_lt (by omega) (by omega)]; exact h1), P_mIsOf wf r c3 hp, r1_s, ho, if_neg (show ¬ bI true = 0 by decide), P_mSide0 wf r ho, r1_s]
        exact g2.trans k2
theorem PS_own {a : Nat → Nat → Int32} {p mk T b tc mk' tc' : Nat} {M N M1 N1 : sm_M} (ps : PS a M N mk T b tc) (q : Q p M1 N1 mk' T b tc') (fm : frS (fM p) M M1) (fn : frS (fN p) N N1) (h1 : mk ≤ mk') (h3 : tc ≤ tc') : PS a M1 N1 mk' T b tc' :=
  ⟨QA_op ps.1 q fm fn h1 (Nat.le_refl _) h3, RM_fr ps.2.1 (fun j i => fm.2 7 0 j i (by unfold fM; omega)) (fun j i g1 g2 => fn.2 10 0 j i (by unfold fN; omega)) h1, RS_fr ps.2.2 (fun p' j i hp' g => fm.2 0 p' j i (by unfold fM; omega)) (fun j i g => fn.2 10 0 j i (by unfold fN; omega))⟩
theorem PS_life {a : Nat → Nat → Int32} {M N : sm_M} {mk T b tc p l : Nat} (h : PS a M N mk T b tc) (hl : l < 3) : PS a (sm_u M 0 p 0 7 (nI l)) (sm_u N 10 0 26 p (nI l)) mk T b tc := by
  obtain ⟨q, rm, rs⟩ := h
  have fn : frS jN N (sm_u N 10 0 26 p (nI l)) := frS_u (by unfold jN; omega)
  exact ⟨QA_j q (frS_u (by unfold jM; omega)) fn (RI_j (q 0 (by decide)).2.2.1 fn (fun k i x _ w => by rw [Wt_35 (by omega)] at w; exact w)), RM_fr rm (fun j i => u_mis (by omega)) (fun j i _ _ => u_mis (by omega)) (Nat.le_refl _), RS_life rs hl⟩
theorem PS_brk {a : Nat → Nat → Int32} {M N : sm_M} {mk T b tc p : Nat} {x : Int32} (h : PS a M N mk T b tc) : PS a (sm_u M 0 p 0 8 x) (sm_u N 10 0 27 p x) mk T b tc := by
  obtain ⟨q, rm, rs⟩ := h
  have fn : frS jN N (sm_u N 10 0 27 p x) := frS_u (by unfold jN; omega)
  exact ⟨QA_j q (frS_u (by unfold jM; omega)) fn (RI_j (q 0 (by decide)).2.2.1 fn (fun k i x _ w => by rw [Wt_35 (by omega)] at w; exact w)), RM_fr rm (fun j i => u_mis (by omega)) (fun j i _ _ => u_mis (by omega)) (Nat.le_refl _), RS_brk rs⟩
/-- a process dies of a fault -/
theorem T_die {sc : Nat × (Nat → Int32)} {a : Nat → Nat → Int32} {M N : sm_M} {p mk T b tc : Nat} {x : Int32} (wf : wfA a) (t : rTel a M) (r : cr a N) (ps : PS a M N mk T b tc) (hmk : mk < 2000000) (hp : p < 3) :
    ∃ M1 M2 N2, dn sc kBody_die 0 [.inr (.inr (0, p, 0)), .inl x] [] M = some (0, .inl 0, M1) ∧ dn sc kCourse_dropWaiting 0 [.inr (.inr (3, 0, 0)), .inl (nI p)] [] M1 = some (0, .inl 0, M2) ∧ dn sc kModel_dies 0 [.inr (.inr (10, 0, 0)), .inl (nI p), .inl x] [] N = some (0, .inl 0, N2) ∧ PS a M2 N2 mk T b tc ∧ FF M N M2 N2 := by
  have ps1 : PS a (sm_u (sm_u M 0 p 0 7 2) 0 p 0 8 x) (sm_u (sm_u N 10 0 26 p 2) 10 0 27 p x) mk T b tc := PS_brk (PS_life (l := 2) ps (by decide))
  obtain ⟨M1, N1, g1, g2, g3, g4, g5⟩ := D_owned (sc := sc) (all := true) hp (ps1.1 p hp)
  have ps2 := PS_own ps1 g3 g4 g5 (Nat.le_refl _) (Nat.le_refl _)
  have f1 : FF M N M1 N1 := ⟨frS_t (frS_t sRC_u sRC_u) (fM_sRC g4), frS_t (frS_t (sRN_u (by decide)) (sRN_u (by decide))) (fN_sRN g5)⟩
  obtain ⟨M2, N2, k1, k2, k3, k4⟩ := D_wait (sc := sc) wf hmk hp 3 0 M1 N1 (by decide) (rTel_run f1.1 t) (cr_run f1.2 r) ps2
  refine ⟨M1, M2, N2, ?_, ?_, ?_, k3, FF_t f1 k4⟩
  · rw [E_Body_die_0, show (0 : Int32) = bI (!true) from rfl, g1]; rfl
  · rw [E_Course_dropWaiting_0]; exact k1
  · rw [E_Model_dies_0, i_ib hp (by decide), if_pos rfl, if_pos rfl, i_cl (show p < 2147483648 by omega), show dn sc kModel_dropsOwned 0 [.inr (.inr (10, 0, 0)), .inl (nI p), .inl 1] [] (sm_u (sm_u N 10 0 26 p 2) 10 0 27 p x) = _ from g2, r0_s]
    exact k2
/-- a process ends -/
theorem T_fin {sc : Nat × (Nat → Int32)} {a : Nat → Nat → Int32} {M N : sm_M} {p mk T b tc : Nat} (ps : PS a M N mk T b tc) (hp : p < 3) :
    ∃ M1 N1, dn sc kBody_finish 0 [.inr (.inr (0, p, 0))] [] M = some (0, .inl 0, M1) ∧ dn sc kModel_dropsOwned 0 [.inr (.inr (10, 0, 0)), .inl (nI p), .inl 0] [] (sm_u N 10 0 26 p 1) = some (0, .inl 0, N1) ∧ PS a M1 N1 mk T b tc ∧ FF M N M1 N1 := by
  have ps1 : PS a (sm_u M 0 p 0 7 1) (sm_u N 10 0 26 p 1) mk T b tc := PS_life (l := 1) ps (by decide)
  obtain ⟨M1, N1, g1, g2, g3, g4, g5⟩ := D_owned (sc := sc) (all := false) hp (ps1.1 p hp)
  refine ⟨M1, N1, ?_, g2, PS_own ps1 g3 g4 g5 (Nat.le_refl _) (Nat.le_refl _), frS_t sRC_u (fM_sRC g4), frS_t (sRN_u (by decide)) (fN_sRN g5)⟩
  rw [E_Body_finish_0, show dn sc kBody_dropOwned 0 [.inr (.inr (0, p, 0)), .inl 1] [] (sm_u M 0 p 0 7 1) = _ from g1, r0_s]
