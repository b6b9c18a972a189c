/-! LEVEL B: the run: ops on channels, both sides: what comes; an op is done -/
theorem le_3 {N : sm_M} {p a j i : Nat} {y : Int32} (hj : 35 ≤ j ∧ j ≤ 38) : sm_u (leM N p a) 10 0 j i y = leM (sm_u N 10 0 j i y) p a := by
  unfold leM
  rw [aR_j (by omega), aR_j (by omega), aR_j (by omega), u_comm (by omega)]
  split
  · unfold dpR
    rw [u_mis (show ¬(10 = 10 ∧ 0 = 0 ∧ 0 = j ∧ 40 = i) by omega)]
    split
    · rw [u_comm (show ¬(10 = 10 ∧ 0 = 0 ∧ 0 = j ∧ 40 = i) by omega), u_comm (show ¬(10 = 10 ∧ 0 = 0 ∧ 42 = j ∧ (N.1 10 0 0 40).toNatClampNeg = i) by omega)]
    · rfl
  · rfl
theorem tk_le {N : sm_M} {p a k m : Nat} (ha : a < 6) : tkR (leM N p a) k m = leM (tkR N k m) p a := by
  have e := fun j i (h : 35 ≤ j ∧ j ≤ 38) => (le_fr (N := N) (p := p) ha).2 10 0 j i (by unfold fN; omega)
  unfold tkR
  rw [e 37 _ (by decide), e 38 _ (by decide), le_3 (by decide), le_3 (by decide), le_3 (by decide)]
theorem ow_35 {N : sm_M} {p a i : Nat} {v d y : Int32} : sm_u (owM N p a v d) 10 0 35 i y = owM (sm_u N 10 0 35 i y) p a v d := by
  unfold owM
  rw [u_comm (j := 34) (j2 := 35) (by omega), u_comm (j := 33) (j2 := 35) (by omega), u_comm (j := 32) (j2 := 35) (by omega), u_comm (j := 31) (j2 := 35) (by omega), u_comm (j := 30) (j2 := 35) (by omega), u_comm (j := 29) (j2 := 35) (by omega), u_mis (show ¬ (10 = 10 ∧ 0 = 0 ∧ 0 = 35 ∧ 38 = i) by omega)]
/-- what waits first for an op that takes or waits without a fault -/
theorem mf_0 {a : Nat → Nat → Int32} {M N : sm_M} {p o mk : Nat} (rm : RM M N mk) (hmk : mk < 2000000) (hx : xN a p o < 3) (h : mfT a M p o = 0) : ∃ m, 0 < m ∧ m ≤ 2 ∧ M.1 7 0 1 (qN a (xN a p o) p) = nI m ∧ N.1 10 0 36 (qN a (xN a p o) p) = nI m ∧ M.1 7 0 2 (2 * qN a (xN a p o) p) = N.1 10 0 37 (2 * qN a (xN a p o) p) ∧
    (opW a p o = 8 → ∃ y n, y < mk ∧ n < 3 ∧ M.1 7 0 2 (2 * qN a (xN a p o) p) = nI y ∧ M.1 7 0 3 (2 * qN a (xN a p o) p) = nI n ∧ N.1 10 0 38 (2 * qN a (xN a p o) p) = nI n) ∧
    (¬ opW a p o = 8 → ∃ n, n < 2 ∧ M.1 7 0 2 (2 * qN a (xN a p o) p) = -1 ∧ M.1 7 0 3 (2 * qN a (xN a p o) p) = nI n ∧ N.1 10 0 38 (2 * qN a (xN a p o) p) = nI (10 + n)) := by
  obtain ⟨m, m1, m2, m3, m4⟩ := rm _ (qN_6 (a := a) (p := p) hx)
  unfold mfT at h
  by_cases z : M.1 7 0 1 (qN a (xN a p o) p) = 0
  · rw [if_pos z] at h; exact absurd h (by decide)
  · rw [if_neg z] at h
    have m0 : 0 < m := by
      rcases Nat.eq_zero_or_pos m with y | y
      · rw [m2, y] at z; exact absurd rfl z
      · exact y
    obtain ⟨g1, g2⟩ := m4 0 m0
    rw [Nat.add_zero] at g1 g2
    refine ⟨m, m0, m1, m2, m3, g1, fun q8 => ?_, fun q8 => ?_⟩
    · rw [if_pos q8] at h
      rcases g2 with ⟨y, n, y1, n1, e1, e2, e3⟩ | ⟨n, n1, e1, e2, e3⟩
      · exact ⟨y, n, y1, n1, e1, e2, e3⟩
      · rw [if_neg (fun g => g.1 e1)] at h; exact absurd h (by decide)
    · rw [if_neg q8] at h
      rcases g2 with ⟨y, n, y1, n1, e1, e2, e3⟩ | ⟨n, n1, e1, e2, e3⟩
      · rw [e1, if_neg (fun g => absurd (nI_pos (show y < 2147483648 by omega)) (by rw [g]; decide))] at h; exact absurd h (by decide)
      · exact ⟨n, n1, e1, e2, e3⟩
theorem T_take {sc : Nat × (Nat → Int32)} {a : Nat → Nat → Int32} {M N : sm_M} {p o mk t tc : Nat} (wf : wfA a) (tl : rTel a M) (r : cr a N) (ps : PS a M N mk (t + 1) t tc) (hmk : mk < 2000000) (ht : t < 2000000) (htc : tc < 2000000) (hp : p < 3) (ho : o < onA a p) (hft : ftT a M p o = 0) (h8 : opW a p o = 8) : TW sc a p o M N mk t tc 0 0 0 := by
  have h16 := on16 wf hp
  have i48 : sm_ib (nI (16 * p + o)) 48 = true := i_ib (show 16 * p + o < 48 by omega) (by decide)
  have c48 : (nI (16 * p + o)).toNatClampNeg = 16 * p + o := i_cl (by omega)
  have e11 : N.1 10 0 11 (16 * p + o) = opW a p o := cr_c r 11 _ (by decide) (by decide)
  obtain ⟨_, _, _, _, fs, fm⟩ := ft_0 ft_m hft
  have hs := fs (by rw [h8]; decide)
  obtain ⟨hf, x1, x2, xc, nd, s, s1, s2, s3, s4, s5, s6, s7⟩ := st_nx wf ps.2.2 hp ho hs
  have q6 := qN_6 (a := a) (p := p) x1
  obtain ⟨m, m0, m2, m3, m4, m5, m6, _⟩ := mf_0 ps.2.1 hmk x1 (fm (Or.inl h8))
  obtain ⟨y, n, y1, n1, e1, e2, e3⟩ := m6 h8
  obtain ⟨c0, c1, c2, c7, c9, c10, c11, ca, cX, cY, cn⟩ := okO_c (okA wf hp ho)
  obtain ⟨b, ey, b6⟩ : ∃ b, opY a p o = nI b ∧ b < 6 := ⟨_, cY (by simp only [h8]; decide), (c7 (Or.inr h8)).2⟩
  obtain ⟨s', g1, g2⟩ := s7 0 (by decide)
  have ny : ¬ nI y = -1 := fun g => absurd (nI_pos (show y < 2147483648 by omega)) (by rw [g]; decide)
  have pp := PS_pop ps q6 m4 m0 m2
  have ps1 := PS_step wf pp hf g1
  have fr := Fresh_35 (i := qN a (xN a p o) p) (y := nI s') (Or.inr rfl) (F_pop (ps.1 p hp).2.2.1 q6 m4 m0 m2 (m5.symm.trans e1) ny)
  obtain ⟨M', v1, v2, v3, v4, v5, v6⟩ := V_own (sc := sc) (kd := nI n) (ps1.1 p hp) hp b6 y1 ht htc ⟨n, n1, rfl⟩ fr
  obtain ⟨d, d1, d2, d3⟩ := Q_d (ps.1 p hp)
  refine ⟨M', owM (leM (sm_u (tkR N (qN a (xN a p o) p) m) 10 0 35 (qN a (xN a p o) p) (nI s')) p b) p b (nI y) (nI n), false, false, ?_, ?_, ⟨⟨mk, tc + 1, Nat.le_refl _, by omega, by omega, Nat.le_refl _, QA_op ps1.1 v4 v5 v6 (Nat.le_refl _) (by omega) (by omega), RM_fr ps1.2.1 (fun j i => v5.2 7 0 j i (by unfold fM; omega)) (fun j i z1 z2 => v6.2 10 0 j i (by unfold fN; omega)) (Nat.le_refl _), RS_fr ps1.2.2 (fun p' j i hp' g => v5.2 0 p' j i (by unfold fM; omega)) (fun j i g => v6.2 10 0 j i (by unfold fN; omega))⟩, ?_, ?_, ?_, ?_⟩, fun z => absurd (h8.symm.trans z) (by decide), fun _ => ⟨rfl, fun z => absurd z (by decide)⟩⟩
  · have nx := P_cNext (sc := sc) (M := rmC M (qN a (xN a p o) p) m) (way := 0) (rTel_run (jM_sRC rmC_fr) tl).2.2 xc s1 (by decide)
    rw [show nI 0 = (0 : Int32) from rfl, g2] at nx
    rw [E_Course_perform_5, if_neg (by rw [h8]; decide), if_neg (by rw [h8]; decide), if_neg (by rw [h8]; decide), if_neg (by rw [h8]; decide), if_neg (by rw [h8]; decide), if_neg (by rw [h8]; decide), if_neg (by rw [h8]; decide), if_neg (by rw [h8]; decide), if_pos h8, x2, ey, E_Course_receive_0, P_qOf wf tl.2.2 x1 hp, if_pos hf, r1_s, P_gVal0 q6 m3 m2 m0, r1_s, P_gMark q6 m3 m0 m2, r1_s, i_ib hp (by decide), if_pos rfl, i_cl (show p < 2147483648 by omega), P_stepOf x1, r1_s, P_gRm q6 m3 m0 m2, r0_s, if_pos rfl, e1, e2, s2, if_neg ny, E_Course_receive_3, nx, r1_s, P_setStep x1, r0_s, if_neg ((by decide : ∀ b, b < 6 → ¬ nI b = -1) b b6), i_ib hp (by decide), if_pos rfl, i_cl (show p < 2147483648 by omega), v1, r0_s, r1_s]
    rfl
  · have e37 : (leM N p b).1 10 0 37 (2 * qN a (xN a p o) p) = nI y := ((le_fr b6).2 10 0 37 _ (by unfold fN; omega)).trans (m5.symm.trans e1)
    have e38 : (leM N p b).1 10 0 38 (2 * qN a (xN a p o) p) = nI n := ((le_fr b6).2 10 0 38 _ (by unfold fN; omega)).trans e3
    have e36 : (leM N p b).1 10 0 36 (qN a (xN a p o) p) = nI m := ((le_fr b6).2 10 0 36 _ (by unfold fN; omega)).trans m4
    have r1 : cr a (leM N p b) := cr_run (fN_sRN (le_fr b6)) r
    have r2 : cr a (tkR (leM N p b) (qN a (xN a p o) p) m) := cr_run tkR_sRN r1
    have r3 : cr a (owM (tkR (leM N p b) (qN a (xN a p o) p) m) p b (nI y) (nI n)) := cr_run (fN_sRN (ow_fr b6)) r2
    have e35 : (owM (tkR (leM N p b) (qN a (xN a p o) p) m) p b (nI y) (nI n)).1 10 0 35 (qN a (xN a p o) p) = nI s := by
      rw [(ow_fr (p := p) b6).2 10 0 35 _ (by unfold fN; omega)]
      unfold tkR
      rw [u_mis (by omega), u_mis (by omega), u_mis (by omega), (le_fr b6).2 10 0 35 _ (by unfold fN; omega)]
      exact s3
    have i2 : sm_ib (nI (2 * qN a (xN a p o) p)) 12 = true := i_ib (by omega) (by decide)
    have c2' : (nI (2 * qN a (xN a p o) p)).toNatClampNeg = 2 * qN a (xN a p o) p := i_cl (by omega)
    have t23 := T_23 (sc := sc) (w := 0) (l7 := 0) wf r3 hp ho hf x2 nd s1 e35 s6 (by decide) g2
    rw [show nI 0 = (0 : Int32) from rfl, ow_35, tk_le b6, le_3 (by decide)] at t23
    rw [E_Model_carriesOut_7, i48, if_pos rfl, c48, e11, if_neg (by rw [h8]; decide), if_neg (by rw [h8]; decide), if_neg (by rw [h8]; decide), if_neg (by rw [h8]; decide), if_neg (by rw [h8]; decide), if_neg (by rw [h8]; decide), if_neg (by rw [h8]; decide), if_neg (by rw [h8]; decide), if_pos h8, ey, six, P_mLeaves hp b6 d2 d3, r0_s, x2, P_mSide0 wf r1 hf, r1_s, i_2m, i2, if_pos rfl, P_mSide0 wf r1 hf, r1_s, P_mTakes q6 e36 m0 m2, r1_s, c2', e37, e38, P_mOwns hp b6, r0_s, ← x2, tk_le b6]
    exact t23
  · exact frS_t (jM_sRC rmC_fr) (frS_t sRC_u (fM_sRC v5))
  · exact frS_t tkR_sRN (frS_t (sRN_u (by decide)) (fN_sRN v6))
  · rw [v5.2 0 p 0 9 (by unfold fM; omega), u_mis (by omega)]
    unfold rmC
    split
    · rw [u_mis (by omega), u_mis (by omega), u_mis (by omega)]
    · rw [u_mis (by omega)]
  · rw [v6.2 10 0 28 p (by unfold fN; omega), u_mis (by omega)]
    unfold tkR
    rw [u_mis (by omega), u_mis (by omega), u_mis (by omega)]
theorem T_wait {sc : Nat × (Nat → Int32)} {a : Nat → Nat → Int32} {M N : sm_M} {p o mk t tc : Nat} (wf : wfA a) (tl : rTel a M) (r : cr a N) (ps : PS a M N mk (t + 1) t tc) (hmk : mk < 2000000) (hp : p < 3) (ho : o < onA a p) (hft : ftT a M p o = 0) (h10 : opW a p o = 10) : TW sc a p o M N mk t tc 0 0 0 := by
  have h16 := on16 wf hp
  have i48 : sm_ib (nI (16 * p + o)) 48 = true := i_ib (show 16 * p + o < 48 by omega) (by decide)
  have c48 : (nI (16 * p + o)).toNatClampNeg = 16 * p + o := i_cl (by omega)
  have e11 : N.1 10 0 11 (16 * p + o) = opW a p o := cr_c r 11 _ (by decide) (by decide)
  obtain ⟨_, _, _, _, fs, fm⟩ := ft_0 ft_m hft
  have hs := fs (by rw [h10]; decide)
  obtain ⟨hf, x1, x2, xc, nd, s, s1, s2, s3, s4, s5, s6, s7⟩ := st_nx wf ps.2.2 hp ho hs
  have q6 := qN_6 (a := a) (p := p) x1
  obtain ⟨m, m0, m2, m3, m4, m5, _, m6⟩ := mf_0 ps.2.1 hmk x1 (fm (Or.inr h10))
  obtain ⟨n, n1, e1, e2, e3⟩ := m6 (by rw [h10]; decide)
  obtain ⟨s', g1, g2⟩ := s7 n n1
  have pp := PS_pop ps q6 m4 m0 m2
  have ps1 := PS_step wf pp hf g1
  refine ⟨_, _, decide (n = 1), decide (n = 1), ?_, ?_, ⟨⟨mk, tc, Nat.le_refl _, by omega, Nat.le_refl _, by omega, PS_up ps1 (by omega)⟩, frS_t (jM_sRC rmC_fr) sRC_u, frS_t tkR_sRN (sRN_u (by decide)), ?_, ?_⟩, fun z => absurd (h10.symm.trans z) (by decide), fun _ => ⟨rfl, fun _ => Or.inl h10⟩⟩
  · have nx := P_cNext (sc := sc) (M := rmC M (qN a (xN a p o) p) m) (way := n) (rTel_run (jM_sRC rmC_fr) tl).2.2 xc s1 n1
    rw [g2] at nx
    rw [E_Course_perform_5, if_neg (by rw [h10]; decide), if_neg (by rw [h10]; decide), if_neg (by rw [h10]; decide), if_neg (by rw [h10]; decide), if_neg (by rw [h10]; decide), if_neg (by rw [h10]; decide), if_neg (by rw [h10]; decide), if_neg (by rw [h10]; decide), if_neg (by rw [h10]; decide), if_neg (by rw [h10]; decide), if_pos h10, x2, E_Course_receive_0, P_qOf wf tl.2.2 x1 hp, if_pos hf, r1_s, P_gVal0 q6 m3 m2 m0, r1_s, P_gMark q6 m3 m0 m2, r1_s, i_ib hp (by decide), if_pos rfl, i_cl (show p < 2147483648 by omega), P_stepOf x1, r1_s, P_gRm q6 m3 m0 m2, r0_s, if_pos rfl, e1, e2, s2, if_pos rfl, E_Course_receive_3, nx, r1_s, P_setStep x1, r0_s, if_pos rfl, r1_s]
    rcases (show n = 0 ∨ n = 1 by omega) with rfl | rfl
    · rw [if_neg (show ¬ nI 0 = 1 by decide)]; rfl
    · rw [if_pos (show nI 1 = 1 from rfl)]; rfl
  · have r2 : cr a (tkR N (qN a (xN a p o) p) m) := cr_run tkR_sRN r
    have e35 : (tkR N (qN a (xN a p o) p) m).1 10 0 35 (qN a (xN a p o) p) = nI s := by
      unfold tkR
      rw [u_mis (by omega), u_mis (by omega), u_mis (by omega)]
      exact s3
    have t23 := fun l7 => T_23 (sc := sc) (w := n) (l7 := l7) wf r2 hp ho hf x2 nd s1 e35 s6 n1 g2
    rw [E_Model_carriesOut_7, i48, if_pos rfl, c48, e11, if_neg (by rw [h10]; decide), if_neg (by rw [h10]; decide), if_neg (by rw [h10]; decide), if_neg (by rw [h10]; decide), if_neg (by rw [h10]; decide), if_neg (by rw [h10]; decide), if_neg (by rw [h10]; decide), if_neg (by rw [h10]; decide), if_neg (by rw [h10]; decide), if_neg (by rw [h10]; decide), if_pos h10, x2, P_mSide0 wf r hf, r1_s, P_mTakes q6 m4 m0 m2, r1_s, e3, ← x2]
    rcases (show n = 0 ∨ n = 1 by omega) with rfl | rfl
    · rw [show nI (10 + 0) - 10 = nI 0 by decide, if_neg (show ¬ nI 0 = 1 by decide), t23]; rfl
    · rw [show nI (10 + 1) - 10 = nI 1 by decide, if_pos (show nI 1 = 1 from rfl), t23]; rfl
  · rw [u_mis (by omega)]
    unfold rmC
    split
    · rw [u_mis (by omega), u_mis (by omega), u_mis (by omega)]
    · rw [u_mis (by omega)]
  · rw [u_mis (by omega)]
    unfold tkR
    rw [u_mis (by omega), u_mis (by omega), u_mis (by omega)]
