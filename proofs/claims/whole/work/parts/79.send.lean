/-! LEVEL B: the run: ops on channels, both sides: over -/
theorem PS_up {a : Nat → Nat → Int32} {M N : sm_M} {mk T b b' tc : Nat} (h : PS a M N mk T b tc) (hb : b ≤ b') : PS a M N mk T b' tc := ⟨fun p hp => Q_up (h.1 p hp) hb, h.2⟩
theorem st_n4 {a : Nat → Nat → Int32} {c p s : Nat} {W : Int32} (h : askA a c p s = ndK W) (hn : ¬ ndK W = -1) : ¬ wA a (prA a c) s = 4 := by
  intro z
  unfold askA at h
  rw [z] at h
  have n4 : ∀ W, ¬ (4 : Int32) = ndK W := by
    intro W
    unfold ndK
    repeat' split
    all_goals decide
  split at h
  · split at h
    · exact n4 W h
    · split at h
      · exact n4 W h
      · exact hn h.symm
  · exact hn h.symm
/-- the step of an op on a channel and the one that is next -/
theorem st_nx {a : Nat → Nat → Int32} {M N : sm_M} {p o : Nat} (wf : wfA a) (rs : RS a M N) (hp : p < 3) (ho : o < onA a p) (hs : suT a M p o = true) : ofA a (xN a p o) p = true ∧ xN a p o < 3 ∧ opX a p o = nI (xN a p o) ∧ xN a p o < cnA a ∧ ¬ ndK (opW a p o) = -1 ∧ ∃ s, s < pnA a (prA a (xN a p o)) ∧ M.1 0 p 6 (xN a p o) = nI s ∧ N.1 10 0 35 (qN a (xN a p o) p) = nI s ∧ sT a M p o = s ∧ askA a (xN a p o) p s = ndK (opW a p o) ∧ ¬ wA a (prA a (xN a p o)) s = 4 ∧
    ∀ w, w < 2 → ∃ s', s' < pnA a (prA a (xN a p o)) ∧ nxS (wA a (prA a (xN a p o))) (kA a (prA a (xN a p o))) (bA a (prA a (xN a p o))) s w = nI s' := by
  obtain ⟨s1, s2, s3⟩ := suT_of hs
  obtain ⟨x1, x2⟩ := xN_nd (okA wf hp ho) s1
  obtain ⟨c1, _⟩ := of_c wf s2
  obtain ⟨s, t1, t2, t3⟩ := (rs p hp).2.2.2.2 _ s2
  have wc := wf.2.2.2.2 _ c1
  obtain ⟨_, h8, hok⟩ := wf.1 _ wc.2.2.2.1
  have es : sT a M p o = s := by
    unfold sT
    rw [t2, i_cl (by omega)]
  unfold sT at es
  rw [es] at s3
  refine ⟨s2, x1, x2, c1, s1, s, t1, t2, t3, es, s3, st_n4 s3 s1, fun w hw => nxS_ok h8 t1 (hok s t1) (wc.2.2.2.2.2.2.2.2 s t1) hw⟩
theorem T_23n {sc : Nat × (Nat → Int32)} {a : Nat → Nat → Int32} {N : sm_M} {p o : Nat} {l7 s0 : Int32} (wf : wfA a) (r : cr a N) (hp : p < 3) (ho : o < onA a p) (h : ndK (opW a p o) = -1) : dn sc kModel_carriesOut 23 [.inr (.inr (10, 0, 0)), .inl (nI p), .inl (nI (16 * p + o)), .inl (opX a p o), .inl l7, .inl s0] [] N = dn sc kModel_carriesOut 25 [.inr (.inr (10, 0, 0)), .inl (nI p), .inl l7] [] N := by
  have h16 := on16 wf hp
  have e11 : N.1 10 0 11 (16 * p + o) = opW a p o := cr_c r 11 _ (by decide) (by decide)
  rw [E_Model_carriesOut_23, i_ib (show 16 * p + o < 48 by omega) (by decide), if_pos rfl, i_cl (by omega), e11, P_mNeeds, r1_s, if_pos h]
theorem T_23 {sc : Nat × (Nat → Int32)} {a : Nat → Nat → Int32} {N : sm_M} {p o s s' w : Nat} {l7 : Int32} (wf : wfA a) (r : cr a N) (hp : p < 3) (ho : o < onA a p) (hf : ofA a (xN a p o) p = true) (hx : opX a p o = nI (xN a p o)) (hn : ¬ ndK (opW a p o) = -1) (hs : s < pnA a (prA a (xN a p o))) (e35 : N.1 10 0 35 (qN a (xN a p o) p) = nI s) (h4 : ¬ wA a (prA a (xN a p o)) s = 4) (hw : w < 2) (hns : nxS (wA a (prA a (xN a p o))) (kA a (prA a (xN a p o))) (bA a (prA a (xN a p o))) s w = nI s') :
    dn sc kModel_carriesOut 23 [.inr (.inr (10, 0, 0)), .inl (nI p), .inl (nI (16 * p + o)), .inl (opX a p o), .inl l7, .inl (nI w)] [] N = dn sc kModel_carriesOut 25 [.inr (.inr (10, 0, 0)), .inl (nI p), .inl l7] [] (sm_u N 10 0 35 (qN a (xN a p o) p) (nI s')) := by
  have h16 := on16 wf hp
  have e11 : N.1 10 0 11 (16 * p + o) = opW a p o := cr_c r 11 _ (by decide) (by decide)
  obtain ⟨c1, c2, _⟩ := of_c wf hf
  have q6 := qN_6 (a := a) (p := p) c2
  rw [E_Model_carriesOut_23, i_ib (show 16 * p + o < 48 by omega) (by decide), if_pos rfl, i_cl (show 16 * p + o < 2147483648 by omega), e11, P_mNeeds, r1_s, if_neg hn, hx, P_mSide0 wf r hf, r1_s, i_ib q6 (by decide), if_pos rfl, q_cl c2, e35, P_mStepThen wf r c1 hs h4 hw, r1_s, if_pos rfl, hns]
def jOk (a : Nat → Nat → Int32) (p o : Nat) (jc jr : Bool) : Prop := (opW a p o = 12 → jc = true ∧ jr = false) ∧ (¬ opW a p o = 12 → jc = jr ∧ (jr = true → opW a p o = 10 ∨ opW a p o = 11))
def TW (sc : Nat × (Nat → Int32)) (a : Nat → Nat → Int32) (p o : Nat) (M N : sm_M) (mk t tc : Nat) (s0 l7 w : Int32) : Prop := ∃ M1 N1 jc jr, dn sc kCourse_perform 5 [.inr (.inr (3, 0, 0)), .inl (nI p), .inl (nI o), .inl (opW a p o), .inr (.inr (0, p, 0)), .inl (opX a p o), .inl (opY a p o)] [.inl s0] M = dn sc kCourse_perform 20 [.inr (.inr (3, 0, 0)), .inl (nI p), .inl (nI o), .inr (.inr (0, p, 0)), .inl (bI jc)] [] M1 ∧
  dn sc kModel_carriesOut 7 [.inr (.inr (10, 0, 0)), .inl (nI p), .inl (nI (16 * p + o)), .inl (6 * nI p + opX a p o), .inl (6 * nI p + opY a p o), .inl (opX a p o), .inl l7] [.inl w] N = dn sc kModel_carriesOut 25 [.inr (.inr (10, 0, 0)), .inl (nI p), .inl (bI jr)] [] N1 ∧ PT a p mk t tc M N M1 N1 ∧ jOk a p o jc jr
theorem wt_over {a : Nat → Nat → Int32} {M N : sm_M} {p o mk : Nat} (rm : RM M N mk) (hx : xN a p o < 3) (hw : wtB a M p o = false) (hs : suT a M p o = true) (h : opW a p o = 7 ∨ opW a p o = 9) : ∃ m, N.1 10 0 36 (qN a (xN a p o) (oN a (xN a p o) p)) = nI m ∧ m ≤ 2 ∧ (M.1 0 (oN a (xN a p o) p) 0 7 = 2 ∨ m < 2) := by
  obtain ⟨m, m1, m2, m3, _⟩ := rm _ (qN_6 (a := a) (p := oN a (xN a p o) p) hx)
  refine ⟨m, m3, m1, ?_⟩
  unfold wtB at hw
  rw [hs, if_pos h, Bool.true_and, m2] at hw
  by_cases d : M.1 0 (oN a (xN a p o) p) 0 7 = 2
  · exact Or.inl d
  · rw [decide_eq_false d] at hw
    refine Or.inr ?_
    by_cases z : m < 2
    · exact z
    · have : m = 2 := by omega
      subst this
      exact absurd hw (by decide)
theorem T_pick {sc : Nat × (Nat → Int32)} {a : Nat → Nat → Int32} {M N : sm_M} {p o mk t tc : Nat} (wf : wfA a) (tl : rTel a M) (r : cr a N) (ps : PS a M N mk (t + 1) t tc) (hmk : mk < 2000000) (hp : p < 3) (ho : o < onA a p) (hs : suT a M p o = true) (hw : wtB a M p o = false) (h9 : opW a p o = 9) : TW sc a p o M N mk t tc 0 0 (opY a p o) := by
  have h16 := on16 wf hp
  have i48 : sm_ib (nI (16 * p + o)) 48 = true := i_ib (show 16 * p + o < 48 by omega) (by decide)
  have c48 : (nI (16 * p + o)).toNatClampNeg = 16 * p + o := i_cl (by omega)
  have e11 : N.1 10 0 11 (16 * p + o) = opW a p o := cr_c r 11 _ (by decide) (by decide)
  obtain ⟨c0, c1, c2, c7, c9, c10, c11, ca, cX, cY, cn⟩ := okO_c (okA wf hp ho)
  obtain ⟨hf, x1, x2, xc, nd, s, s1, s2, s3, s4, s5, s6, s7⟩ := st_nx wf ps.2.2 hp ho hs
  have ey := cY (by simp only [h9]; decide)
  have y2 := (c9 h9).2
  obtain ⟨s', g1, g2⟩ := s7 _ y2
  obtain ⟨m, m1, m2, m3⟩ := wt_over ps.2.1 x1 hw hs (Or.inr h9)
  obtain ⟨M2, N2, p1, p2, p3, p4, p5, p6, p7⟩ := T_post (sc := sc) (v := -1) (d := opY a p o) (so := nI (10 + (opY a p o).toNatClampNeg)) wf tl r ps hmk hp hf s1 s2 y2 (by rw [if_pos rfl]; exact ey) g2 g1 m1 m2 m3 (Or.inr ⟨_, y2, rfl, ey, rfl⟩) (Or.inl rfl)
  have so : 10 + opY a p o = nI (10 + (opY a p o).toNatClampNeg) := by
    rw [show (10 : Int32) = nI 10 from rfl, ← nI_add, ← ey]
  refine ⟨M2, sm_u N2 10 0 35 (qN a (xN a p o) p) (nI s'), false, false, ?_, ?_, ⟨⟨mk, tc, Nat.le_refl _, by omega, Nat.le_refl _, by omega, PS_up p3 (by omega)⟩, p4, frS_t p5 (sRN_u (by decide)), p6, ?_⟩, fun z => absurd (h9.symm.trans z) (by decide), fun _ => ⟨rfl, fun z => absurd z (by decide)⟩⟩
  · rw [E_Course_perform_5, if_neg (by rw [h9]; decide), if_neg (by rw [h9]; decide), if_neg (by rw [h9]; decide), if_neg (by rw [h9]; decide), if_neg (by rw [h9]; decide), if_neg (by rw [h9]; decide), if_neg (by rw [h9]; decide), if_neg (by rw [h9]; decide), if_neg (by rw [h9]; decide), if_pos h9, x2, p1, r0_s]
    rfl
  · rw [E_Model_carriesOut_7, i48, if_pos rfl, c48, e11, if_neg (by rw [h9]; decide), if_neg (by rw [h9]; decide), if_neg (by rw [h9]; decide), if_neg (by rw [h9]; decide), if_neg (by rw [h9]; decide), if_neg (by rw [h9]; decide), if_neg (by rw [h9]; decide), if_neg (by rw [h9]; decide), if_neg (by rw [h9]; decide), if_pos h9, so, x2, p2, r0_s, ← x2, ey]
    exact T_23 wf (cr_run p5 r) hp ho hf x2 nd s1 ((p7 35 (by decide) (by decide) _).trans s3) s6 y2 g2
  · rw [u_mis (by omega)]; exact p7 28 (by decide) (by decide) p
theorem T_send {sc : Nat × (Nat → Int32)} {a : Nat → Nat → Int32} {M N : sm_M} {p o mk t tc : Nat} (wf : wfA a) (tl : rTel a M) (r : cr a N) (ps : PS a M N mk (t + 1) t tc) (hmk : mk + 1 < 2000000) (hp : p < 3) (ho : o < onA a p) (hft : ftT a M p o = 0) (hw : wtB a M p o = false) (h7 : opW a p o = 7) : TW sc a p o M N mk t tc 0 0 0 := by
  have h16 := on16 wf hp
  have i48 : sm_ib (nI (16 * p + o)) 48 = true := i_ib (show 16 * p + o < 48 by omega) (by decide)
  have c48 : (nI (16 * p + o)).toNatClampNeg = 16 * p + o := i_cl (by omega)
  have e11 : N.1 10 0 11 (16 * p + o) = opW a p o := cr_c r 11 _ (by decide) (by decide)
  obtain ⟨_, _, _, _, fs, _⟩ := ft_0 ft_m hft
  have hs := fs (by rw [h7]; decide)
  obtain ⟨hf, x1, x2, xc, nd, s, s1, s2, s3, s4, s5, s6, s7⟩ := st_nx wf ps.2.2 hp ho hs
  obtain ⟨eu, u6⟩ := us_7 (okA wf hp ho) h7
  have ey : opY a p o = nI (yN a p o) := by
    obtain ⟨c0, c1, c2, c7, c9, c10, c11, ca, cX, cY, cn⟩ := okO_c (okA wf hp ho)
    exact cY (by simp only [h7]; decide)
  have q := ps.1 p hp
  obtain ⟨v1, v2⟩ := ft_v q.1 u6 eu hft
  have h1 : hC M p (yN a p o) = 1 := by
    rcases v1 with v1 | ⟨v1, _⟩
    · exact v1
    · unfold wwB at v2
      rw [if_pos (Or.inr (Or.inr h7)), Bool.or_eq_false_iff, decide_eq_false_iff_not, decide_eq_false_iff_not] at v2
      exact absurd v1 (fun z => z.elim v2.1 v2.2)
  obtain ⟨s', g1, g2⟩ := s7 0 (by decide)
  obtain ⟨m, m1, m2, m3⟩ := wt_over ps.2.1 x1 hw hs (Or.inl h7)
  have i18 : sm_ib (nI (6 * p + yN a p o)) 18 = true := i_ib (by omega) (by decide)
  have c18 : (nI (6 * p + yN a p o)).toNatClampNeg = 6 * p + yN a p o := i_cl (by omega)
  have hX3 : ∀ {M' N' : sm_M} {mk' : Nat}, PS a M' N' mk' (t + 1) t tc → frS (fM p) M M' → frS (fN p) N N' → mk' ≤ mk + 1 → mk ≤ mk' → ∀ v d so : Int32, ¬ v = -1 → mgR v d so mk' → Fresh N' v → ∃ M2 N2, dn sc kCourse_post 0 [.inr (.inr (3, 0, 0)), .inl (nI p), .inl (nI (xN a p o)), .inl v, .inl d] [] M' = some (0, .inl 0, M2) ∧ dn sc kModel_goesOver 0 [.inr (.inr (10, 0, 0)), .inl (nI (xN a p o)), .inl (nI p), .inl v, .inl so] [] N' = some (0, .inl 0, N2) ∧
      dn sc kModel_carriesOut 23 [.inr (.inr (10, 0, 0)), .inl (nI p), .inl (nI (16 * p + o)), .inl (opX a p o), .inl 0, .inl 0] [] N2 = dn sc kModel_carriesOut 25 [.inr (.inr (10, 0, 0)), .inl (nI p), .inl (bI false)] [] (sm_u N2 10 0 35 (qN a (xN a p o) p) (nI s')) ∧ PT a p mk t tc M N M2 (sm_u N2 10 0 35 (qN a (xN a p o) p) (nI s')) := by
    intro M' N' mk' ps' fm fn hm1 hm2 v d so nv hg hfr
    obtain ⟨M2, N2, p1, p2, p3, p4, p5, p6, p7⟩ := T_post (sc := sc) (v := v) (d := d) (so := so) (w := 0) wf (rTel_run (fM_sRC fm) tl) (cr_run (fN_sRN fn) r) ps' (by omega) hp hf s1 ((fm.2 0 p 6 _ (by unfold fM; omega)).trans s2) (by decide) (by rw [if_neg nv]; rfl) g2 g1 ((fn.2 10 0 36 _ (by unfold fN; omega)).trans m1) m2 (m3.imp (fun z => (fm.2 0 _ 0 7 (by unfold fM; omega)).trans z) id) hg (Or.inr hfr)
    refine ⟨M2, N2, p1, p2, ?_, ⟨mk', tc, hm2, hm1, Nat.le_refl _, by omega, PS_up p3 (by omega)⟩, frS_t (fM_sRC fm) p4, frS_t (fN_sRN fn) (frS_t p5 (sRN_u (by decide))), p6.trans (fm.2 0 p 0 9 (by unfold fM; omega)), ?_⟩
    · exact T_23 (w := 0) wf (cr_run p5 (cr_run (fN_sRN fn) r)) hp ho hf x2 nd s1 ((p7 35 (by decide) (by decide) _).trans ((fn.2 10 0 35 _ (by unfold fN; omega)).trans s3)) s6 (by decide) g2
    · rw [u_mis (by omega)]; exact (p7 28 (by decide) (by decide) p).trans (fn.2 10 0 28 p (by unfold fN; omega))
  have hj : jOk a p o false false := ⟨fun z => absurd (h7.symm.trans z) (by decide), fun _ => ⟨rfl, fun z => absurd z (by decide)⟩⟩
  have eC : ∀ {v d : Int32} {M' M2 : sm_M}, dn sc kBody_handOver 0 [.inr (.inr (0, p, 0)), .inl (nI (yN a p o))] [] M = some (0, .inl v, M') → kC M' p (yN a p o) = d → dn sc kCourse_post 0 [.inr (.inr (3, 0, 0)), .inl (nI p), .inl (nI (xN a p o)), .inl v, .inl d] [] M' = some (0, .inl 0, M2) → dn sc kCourse_perform 5 [.inr (.inr (3, 0, 0)), .inl (nI p), .inl (nI o), .inl (opW a p o), .inr (.inr (0, p, 0)), .inl (opX a p o), .inl (opY a p o)] [.inl 0] M = dn sc kCourse_perform 20 [.inr (.inr (3, 0, 0)), .inl (nI p), .inl (nI o), .inr (.inr (0, p, 0)), .inl (bI false)] [] M2 := by
    intro v d M' M2 k1 k2 k3
    rw [E_Course_perform_5, if_neg (by rw [h7]; decide), if_neg (by rw [h7]; decide), if_neg (by rw [h7]; decide), if_neg (by rw [h7]; decide), if_neg (by rw [h7]; decide), if_neg (by rw [h7]; decide), if_neg (by rw [h7]; decide), if_pos h7, ey, k1, r1_s, P_bKind u6, r1_s, k2, x2, k3, r0_s]
    rfl
  have eR : dn sc kModel_carriesOut 7 [.inr (.inr (10, 0, 0)), .inl (nI p), .inl (nI (16 * p + o)), .inl (6 * nI p + opX a p o), .inl (6 * nI p + opY a p o), .inl (opX a p o), .inl 0] [.inl 0] N = sm_r0 (dn sc kModel_sends 0 [.inr (.inr (10, 0, 0)), .inl (nI p), .inl (nI (xN a p o)), .inl (nI (6 * p + yN a p o))] [] N) (fun M14 => dn sc kModel_carriesOut 23 [.inr (.inr (10, 0, 0)), .inl (nI p), .inl (nI (16 * p + o)), .inl (opX a p o), .inl 0, .inl 0] [] M14) := by
    rw [E_Model_carriesOut_7, i48, if_pos rfl, c48, e11, if_neg (by rw [h7]; decide), if_neg (by rw [h7]; decide), if_neg (by rw [h7]; decide), if_neg (by rw [h7]; decide), if_neg (by rw [h7]; decide), if_neg (by rw [h7]; decide), if_neg (by rw [h7]; decide), if_pos h7, ey, six, x2]
  have ek : N.1 10 0 31 (6 * p + yN a p o) = kC M p (yN a p o) := (aR_i u6).trans (q.1.1 _ u6).2.2.symm
  by_cases k0 : kC M p (yN a p o) = 0
  · obtain ⟨M', a1, a2, a3, a4, a5, a6, a7, a8⟩ := V_hand0 (sc := sc) q hp u6 h1 k0
    have fr := F_new ps.1 ps.2.1 (by omega)
    have fr' : Fresh (cpR N p (yN a p o)) (nI mk) := by
      refine ⟨fun q' v hq hv g => ?_, fun k i hk w => fr.2 k i hk (by rw [a7] at w; exact w)⟩
      rw [(a8 q').1] at g
      rw [(a8 q').2]
      exact fr.1 q' v hq hv g
    have ps' : PS a M' (cpR N p (yN a p o)) (mk + 1) (t + 1) t tc := ⟨QA_op ps.1 a3 a4 a5 (by omega) (Nat.le_refl _) (Nat.le_refl _), RM_fr ps.2.1 (fun j i => a4.2 7 0 j i (by unfold fM; omega)) (fun j i z1 z2 => a5.2 10 0 j i (by unfold fN; omega)) (by omega), RS_fr ps.2.2 (fun p' j i hp' g => a4.2 0 p' j i (by unfold fM; omega)) (fun j i g => a5.2 10 0 j i (by unfold fN; omega))⟩
    obtain ⟨M2, N2, b1, b2, b3, b4⟩ := hX3 ps' a4 a5 (Nat.le_refl _) (by omega) (nI mk) 0 0 (fun g => absurd (nI_pos (show mk < 2147483648 by omega)) (by rw [g]; decide)) (Or.inl ⟨mk, 0, by omega, by decide, rfl, rfl, rfl⟩) fr'
    refine ⟨M2, _, false, false, eC a1 a6 b1, ?_, b4, hj⟩
    rw [eR, E_Model_sends_0, i18, if_pos rfl, c18, ek, if_pos k0, a2, r1_s, b2, r0_s, r0_s]
    exact b3
  · obtain ⟨M', a1, a3, a4, a5, a6, a7, y, y1, y2⟩ := V_hand1 (sc := sc) q hp u6 h1 k0
    have ps' : PS a M' (sm_u N 10 0 29 (6 * p + yN a p o) 0) mk (t + 1) t tc := ⟨QA_op ps.1 a3 a4 a5 (by omega) (Nat.le_refl _) (Nat.le_refl _), RM_fr ps.2.1 (fun j i => a4.2 7 0 j i (by unfold fM; omega)) (fun j i z1 z2 => a5.2 10 0 j i (by unfold fN; omega)) (by omega), RS_fr ps.2.2 (fun p' j i hp' g => a4.2 0 p' j i (by unfold fM; omega)) (fun j i g => a5.2 10 0 j i (by unfold fN; omega))⟩
    obtain ⟨n, n1, n2⟩ := (q.1.2.2.2.1 _ u6 (by rw [← (q.1.1 _ u6).1]; exact h1)).1
    obtain ⟨M2, N2, b1, b2, b3, b4⟩ := hX3 ps' a4 a5 (by omega) (Nat.le_refl _) (aR N 30 p (yN a p o)) (aR N 31 p (yN a p o)) (aR N 31 p (yN a p o)) (fun g => absurd (nI_pos (show y < 2147483648 by omega)) (by rw [← y2, g]; decide)) (Or.inl ⟨y, n, y1, n1, y2, n2, n2⟩) a7
    refine ⟨M2, _, false, false, eC a1 a6 b1, ?_, b4, hj⟩
    rw [eR, E_Model_sends_0, i18, if_pos rfl, c18, ek, if_neg k0]
    simp only [if_true]
    rw [u_mis (by omega), u_mis (by omega), aR_i u6, aR_i u6, b2, r0_s, r0_s]
    exact b3
