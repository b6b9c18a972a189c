/-! LEVEL B: the run: a step is done, a message goes over or comes -/
theorem P_setStep {sc : Nat × (Nat → Int32)} {M : sm_M} {p c : Nat} {x : Int32} (hc : c < 3) : dn sc kBody_setStep 0 [.inr (.inr (0, p, 0)), .inl (nI c), .inl x] [] M = some (0, .inl 0, sm_u M 0 p 6 c x) := by
  rw [E_Body_setStep_0, P_within, r1_s, show (3 : Int32) = nI 3 from rfl, within_nI (by omega) (by decide), decide_eq_true hc, if_neg (show ¬ bI true = 0 by decide), i_ib hc (by decide), if_pos rfl, i_cl (by omega)]
theorem Wt_35 {N : sm_M} {j i : Nat} {y : Int32} (hj : ¬ (36 ≤ j ∧ j ≤ 37)) : Wt (sm_u N 10 0 j i y) = Wt N := by
  funext k i' x
  unfold Wt
  rw [u_mis (by omega), u_mis (by omega)]
theorem PS_step {a : Nat → Nat → Int32} {M N : sm_M} {mk T b tc p c s : Nat} (wf : wfA a) (h : PS a M N mk T b tc) (ho : ofA a c p = true) (hs : s < pnA a (prA a c)) : PS a (sm_u M 0 p 6 c (nI s)) (sm_u N 10 0 35 (qN a c p) (nI s)) mk T b tc := by
  obtain ⟨q, rm, rs⟩ := h
  have fn : frS jN N (sm_u N 10 0 35 (qN a c p) (nI s)) := frS_u (by unfold jN; omega)
  refine ⟨QA_j q (frS_u (by unfold jM; omega)) fn (RI_j (q 0 (by decide)).2.2.1 fn (fun k i x _ w => by rw [Wt_35 (by omega)] at w; exact w)), RM_fr rm (fun j i => u_mis (by omega)) (fun j i _ _ => u_mis (by omega)) (Nat.le_refl _), RS_step wf rs ho hs⟩
theorem RI_dp {N : sm_M} {x : Int32} (r : RI N) : RI (dpR N x) := by
  unfold RI
  rw [fN_w (dpR_fr (p := 0))]
  simp only [dpR_a (show ¬ 29 = 42 ∧ ¬ 29 = 0 by decide), dpR_a (show ¬ 30 = 42 ∧ ¬ 30 = 0 by decide)]
  exact r
theorem PS_drop {a : Nat → Nat → Int32} {M N : sm_M} {mk T b tc : Nat} {x : Int32} (h : PS a M N mk T b tc) : PS a (dpC M x) (dpR N x) mk T b tc := by
  obtain ⟨q, rm, rs⟩ := h
  refine ⟨fun p hp => ?_, RM_fr rm (fun j i => dpC_c (by decide)) (fun j i _ _ => dpR_c (by omega)) (Nat.le_refl _), RS_fr rs (fun p j i _ _ => dpC_c (by decide)) (fun j i _ => dpR_c (by omega))⟩
  obtain ⟨q1, q2, q3, q4, q5, q6, q7⟩ := q p hp
  exact ⟨PV_dp q1, RD_dp q2, RI_dp q3, (dpC_f (by decide)).trans q4, (dpR_c (by omega)).trans q5, (dpR_c (by omega)).trans q6, (dpC_f (by decide)).trans q7⟩
theorem own_n1 {M N : sm_M} {mk T b tc : Nat} (q : QA M N mk T b tc) (hmk : mk < 2000000) : ∀ p v', p < 3 → v' < 6 → aR N 29 p v' = 1 → ¬ aR N 30 p v' = -1 := by
  intro p v hp hv g
  obtain ⟨y, y1, y2⟩ := (q p hp).1.2.2.1 v hv (by rw [g]; decide)
  rw [y2]
  exact fun z => absurd (nI_pos (show y < 2147483648 by omega)) (by rw [z]; decide)
theorem PS_push {a : Nat → Nat → Int32} {M N : sm_M} {mk T b tc k m : Nat} {v d s : Int32} (h : PS a M N mk T b tc) (hmk : mk < 2000000) (hk : k < 6) (hm : N.1 10 0 36 k = nI m) (h2 : m < 2) (hg : mgR v d s mk) (hf : v = -1 ∨ Fresh N v) : PS a (adC M k m v d) (psR N k m v s) mk T b tc := by
  obtain ⟨q, rm, rs⟩ := h
  refine ⟨QA_j q adC_fr psR_fr (RI_push (q 0 (by decide)).2.2.1 hk hm h2 hf (own_n1 q hmk)), RM_push rm hk hm h2 hg, RS_fr rs (fun p j i _ _ => ?_) (fun j i _ => ?_)⟩
  · unfold adC; rw [u_mis (by omega), u_mis (by omega), u_mis (by omega)]
  · unfold psR; rw [u_mis (by omega), u_mis (by omega), u_mis (by omega)]
theorem PS_pop {a : Nat → Nat → Int32} {M N : sm_M} {mk T b tc k m : Nat} (h : PS a M N mk T b tc) (hk : k < 6) (hm : N.1 10 0 36 k = nI m) (h0 : 0 < m) (h2 : m ≤ 2) : PS a (rmC M k m) (tkR N k m) mk T b tc := by
  obtain ⟨q, rm, rs⟩ := h
  refine ⟨QA_j q rmC_fr tkR_fr (RI_pop (q 0 (by decide)).2.2.1 hk hm h0 h2), RM_pop rm hk hm h0 h2, RS_fr rs (fun p j i _ _ => ?_) (fun j i _ => ?_)⟩
  · unfold rmC
    split
    · rw [u_mis (by omega), u_mis (by omega), u_mis (by omega)]
    · rw [u_mis (by omega)]
  · unfold tkR; rw [u_mis (by omega), u_mis (by omega), u_mis (by omega)]
theorem Fresh_35 {N : sm_M} {j i : Nat} {x y : Int32} (hj : ¬ (29 ≤ j ∧ j ≤ 37) ∨ j = 35) (f : Fresh N x) : Fresh (sm_u N 10 0 j i y) x := by
  refine ⟨fun q v hq hv g => ?_, fun k i' hk w => f.2 k i' hk (by rw [Wt_35 (by omega)] at w; exact w)⟩
  rw [aR_j (by omega)] at g ⊢
  exact f.1 q v hq hv g
theorem ps_35 {N : sm_M} {k m i : Nat} {v s y : Int32} : sm_u (psR N k m v s) 10 0 35 i y = psR (sm_u N 10 0 35 i y) k m v s := by
  unfold psR
  rw [u_comm (j := 36) (j2 := 35) (by omega), u_comm (j := 38) (j2 := 35) (by omega), u_comm (j := 37) (j2 := 35) (by omega)]
theorem dp_35 {N : sm_M} {i : Nat} {x y : Int32} : sm_u (dpR N x) 10 0 35 i y = dpR (sm_u N 10 0 35 i y) x := by
  unfold dpR
  rw [u_mis (show ¬ (10 = 10 ∧ 0 = 0 ∧ 0 = 35 ∧ 40 = i) by omega)]
  split
  · rw [u_comm (j := 0) (j2 := 35) (by omega), u_comm (j := 42) (j2 := 35) (by omega)]
  · rfl
/-- what goes over, with its step -/
theorem T_post {sc : Nat × (Nat → Int32)} {a : Nat → Nat → Int32} {M N : sm_M} {mk T b tc p c s w s' m : Nat} {v d so : Int32} (wf : wfA a) (t : rTel a M) (r : cr a N) (h : PS a M N mk T b tc) (hmk : mk < 2000000) (hp : p < 3) (ho : ofA a c p = true) (hs : s < pnA a (prA a c)) (es : M.1 0 p 6 c = nI s) (hw : w < 2)
    (ew : (if v = -1 then d else 0) = nI w) (hn : nxS (wA a (prA a c)) (kA a (prA a c)) (bA a (prA a c)) s w = nI s') (hs' : s' < pnA a (prA a c)) (hm : N.1 10 0 36 (qN a c (oN a c p)) = nI m) (h2 : m ≤ 2) (hwt : M.1 0 (oN a c p) 0 7 = 2 ∨ m < 2) (hg : mgR v d so mk) (hf : v = -1 ∨ Fresh N v) :
    ∃ M2 N2, dn sc kCourse_post 0 [.inr (.inr (3, 0, 0)), .inl (nI p), .inl (nI c), .inl v, .inl d] [] M = some (0, .inl 0, M2) ∧ dn sc kModel_goesOver 0 [.inr (.inr (10, 0, 0)), .inl (nI c), .inl (nI p), .inl v, .inl so] [] N = some (0, .inl 0, N2) ∧ PS a M2 (sm_u N2 10 0 35 (qN a c p) (nI s')) mk T b tc ∧ frS sRC M M2 ∧ frS sRN N N2 ∧ M2.1 0 p 0 9 = M.1 0 p 0 9 ∧ (∀ j, 26 ≤ j → j ≤ 35 → ∀ i, N2.1 10 0 j i = N.1 10 0 j i) := by
  obtain ⟨h1, h2c, h3, h4, h5, h6, h7, _⟩ := of_c wf ho
  have ps := PS_step wf h ho hs'
  obtain ⟨l, l1, l2, l3⟩ := (h.2.2 _ h4).1
  have k6 := qN_6 (a := a) (p := oN a c p) h2c
  have t2 : rCh a (sm_u M 0 p 6 c (nI s')) := t.2.2
  have e3 : dn sc kCourse_post 0 [.inr (.inr (3, 0, 0)), .inl (nI p), .inl (nI c), .inl v, .inl d] [] M = dn sc kCourse_post 3 [.inr (.inr (3, 0, 0)), .inl (nI p), .inl (nI c), .inl v, .inl d] [.inl (nI w), .inl (nI s), .inl (nI c), .inr (.inr (1, 0, 0)), .inl (nI c), .inr (.inr (0, p, 0))] M := by
    rw [E_Course_post_0, i_ib hp (by decide), if_pos rfl, i_cl (show p < 2147483648 by omega), P_stepOf h2c, r1_s, es, if_pos rfl, ← ew]
    by_cases z : v = -1
    · rw [if_pos z, if_pos z]
    · rw [if_neg z, if_neg z]
  have eM : (sm_u M 0 p 6 c (nI s')).1 0 (oN a c p) 0 7 = M.1 0 (oN a c p) 0 7 := u_mis (by omega)
  rw [e3, E_Course_post_3, P_cNext t.2.2 h1 hs hw, hn, r1_s, P_setStep h2c, r0_s, P_cDead wf t2 h2c hp, ho, Bool.true_and, r1_s, eM]
  rw [E_Model_goesOver_0, P_mSide1 wf r ho, r1_s, P_mBey wf r ho, r1_s, i_ib h4 (by decide), if_pos rfl, i_cl (show oN a c p < 2147483648 by omega), l3, l2]
  by_cases dd : nI l = 2
  · rw [decide_eq_true dd, if_neg (show ¬ bI true = 0 by decide), if_pos dd]
    rcases hg with ⟨y, n, y1, n1, e1, e2, e4⟩ | ⟨n, n1, e1, e2, e4⟩
    · have ny : ¬ nI y = -1 := fun g => absurd (nI_pos (show y < 2147483648 by omega)) (by rw [g]; decide)
      obtain ⟨dc, d1, d2, d3, _⟩ := (ps.1 p hp).2.1
      obtain ⟨dn', g1, g2, g3, _⟩ := (h.1 p hp).2.1
      rw [e1, if_neg ny, e4, if_pos ((by decide : ∀ n, n < 3 → nI n < 10) n n1), P_drop d2 d1, r0_s, P_mAway g3 g1, r0_s]
      refine ⟨_, _, rfl, rfl, ?_, frS_t sRC_u (fM_sRC (p := 0) dpC_fr), fN_sRN (p := 0) dpR_fr, ?_, fun j hj hj2 i => dpR_c (by omega)⟩
      · rw [dp_35]; exact PS_drop ps
      · rw [dpC_c (by decide), u_mis (by omega)]
    · rw [e1, if_pos rfl, e4, if_neg ((by decide : ∀ n, n < 2 → ¬ nI (10 + n) < 10) n n1)]
      exact ⟨_, _, rfl, rfl, ps, sRC_u, frS_r, u_mis (by omega), fun _ _ _ _ => rfl⟩
  · rw [decide_eq_false dd, if_pos (show bI false = 0 from rfl), if_neg dd]
    have hm2 : m < 2 := hwt.resolve_left (fun z => dd (l2 ▸ z))
    have cM : (sm_u M 0 p 6 c (nI s')).1 7 0 1 (qN a c (oN a c p)) = nI m := by
      rw [u_mis (by omega)]
      obtain ⟨m', _, m2, m3, _⟩ := h.2.1 _ k6
      have : m = m' := by
        have e := hm.symm.trans m3
        rw [i_eq (by omega) (by omega)] at e
        exact e
      rw [m2, this]
    rw [P_beyond t2 h2c hp, (of_y wf ho).2, r1_s, P_qOf wf t2 h2c h4, if_pos h6, r1_s, P_gAdd k6 cM hm2, r0_s, i_ib k6 (by decide)]
    simp only [if_true]
    rw [q_cl h2c, hm, i_2m, nI_add, i_ib (show 2 * qN a c (oN a c p) + m < 12 by omega) (by decide), if_pos rfl, i_cl (show 2 * qN a c (oN a c p) + m < 2147483648 by omega), u_mis (show ¬ (10 = 10 ∧ 0 = 0 ∧ 36 = 37 ∧ qN a c (oN a c p) = 2 * qN a c (oN a c p) + m) by omega), hm, nI_add, i_ib (show 2 * qN a c (oN a c p) + m < 12 by omega) (by decide), if_pos rfl, i_cl (show 2 * qN a c (oN a c p) + m < 2147483648 by omega), u_mis (show ¬ (10 = 10 ∧ 0 = 0 ∧ 36 = 38 ∧ qN a c (oN a c p) = 2 * qN a c (oN a c p) + m) by omega), u_mis (show ¬ (10 = 10 ∧ 0 = 0 ∧ 36 = 37 ∧ qN a c (oN a c p) = 2 * qN a c (oN a c p) + m) by omega), hm, nI_1]
    refine ⟨_, psR N (qN a c (oN a c p)) m v so, rfl, rfl, ?_, frS_t sRC_u (jM_sRC adC_fr), psR_sRN, ?_, fun j hj hj2 i => ?_⟩
    · rw [ps_35]
      exact PS_push ps hmk k6 (by rw [u_mis (by omega)]; exact hm) hm2 hg (hf.imp id (fun f => Fresh_35 (Or.inr rfl) f))
    · unfold adC; rw [u_mis (by omega), u_mis (by omega), u_mis (by omega), u_mis (by omega)]
    · unfold psR; rw [u_mis (by omega), u_mis (by omega), u_mis (by omega)]
