/-! LEVEL B: the run: ops on variables, both sides -/
def PS (a : Nat → Nat → Int32) (M N : sm_M) (mk T b tc : Nat) : Prop := QA M N mk T b tc ∧ RM M N mk ∧ RS a M N
def PT (a : Nat → Nat → Int32) (p mk t tc : Nat) (M N M1 N1 : sm_M) : Prop := (∃ mk' tc', mk ≤ mk' ∧ mk' ≤ mk + 1 ∧ tc ≤ tc' ∧ tc' ≤ tc + 1 ∧ PS a M1 N1 mk' (t + 1) (t + 1) tc') ∧ frS sRC M M1 ∧ frS sRN N N1 ∧ M1.1 0 p 0 9 = M.1 0 p 0 9 ∧ N1.1 10 0 28 p = N.1 10 0 28 p
theorem PT_ok {a : Nat → Nat → Int32} {p mk t tc : Nat} {M N M1 N1 : sm_M} (qa : QA M N mk (t + 1) t tc) (rm : RM M N mk) (rs : RS a M N) (h : OKQ p M N mk t tc M1 N1) : PT a p mk t tc M N M1 N1 := by
  obtain ⟨mk', tc', q, h1, h2, h3, h4, fm, fn⟩ := h
  exact ⟨⟨mk', tc', h1, h2, h3, h4, QA_op qa q fm fn h1 (by omega) h3, RM_fr rm (fun j i => fm.2 7 0 j i (by unfold fM; omega)) (fun j i g1 g2 => fn.2 10 0 j i (by unfold fN; omega)) h1,
    RS_fr rs (fun p' j i hp' g => fm.2 0 p' j i (by unfold fM; omega)) (fun j i g => fn.2 10 0 j i (by unfold fN; omega))⟩, fM_sRC fm, fN_sRN fn, fm.2 0 p 0 9 (by unfold fM; omega), fn.2 10 0 28 p (by unfold fN; omega)⟩
theorem OKQ_r {p mk t tc : Nat} {M N : sm_M} (q : Q p M N mk (t + 1) t tc) : OKQ p M N mk t tc M N := ⟨mk, tc, Q_up q (by omega), Nat.le_refl _, by omega, Nat.le_refl _, by omega, frS_r, frS_r⟩
theorem ft_0 {a : Nat → Nat → Int32} {M : sm_M} {p o : Nat} (hm : ¬ mfT a M p o = 0 → ftT a M p o = 0 → ¬ (opW a p o = 8 ∨ opW a p o = 10)) (h : ftT a M p o = 0) : ¬ hX M p (usA a p o) = 0 ∧ ¬ (opW a p o = 7 ∧ suT a M p o = true ∧ ¬ kC M p (usA a p o).toNatClampNeg = kdT a M p o) ∧ wwB (opW a p o) (decide (hX M p (usA a p o) = 2)) (decide (hX M p (usA a p o) = 3)) = false ∧ ¬ ((hX M p (usA a p o) = 2 ∨ hX M p (usA a p o) = 3) ∧ lpC M p (usA a p o).toNatClampNeg = true) ∧ (¬ ndK (opW a p o) = -1 → suT a M p o = true) ∧ (opW a p o = 8 ∨ opW a p o = 10 → mfT a M p o = 0) := by
  have hm' := fun z => hm z h
  unfold ftT at h
  by_cases h1 : hX M p (usA a p o) = 0
  · rw [if_pos h1] at h; exact absurd h (by decide)
  rw [if_neg h1] at h
  by_cases h2 : (opW a p o = 7 ∧ suT a M p o = true ∧ ¬ kC M p (usA a p o).toNatClampNeg = kdT a M p o) ∨ wwB (opW a p o) (decide (hX M p (usA a p o) = 2)) (decide (hX M p (usA a p o) = 3)) = true
  · rw [if_pos h2] at h; exact absurd h (by decide)
  rw [if_neg h2] at h
  by_cases h3 : (hX M p (usA a p o) = 2 ∨ hX M p (usA a p o) = 3) ∧ lpC M p (usA a p o).toNatClampNeg = true
  · rw [if_pos h3] at h; exact absurd h (by decide)
  rw [if_neg h3] at h
  by_cases h4 : ¬ tgA a p o = usA a p o ∧ hX M p (tgA a p o) = 1 ∧ kC M p (tgA a p o).toNatClampNeg = 2
  · rw [if_pos h4] at h; exact absurd h (by decide)
  rw [if_neg h4] at h
  by_cases h5 : ¬ ndK (opW a p o) = -1 ∧ suT a M p o = false
  · rw [if_pos h5] at h; exact absurd h (by decide)
  refine ⟨h1, fun z => h2 (Or.inl z), bf (fun z => h2 (Or.inr z)), h3, fun z => ?_, fun z => ?_⟩
  · cases hs : suT a M p o with
    | true => rfl
    | false => exact absurd ⟨z, hs⟩ h5
  · by_cases y : mfT a M p o = 0
    · exact y
    · exact absurd z (hm' y)
theorem ft_m {a : Nat → Nat → Int32} {M : sm_M} {p o : Nat} : ¬ mfT a M p o = 0 → ftT a M p o = 0 → ¬ (opW a p o = 8 ∨ opW a p o = 10) := by
  intro hm h w
  unfold ftT at h
  split at h
  · exact absurd h (by decide)
  · split at h
    · exact absurd h (by decide)
    · split at h
      · exact absurd h (by decide)
      · split at h
        · exact absurd h (by decide)
        · split at h
          · exact absurd h (by decide)
          · exact hm h
/-- a variable that is used without a fault -/
theorem ft_v {a : Nat → Nat → Int32} {M N : sm_M} {p o v mk T tc : Nat} (pv : PV p M N mk T tc) (hv : v < 6) (u : usA a p o = nI v) (h : ftT a M p o = 0) : (hC M p v = 1 ∨ ((hC M p v = 2 ∨ hC M p v = 3) ∧ lpC M p v = false)) ∧ wwB (opW a p o) (decide (hC M p v = 2)) (decide (hC M p v = 3)) = false := by
  obtain ⟨h1, _, h3, h4, _⟩ := ft_0 ft_m h
  rw [u, hX_v hv] at h1 h3 h4
  rw [i_cl (show v < 2147483648 by omega)] at h4
  refine ⟨?_, h3⟩
  obtain ⟨n, n4, nh⟩ := pv.2.1 v hv
  rw [← (pv.1 v hv).1] at nh
  have : hC M p v = 1 ∨ hC M p v = 2 ∨ hC M p v = 3 := by
    rw [nh] at h1 ⊢
    revert h1
    exact (by decide : ∀ n, n < 4 → ¬ nI n = 0 → nI n = 1 ∨ nI n = 2 ∨ nI n = 3) n n4
  rcases this with z | z
  · exact Or.inl z
  · exact Or.inr ⟨z, bf (fun y => h4 ⟨z, y⟩)⟩
def TV (sc : Nat × (Nat → Int32)) (a : Nat → Nat → Int32) (p o : Nat) (M N : sm_M) (mk t tc : Nat) : Prop := ∃ M1 N1, (∀ s0, dn sc kCourse_perform 5 [.inr (.inr (3, 0, 0)), .inl (nI p), .inl (nI o), .inl (opW a p o), .inr (.inr (0, p, 0)), .inl (opX a p o), .inl (opY a p o)] [.inl s0] M = dn sc kCourse_perform 20 [.inr (.inr (3, 0, 0)), .inl (nI p), .inl (nI o), .inr (.inr (0, p, 0)), .inl s0] [] M1) ∧
  (∀ l7 s0, dn sc kModel_carriesOut 7 [.inr (.inr (10, 0, 0)), .inl (nI p), .inl (nI (16 * p + o)), .inl (6 * nI p + opX a p o), .inl (6 * nI p + opY a p o), .inl (opX a p o), .inl l7] [.inl s0] N = dn sc kModel_carriesOut 23 [.inr (.inr (10, 0, 0)), .inl (nI p), .inl (nI (16 * p + o)), .inl (opX a p o), .inl l7, .inl s0] [] N1) ∧ PT a p mk t tc M N M1 N1
theorem six {p x : Nat} : (6 : Int32) * nI p + nI x = nI (6 * p + x) := by rw [show (6 : Int32) = nI 6 from rfl, i_mul, nI_add]
theorem T_vars {sc : Nat × (Nat → Int32)} {a : Nat → Nat → Int32} {M N : sm_M} {p o mk t tc : Nat} (wf : wfA a) (r : cr a N) (rs : RS a M N) (rm : RM M N mk) (qa : QA M N mk (t + 1) t tc) (hmk : mk < 2000000) (ht : t < 2000000) (htc : tc < 2000000) (hp : p < 3) (ho : o < onA a p) (hf : ftT a M p o = 0) (hw : opW a p o = 0 ∨ opW a p o = 1 ∨ opW a p o = 2 ∨ opW a p o = 3 ∨ opW a p o = 4 ∨ opW a p o = 5 ∨ opW a p o = 6) : TV sc a p o M N mk t tc := by
  have h16 := on16 wf hp
  have i48 : sm_ib (nI (16 * p + o)) 48 = true := i_ib (show 16 * p + o < 48 by omega) (by decide)
  have c48 : (nI (16 * p + o)).toNatClampNeg = 16 * p + o := i_cl (by omega)
  have e11 : N.1 10 0 11 (16 * p + o) = opW a p o := cr_c r 11 _ (by decide) (by decide)
  have e13 : N.1 10 0 13 (16 * p + o) = opY a p o := cr_c r 13 _ (by decide) (by decide)
  obtain ⟨c0, c1, c2, c7, c9, c10, c11, ca, cX, cY, cn⟩ := okO_c (okA wf hp ho)
  have q := qa p hp
  unfold TV
  rcases hw with w | w | w | w | w | w | w
  · have ex := cX (by simp only [w]; decide)
    have ey := cY (by simp only [w]; decide)
    obtain ⟨x1, y1⟩ := c0 w
    obtain ⟨M', N2, g1, g2, g3, g4, g5, g6⟩ := V_make (sc := sc) (kd := opY a p o) q hp x1 ht htc ⟨_, y1, ey⟩ (F_new qa rm hmk)
    refine ⟨M', mdM N2, fun s0 => ?_, fun l7 s0 => ?_, PT_ok qa rm rs g6⟩
    · rw [E_Course_perform_5, if_pos w, g1, r1_s, ex, g2, r0_s]
    · rw [E_Model_carriesOut_7, i48, if_pos rfl, c48, e11, if_pos w, ex, six, g3, r0_s, if_pos rfl, g4, (le_fr x1).2 10 0 13 _ (by unfold fN; omega), e13, g5, r0_s]
      rfl
  · have w0 : ¬ opW a p o = 0 := by rw [w]; decide
    have ex := cX (by simp only [w]; decide)
    have ey := cY (by simp only [w]; decide)
    obtain ⟨x1, y1⟩ := c1 (Or.inl w)
    have eu : usA a p o = nI (opY a p o).toNatClampNeg := by
      unfold usA usK
      rw [if_pos (Or.inl w)]; exact ey
    obtain ⟨v1, v2⟩ := ft_v q.1 y1 eu hf
    by_cases z : (opX a p o).toNatClampNeg = (opY a p o).toNatClampNeg
    · have exy : opX a p o = opY a p o := by rw [ex, ey, z]
      refine ⟨M, N, fun s0 => ?_, fun l7 s0 => ?_, PT_ok qa rm rs (OKQ_r q)⟩
      · rw [E_Course_perform_5, if_neg w0, if_pos w, E_Body_move_0, if_pos exy, r0_s]
      · rw [E_Model_carriesOut_7, i48, if_pos rfl, c48, e11, if_neg w0, if_pos w, if_pos (by rw [exy])]
    · have n1 : ¬ 6 * nI p + opX a p o = 6 * nI p + opY a p o := by
        rw [ex, ey, six, six, i_eq (by omega) (by omega)]
        omega
      have hh : ∃ M' N', dn sc kBody_move 0 [.inr (.inr (0, p, 0)), .inl (nI (opX a p o).toNatClampNeg), .inl (nI (opY a p o).toNatClampNeg)] [] M = some (0, .inl 0, M') ∧ dn sc kModel_movesOver 0 [.inr (.inr (10, 0, 0)), .inl (nI p), .inl (nI (6 * p + (opX a p o).toNatClampNeg)), .inl (nI (6 * p + (opY a p o).toNatClampNeg))] [] N = some (0, .inl 0, N') ∧ OKQ p M N mk t tc M' N' := by
        rcases v1 with v1 | v1
        · exact V_moveO q hp x1 y1 z ht htc v1 (F_new qa rm hmk)
        · exact V_moveB q hp x1 y1 z v1
      obtain ⟨M', N', g1, g2, g3⟩ := hh
      rw [← six, ← six, ← ex, ← ey] at g2
      rw [← ex, ← ey] at g1
      refine ⟨M', N', fun s0 => ?_, fun l7 s0 => ?_, PT_ok qa rm rs g3⟩
      · rw [E_Course_perform_5, if_neg w0, if_pos w, g1, r0_s]
      · rw [E_Model_carriesOut_7, i48, if_pos rfl, c48, e11, if_neg w0, if_pos w, if_neg n1, g2, r0_s]
  · have w0 : ¬ opW a p o = 0 := by rw [w]; decide
    have w1 : ¬ opW a p o = 1 := by rw [w]; decide
    have ex := cX (by simp only [w]; decide)
    have x1 := c2 (Or.inl w)
    have eu : usA a p o = nI (opX a p o).toNatClampNeg := by
      unfold usA usK
      rw [if_neg (by rw [w]; decide), if_pos (Or.inl w)]; exact ex
    obtain ⟨v1, v2⟩ := ft_v q.1 x1 eu hf
    have h1 : hC M p (opX a p o).toNatClampNeg = 1 := by
      rcases v1 with v1 | ⟨v1, _⟩
      · exact v1
      · unfold wwB at v2
        rw [if_pos (Or.inl w), Bool.or_eq_false_iff, decide_eq_false_iff_not, decide_eq_false_iff_not] at v2
        exact absurd v1 (fun z => z.elim v2.1 v2.2)
    obtain ⟨M', N1, g1, g2, g3⟩ := V_free (sc := sc) q hp x1 h1
    rw [← ex] at g1
    refine ⟨M', _, fun s0 => ?_, fun l7 s0 => ?_, PT_ok qa rm rs g3⟩
    · rw [E_Course_perform_5, if_neg w0, if_neg w1, if_pos w, g1, r0_s]
    · have i18 : sm_ib (nI (6 * p + (opX a p o).toNatClampNeg)) 18 = true := i_ib (by omega) (by decide)
      have e6 : 6 * nI p + opX a p o = nI (6 * p + (opX a p o).toNatClampNeg) := by
        rw [← six, ← ex]
      rw [E_Model_carriesOut_7, i48, if_pos rfl, c48, e11, if_neg w0, if_neg w1, if_pos w, e6, i18, if_pos rfl, i_cl (show 6 * p + (opX a p o).toNatClampNeg < 2147483648 by omega), aR_i x1, g2, r0_s, if_pos rfl]
  · have w0 : ¬ opW a p o = 0 := by rw [w]; decide
    have w1 : ¬ opW a p o = 1 := by rw [w]; decide
    have w2 : ¬ opW a p o = 2 := by rw [w]; decide
    have ex := cX (by simp only [w]; decide)
    have x1 := c2 (Or.inr (Or.inl w))
    have eu : usA a p o = nI (opX a p o).toNatClampNeg := by
      unfold usA usK
      rw [if_neg (by rw [w]; decide), if_pos (Or.inr (Or.inl w))]; exact ex
    obtain ⟨v1, v2⟩ := ft_v q.1 x1 eu hf
    obtain ⟨M', N1, g1, g2, g3⟩ := V_read (sc := sc) q hp x1 v1
    rw [← ex] at g1
    rw [← six, ← ex] at g2
    refine ⟨M', N1, fun s0 => ?_, fun l7 s0 => ?_, PT_ok qa rm rs g3⟩
    · rw [E_Course_perform_5, if_neg w0, if_neg w1, if_neg w2, if_pos w, g1, r0_s]
    · rw [E_Model_carriesOut_7, i48, if_pos rfl, c48, e11, if_neg w0, if_neg w1, if_neg w2, if_pos w, g2, r0_s]
  · have w0 : ¬ opW a p o = 0 := by rw [w]; decide
    have w1 : ¬ opW a p o = 1 := by rw [w]; decide
    have w2 : ¬ opW a p o = 2 := by rw [w]; decide
    have w3 : ¬ opW a p o = 3 := by rw [w]; decide
    have ex := cX (by simp only [w]; decide)
    have x1 := c2 (Or.inr (Or.inr w))
    have eu : usA a p o = nI (opX a p o).toNatClampNeg := by
      unfold usA usK
      rw [if_neg (by rw [w]; decide), if_pos (Or.inr (Or.inr w))]; exact ex
    obtain ⟨v1, v2⟩ := ft_v q.1 x1 eu hf
    obtain ⟨M', N1, g1, g2, g3⟩ := V_write (sc := sc) q hp x1 ht v1
    rw [← ex] at g1
    rw [← six, ← ex] at g2
    refine ⟨M', N1, fun s0 => ?_, fun l7 s0 => ?_, PT_ok qa rm rs g3⟩
    · rw [E_Course_perform_5, if_neg w0, if_neg w1, if_neg w2, if_neg w3, if_pos w, g1, r0_s]
    · rw [E_Model_carriesOut_7, i48, if_pos rfl, c48, e11, if_neg w0, if_neg w1, if_neg w2, if_neg w3, if_pos w, g2, r0_s]
  · have w0 : ¬ opW a p o = 0 := by rw [w]; decide
    have w1 : ¬ opW a p o = 1 := by rw [w]; decide
    have w2 : ¬ opW a p o = 2 := by rw [w]; decide
    have w3 : ¬ opW a p o = 3 := by rw [w]; decide
    have w4 : ¬ opW a p o = 4 := by rw [w]; decide
    have ex := cX (by simp only [w]; decide)
    have ey := cY (by simp only [w]; decide)
    obtain ⟨x1, y1⟩ := c1 (Or.inr (Or.inl w))
    have hn := cn (Or.inl w)
    have eu : usA a p o = nI (opY a p o).toNatClampNeg := by
      unfold usA usK
      rw [if_pos (Or.inr (Or.inl w))]; exact ey
    obtain ⟨v1, v2⟩ := ft_v q.1 y1 eu hf
    have h1 : hC M p (opY a p o).toNatClampNeg = 1 ∨ hC M p (opY a p o).toNatClampNeg = 2 := by
      rcases v1 with v1 | ⟨v1 | v1, _⟩
      · exact Or.inl v1
      · exact Or.inr v1
      · unfold wwB at v2
        rw [if_neg (by rw [w]; decide), if_neg w4, if_pos w, decide_eq_false_iff_not] at v2
        exact absurd v1 v2
    obtain ⟨M', N1, g1, g2, g3⟩ := V_share (sc := sc) q hp x1 y1 hn ht h1
    rw [← ex, ← ey] at g1
    rw [← six, ← six, ← ex, ← ey] at g2
    refine ⟨M', N1, fun s0 => ?_, fun l7 s0 => ?_, PT_ok qa rm rs g3⟩
    · rw [E_Course_perform_5, if_neg w0, if_neg w1, if_neg w2, if_neg w3, if_neg w4, if_pos w, g1, r0_s]
    · rw [E_Model_carriesOut_7, i48, if_pos rfl, c48, e11, if_neg w0, if_neg w1, if_neg w2, if_neg w3, if_neg w4, if_pos w, g2, r0_s]
  · have w0 : ¬ opW a p o = 0 := by rw [w]; decide
    have w1 : ¬ opW a p o = 1 := by rw [w]; decide
    have w2 : ¬ opW a p o = 2 := by rw [w]; decide
    have w3 : ¬ opW a p o = 3 := by rw [w]; decide
    have w4 : ¬ opW a p o = 4 := by rw [w]; decide
    have w5 : ¬ opW a p o = 5 := by rw [w]; decide
    have ex := cX (by simp only [w]; decide)
    have ey := cY (by simp only [w]; decide)
    obtain ⟨x1, y1⟩ := c1 (Or.inr (Or.inr w))
    have hn := cn (Or.inr w)
    have eu : usA a p o = nI (opY a p o).toNatClampNeg := by
      unfold usA usK
      rw [if_pos (Or.inr (Or.inr (Or.inl w)))]; exact ey
    obtain ⟨v1, v2⟩ := ft_v q.1 y1 eu hf
    have h1 : hC M p (opY a p o).toNatClampNeg = 1 := by
      rcases v1 with v1 | ⟨v1, _⟩
      · exact v1
      · unfold wwB at v2
        rw [if_pos (Or.inr (Or.inl w)), Bool.or_eq_false_iff, decide_eq_false_iff_not, decide_eq_false_iff_not] at v2
        exact absurd v1 (fun z => z.elim v2.1 v2.2)
    obtain ⟨M', g1, g2, g3⟩ := V_lend (sc := sc) q hp x1 y1 hn ht h1
    rw [← ex, ← ey] at g1
    refine ⟨M', _, fun s0 => ?_, fun l7 s0 => ?_, PT_ok qa rm rs g3⟩
    · rw [E_Course_perform_5, if_neg w0, if_neg w1, if_neg w2, if_neg w3, if_neg w4, if_neg w5, if_pos w, g1, r0_s]
    · have ix : sm_ib (nI (6 * p + (opX a p o).toNatClampNeg)) 18 = true := i_ib (by omega) (by decide)
      have iy : sm_ib (nI (6 * p + (opY a p o).toNatClampNeg)) 18 = true := i_ib (by omega) (by decide)
      have e6 : 6 * nI p + opX a p o = nI (6 * p + (opX a p o).toNatClampNeg) := by
        rw [← six, ← ex]
      have f6 : 6 * nI p + opY a p o = nI (6 * p + (opY a p o).toNatClampNeg) := by
        rw [← six, ← ey]
      have cx : (nI (6 * p + (opX a p o).toNatClampNeg)).toNatClampNeg = 6 * p + (opX a p o).toNatClampNeg := i_cl (by omega)
      have cy : (nI (6 * p + (opY a p o).toNatClampNeg)).toNatClampNeg = 6 * p + (opY a p o).toNatClampNeg := i_cl (by omega)
      rw [E_Model_carriesOut_7, i48, if_pos rfl, c48, e11, if_neg w0, if_neg w1, if_neg w2, if_neg w3, if_neg w4, if_neg w5, if_pos w, e6, f6, g2, r0_s, iy, ix]
      simp only [if_true]
      rw [cx, cy, u_mis (by omega), u_mis (by omega), u_mis (by omega), le_f (by decide), q.2.2.2.2.2.1, aR_i y1, le_j (by decide)]
