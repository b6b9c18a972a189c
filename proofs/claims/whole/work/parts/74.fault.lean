/-! LEVEL B: the run: what breaks an op -/
def hX (M : sm_M) (p : Nat) (u : Int32) : Int32 := if u = -1 then -1 else hC M p u.toNatClampNeg
def sT (a : Nat → Nat → Int32) (M : sm_M) (p o : Nat) : Nat := (M.1 0 p 6 (xN a p o)).toNatClampNeg
def kdT (a : Nat → Nat → Int32) (M : sm_M) (p o : Nat) : Int32 := kA a (prA a (xN a p o)) (sT a M p o)
def mfT (a : Nat → Nat → Int32) (M : sm_M) (p o : Nat) : Int32 :=
  if M.1 7 0 1 (qN a (xN a p o) p) = 0 then 9 else
  if opW a p o = 8 then (if ¬ M.1 7 0 2 (2 * qN a (xN a p o) p) = -1 ∧ M.1 7 0 3 (2 * qN a (xN a p o) p) = kdT a M p o then 0 else 6)
  else if M.1 7 0 2 (2 * qN a (xN a p o) p) = -1 then 0 else 6
def ftT (a : Nat → Nat → Int32) (M : sm_M) (p o : Nat) : Int32 :=
  if hX M p (usA a p o) = 0 then 2 else
  if (opW a p o = 7 ∧ suT a M p o = true ∧ ¬ kC M p (usA a p o).toNatClampNeg = kdT a M p o) ∨ wwB (opW a p o) (decide (hX M p (usA a p o) = 2)) (decide (hX M p (usA a p o) = 3)) = true then 3 else
  if (hX M p (usA a p o) = 2 ∨ hX M p (usA a p o) = 3) ∧ lpC M p (usA a p o).toNatClampNeg = true then 5 else
  if ¬ tgA a p o = usA a p o ∧ hX M p (tgA a p o) = 1 ∧ kC M p (tgA a p o).toNatClampNeg = 2 then 4 else
  if ¬ ndK (opW a p o) = -1 ∧ suT a M p o = false then 6 else
  if opW a p o = 8 ∨ opW a p o = 10 then mfT a M p o else 0
theorem hX_v {M : sm_M} {p v : Nat} (hv : v < 6) : hX M p (nI v) = hC M p v := by
  unfold hX
  rw [if_neg ((by decide : ∀ v, v < 6 → ¬ nI v = -1) v hv), i_cl (by omega)]
theorem hX_n {M : sm_M} {p : Nat} : hX M p (-1) = -1 := if_pos rfl
theorem P_xShares {sc : Nat × (Nat → Int32)} {M : sm_M} {p : Nat} {u : Int32} (hu : vrI u) : dn sc kBody_shares 0 [.inr (.inr (0, p, 0)), .inl u] [] M = some (0, .inl (bI (decide (hX M p u = 2))), M) := by
  rcases hu with rfl | ⟨v, hv, rfl⟩
  · rw [P_bShares_n, hX_n]; rfl
  · rw [P_bShares hv, hX_v hv]
theorem P_xBorrows {sc : Nat × (Nat → Int32)} {M : sm_M} {p : Nat} {u : Int32} (hu : vrI u) : dn sc kBody_borrows 0 [.inr (.inr (0, p, 0)), .inl u] [] M = some (0, .inl (bI (decide (hX M p u = 3))), M) := by
  rcases hu with rfl | ⟨v, hv, rfl⟩
  · rw [P_bBorrows_n, hX_n]; rfl
  · rw [P_bBorrows hv, hX_v hv]
theorem P_xLapsed {sc : Nat × (Nat → Int32)} {M : sm_M} {p : Nat} {u : Int32} (hu : vrI u) : dn sc kBody_isLapsed 0 [.inr (.inr (0, p, 0)), .inl u] [] M = some (0, .inl (bI ((decide (hX M p u = 2) || decide (hX M p u = 3)) && lpC M p u.toNatClampNeg)), M) := by
  rcases hu with rfl | ⟨v, hv, rfl⟩
  · rw [P_bLapsed_n, hX_n]; rfl
  · rw [P_bLapsed hv, hX_v hv, i_cl (by omega)]
theorem P_xLinear {sc : Nat × (Nat → Int32)} {M : sm_M} {p : Nat} {u : Int32} (hu : vrI u) : dn sc kBody_ownsLinear 0 [.inr (.inr (0, p, 0)), .inl u] [] M = some (0, .inl (bI (decide (hX M p u = 1) && decide (kC M p u.toNatClampNeg = 2))), M) := by
  rcases hu with rfl | ⟨v, hv, rfl⟩
  · rw [P_bLinear_n, hX_n]; rfl
  · rw [P_bLinear hv, hX_v hv, i_cl (by omega)]
theorem P_xNothing {sc : Nat × (Nat → Int32)} {M : sm_M} {p v mk : Nat} (hv : v < 6) (hmk : mk < 2000000) (hx : ¬ hC M p v = 0 → ∃ y, y < mk ∧ xC M p v = nI y) : dn sc kBody_hasNothing 0 [.inr (.inr (0, p, 0)), .inl (nI v)] [] M = some (0, .inl (bI (decide (hC M p v = 0))), M) := by
  rw [E_Body_hasNothing_0, P_bValue hv, r1_s]
  by_cases z : hC M p v = 0
  · rw [if_pos z, if_pos rfl, decide_eq_true z]; rfl
  · obtain ⟨y, hy, e⟩ := hx z
    rw [if_neg z, e, if_neg (fun g => absurd (nI_pos (show y < 2147483648 by omega)) (by rw [g]; decide)), decide_eq_false z]; rfl
theorem P_cKindAt {sc : Nat × (Nat → Int32)} {a : Nat → Nat → Int32} {M N : sm_M} {p o : Nat} (wf : wfA a) (t : rTel a M) (rs : RS a M N) (hp : p < 3) (hf : ofA a (xN a p o) p = true) (hx : xN a p o < 3) (hc : xN a p o < cnA a) : dn sc kCourse_kindAt 0 [.inr (.inr (3, 0, 0)), .inl (nI p), .inl (nI (xN a p o))] [] M = some (0, .inl (kdT a M p o), M) := by
  obtain ⟨s, s1, s2, _⟩ := (rs p hp).2.2.2.2 _ hf
  rw [E_Course_kindAt_0, i_ib hp (by decide), if_pos rfl, i_cl (by omega), P_stepOf hx, r1_s, s2, P_cKind t.2.2 hc s1, r1_s]
  have h8 := (wf.1 _ (wf.2.2.2.2 _ hc).2.2.2.1).2.1
  unfold kdT sT
  rw [s2, i_cl (show s < 2147483648 from Nat.lt_of_lt_of_le s1 (Nat.le_trans h8 (by decide)))]
theorem P_gVal0 {sc : Nat × (Nat → Int32)} {M : sm_M} {k m : Nat} (hk : k < 6) (hm : M.1 7 0 1 k = nI m) (h2 : m ≤ 2) (h0 : 0 < m) : dn sc kMessages_valueAt 0 [.inr (.inr (7, 0, 0)), .inl (nI k), .inl 0] [] M = some (0, .inl (M.1 7 0 2 (2 * k)), M) := by
  have h := P_gVal (sc := sc) (i := 0) hk hm h2 (by decide)
  rw [if_pos h0] at h
  exact h
theorem bf {b : Bool} (h : ¬ b = true) : b = false := by
  cases b
  · rfl
  · exact absurd rfl h
theorem P_cMsg {sc : Nat × (Nat → Int32)} {a : Nat → Nat → Int32} {M N : sm_M} {p o mk : Nat} (wf : wfA a) (t : rTel a M) (rs : RS a M N) (rm : RM M N mk) (hp : p < 3) (ho : o < onA a p) (hs : suT a M p o = true) : dn sc kCourse_messageFault 0 [.inr (.inr (3, 0, 0)), .inl (nI p), .inl (opW a p o), .inl (nI (xN a p o))] [] M = some (0, .inl (mfT a M p o), M) := by
  obtain ⟨s1, s2, _⟩ := suT_of hs
  obtain ⟨x1, x2⟩ := xN_nd (okA wf hp ho) s1
  obtain ⟨h1, _⟩ := of_c wf s2
  obtain ⟨m, m1, m2, _, _⟩ := rm _ (qN_6 (a := a) (p := p) x1)
  rw [E_Course_messageFault_0, P_qOf wf t.2.2 x1 hp, if_pos s2, r1_s, P_gSize (qN_6 x1), r1_s]
  unfold mfT
  by_cases z : M.1 7 0 1 (qN a (xN a p o) p) = 0
  · rw [if_pos z, if_pos z]
  · have m0 : 0 < m := by
      rcases Nat.eq_zero_or_pos m with y | y
      · rw [m2, y] at z; exact absurd rfl z
      · exact y
    rw [if_neg z, if_neg z, P_gVal0 (qN_6 x1) m2 m1 m0, r1_s]
    by_cases v : M.1 7 0 2 (2 * qN a (xN a p o) p) = -1
    · rw [if_pos v, E_Course_messageFault_5, if_pos rfl, E_Course_messageFault_9]
      by_cases q8 : opW a p o = 8
      · rw [if_pos q8, if_pos q8, if_pos rfl, if_neg (fun y => y.1 v)]
      · rw [if_neg q8, if_neg q8, if_pos rfl, if_pos v]
    · rw [if_neg v, E_Course_messageFault_5, if_neg (show ¬ (1 : Int32) = 0 by decide), P_gMark (qN_6 x1) m2 m0 m1, r1_s, P_cKindAt wf t rs hp s2 x1 h1, r1_s]
      by_cases k : M.1 7 0 3 (2 * qN a (xN a p o) p) = kdT a M p o
      · rw [if_pos k, E_Course_messageFault_9]
        by_cases q8 : opW a p o = 8
        · rw [if_pos q8, if_pos q8, if_neg (show ¬ (1 : Int32) = 0 by decide), if_pos ⟨v, k⟩]
        · rw [if_neg q8, if_neg q8, if_neg (show ¬ (1 : Int32) = 0 by decide), if_neg v]
      · rw [if_neg k, E_Course_messageFault_9]
        by_cases q8 : opW a p o = 8
        · rw [if_pos q8, if_pos q8, if_pos rfl, if_neg (fun y => k y.2)]
        · rw [if_neg q8, if_neg q8, if_neg (show ¬ (1 : Int32) = 0 by decide), if_neg v]
theorem us_7 {a : Nat → Nat → Int32} {p o : Nat} (h : okO (opW a p o) (opX a p o) (opY a p o) = true) (q : opW a p o = 7) : usA a p o = nI (yN a p o) ∧ yN a p o < 6 := by
  obtain ⟨c0, c1, c2, c7, c9, c10, c11, ca, cX, cY, cn⟩ := okO_c h
  unfold usA usK
  rw [if_pos (Or.inr (Or.inr (Or.inr q)))]
  exact ⟨cY (by simp only [q]; decide), (c7 (Or.inl q)).2⟩
theorem P_cFault {sc : Nat × (Nat → Int32)} {a : Nat → Nat → Int32} {M N : sm_M} {p o mk T tc : Nat} (wf : wfA a) (t : rTel a M) (rs : RS a M N) (rm : RM M N mk) (pv : PV p M N mk T tc) (hmk : mk < 2000000) (hp : p < 3) (ho : o < onA a p) : dn sc kCourse_faultAt 0 [.inr (.inr (3, 0, 0)), .inl (nI p), .inl (nI o), .inl (opW a p o)] [] M = some (0, .inl (ftT a M p o), M) := by
  have h16 := on16 wf hp
  have rk := t.2.1 p hp
  obtain ⟨ht, hu⟩ := tg_vA (okA wf hp ho)
  have e16 : dn sc kCourse_faultAt 16 [.inr (.inr (3, 0, 0)), .inl (nI p), .inl (opW a p o), .inl (chK (opW a p o) (opX a p o)), .inl (bI (suT a M p o))] [] M = some (0, .inl (if ¬ ndK (opW a p o) = -1 ∧ suT a M p o = false then 6 else if opW a p o = 8 ∨ opW a p o = 10 then mfT a M p o else 0), M) := by
    have e19 : (¬ ndK (opW a p o) = -1 → suT a M p o = true) → dn sc kCourse_faultAt 19 [.inr (.inr (3, 0, 0)), .inl (nI p), .inl (opW a p o), .inl (chK (opW a p o) (opX a p o))] [] M = some (0, .inl (if opW a p o = 8 ∨ opW a p o = 10 then mfT a M p o else 0), M) := by
      intro hs
      rw [E_Course_faultAt_19]
      have e21 : ¬ ndK (opW a p o) = -1 → dn sc kCourse_faultAt 21 [.inr (.inr (3, 0, 0)), .inl (nI p), .inl (opW a p o), .inl (chK (opW a p o) (opX a p o))] [] M = some (0, .inl (mfT a M p o), M) := by
        intro nd
        rw [chK_y nd, (xN_nd (okA wf hp ho) nd).2, E_Course_faultAt_21, P_cMsg wf t rs rm hp ho (hs nd), r1_s]
      by_cases q8 : opW a p o = 8
      · rw [if_pos q8, e21 (by rw [q8]; decide), if_pos (Or.inl q8)]
      · by_cases q10 : opW a p o = 10
        · rw [if_neg q8, if_pos q10, e21 (by rw [q10]; decide), if_pos (Or.inr q10)]
        · rw [if_neg q8, if_neg q10, if_neg (fun z => z.elim q8 q10)]
    rw [E_Course_faultAt_16]
    by_cases nd : ndK (opW a p o) = -1
    · have e := e19 (fun z => absurd nd z)
      rw [chK_n nd] at e ⊢
      rw [if_pos rfl, e, if_neg (show ¬ (¬ ndK (opW a p o) = -1 ∧ suT a M p o = false) from fun z => z.1 nd)]
    · have nc : ¬ chK (opW a p o) (opX a p o) = -1 := by
        rw [chK_y nd, (xN_nd (okA wf hp ho) nd).2]
        exact (by decide : ∀ n, n < 3 → ¬ nI n = -1) _ (xN_nd (okA wf hp ho) nd).1
      rw [if_neg nc]
      cases hs : suT a M p o with
      | false => rw [if_pos (show bI false = 0 from rfl), if_pos ⟨nd, rfl⟩]
      | true => rw [if_neg (show ¬ bI true = 0 by decide), e19 (fun _ => hs), if_neg (show ¬ (¬ ndK (opW a p o) = -1 ∧ true = false) from fun z => absurd z.2 (by decide))]
  have e8 : ∀ b : Bool, dn sc kCourse_faultAt 8 [.inr (.inr (3, 0, 0)), .inl (nI p), .inl (nI o), .inl (opW a p o), .inr (.inr (0, p, 0)), .inr (.inr (2, p, 0)), .inl (usA a p o), .inl (chK (opW a p o) (opX a p o)), .inl (bI (suT a M p o))] [.inl (bI b)] M = some (0, .inl (if b = true ∨ wwB (opW a p o) (decide (hX M p (usA a p o) = 2)) (decide (hX M p (usA a p o) = 3)) = true then 3 else
      if (hX M p (usA a p o) = 2 ∨ hX M p (usA a p o) = 3) ∧ lpC M p (usA a p o).toNatClampNeg = true then 5 else
      if ¬ tgA a p o = usA a p o ∧ hX M p (tgA a p o) = 1 ∧ kC M p (tgA a p o).toNatClampNeg = 2 then 4 else
      if ¬ ndK (opW a p o) = -1 ∧ suT a M p o = false then 6 else if opW a p o = 8 ∨ opW a p o = 10 then mfT a M p o else 0), M) := by
    intro b
    rw [E_Course_faultAt_8]
    cases b with
    | true => rw [if_neg (show ¬ bI true = 0 by decide), if_pos (Or.inl rfl)]
    | false =>
      rw [if_pos (show bI false = 0 from rfl), P_xShares hu, r1_s, P_xBorrows hu, r1_s, P_kWrong, r1_s]
      cases hw : wwB (opW a p o) (decide (hX M p (usA a p o) = 2)) (decide (hX M p (usA a p o) = 3)) with
      | true => rw [if_neg (show ¬ bI true = 0 by decide), if_pos (Or.inr rfl)]
      | false =>
        rw [if_pos (show bI false = 0 from rfl), P_xLapsed hu, r1_s, if_neg (show ¬ (false = true ∨ false = true) by decide)]
        by_cases l : (hX M p (usA a p o) = 2 ∨ hX M p (usA a p o) = 3) ∧ lpC M p (usA a p o).toNatClampNeg = true
        · rw [show ((decide (hX M p (usA a p o) = 2) || decide (hX M p (usA a p o) = 3)) && lpC M p (usA a p o).toNatClampNeg) = true by rw [Bool.and_eq_true, Bool.or_eq_true, decide_eq_true_eq, decide_eq_true_eq]; exact l, if_neg (show ¬ bI true = 0 by decide), if_pos l]
        · rw [show ((decide (hX M p (usA a p o) = 2) || decide (hX M p (usA a p o) = 3)) && lpC M p (usA a p o).toNatClampNeg) = false from bf (fun z => by rw [Bool.and_eq_true, Bool.or_eq_true, decide_eq_true_eq, decide_eq_true_eq] at z; exact l z), if_pos (show bI false = 0 from rfl), P_kTg h16 rk ho, r1_s, if_neg l]
          by_cases tu : tgA a p o = usA a p o
          · rw [if_pos tu, e16, if_neg (show ¬ (¬ tgA a p o = usA a p o ∧ hX M p (tgA a p o) = 1 ∧ kC M p (tgA a p o).toNatClampNeg = 2) from fun z => z.1 tu)]
          · rw [if_neg tu, P_xLinear ht, r1_s]
            by_cases f : hX M p (tgA a p o) = 1 ∧ kC M p (tgA a p o).toNatClampNeg = 2
            · rw [decide_eq_true f.1, decide_eq_true f.2, if_neg (show ¬ bI (true && true) = 0 by decide), if_pos ⟨tu, f⟩]
            · rw [show (decide (hX M p (tgA a p o) = 1) && decide (kC M p (tgA a p o).toNatClampNeg = 2)) = false from bf (fun z => by rw [Bool.and_eq_true, decide_eq_true_eq, decide_eq_true_eq] at z; exact f z), if_pos (show bI false = 0 from rfl), e16, if_neg (show ¬ (¬ tgA a p o = usA a p o ∧ hX M p (tgA a p o) = 1 ∧ kC M p (tgA a p o).toNatClampNeg = 2) from fun z => f z.2)]
  have e3 : ¬ hX M p (usA a p o) = 0 → dn sc kCourse_faultAt 3 [.inr (.inr (3, 0, 0)), .inl (nI p), .inl (nI o), .inl (opW a p o), .inr (.inr (0, p, 0)), .inr (.inr (2, p, 0)), .inl (usA a p o)] [] M = some (0, .inl (ftT a M p o), M) := by
    intro h0
    unfold ftT
    rw [if_neg h0, E_Course_faultAt_3, P_kCh wf t hp ho, r1_s, P_cSu wf t rs hp ho, r1_s]
    by_cases q7 : opW a p o = 7
    · rw [if_pos q7]
      cases hs : suT a M p o with
      | false =>
        have e := e8 false
        rw [hs] at e
        rw [if_pos (show bI false = 0 from rfl)]
        refine e.trans ?_
        congr 3
        refine congrArg Sum.inl ?_
        simp only [Bool.false_eq_true, false_and, and_false, false_or]
      | true =>
        obtain ⟨s1, s2, _⟩ := suT_of hs
        obtain ⟨x1, x2⟩ := xN_nd (okA wf hp ho) s1
        obtain ⟨h1, _⟩ := of_c wf s2
        obtain ⟨u1, u2⟩ := us_7 (okA wf hp ho) q7
        have e := fun b => e8 b
        rw [hs] at e
        rw [chK_y s1, x2] at e ⊢
        rw [if_neg (show ¬ bI true = 0 by decide), u1, P_bKind u2, r1_s, P_cKindAt wf t rs hp s2 x1 h1, r1_s]
        rw [u1] at e
        rw [i_cl (show yN a p o < 2147483648 by omega)] at e ⊢
        by_cases k : kC M p (yN a p o) = kdT a M p o
        · rw [if_pos k]
          refine (e false).trans ?_
          simp only [Bool.false_eq_true, false_or, k, not_true, and_false]
        · rw [if_neg k]
          refine (e true).trans ?_
          simp only [q7, k, not_false_iff, true_and, true_or, if_true]
    · rw [if_neg q7]
      refine (e8 false).trans ?_
      simp only [Bool.false_eq_true, false_or, q7, false_and]
  rw [E_Course_faultAt_0, i_ib hp (by decide), if_pos rfl, if_pos rfl, i_cl (show p < 2147483648 by omega), P_kUs h16 rk ho, r1_s]
  rcases hu with u | ⟨v, hv, u⟩
  · rw [if_pos u]
    exact e3 (by rw [u, hX_n]; decide)
  · rw [if_neg (by rw [u]; exact (by decide : ∀ v, v < 6 → ¬ nI v = -1) v hv)]
    rw [u, P_xNothing hv hmk (fun z => by
      obtain ⟨y, y1, y2⟩ := pv.2.2.1 v hv (by rw [← (pv.1 v hv).1]; exact z)
      exact ⟨y, y1, (pv.1 v hv).2.1.trans y2⟩), r1_s]
    by_cases z : hC M p v = 0
    · rw [decide_eq_true z, if_neg (show ¬ bI true = 0 by decide)]
      unfold ftT
      rw [u, hX_v hv, if_pos z]
    · rw [decide_eq_false z, if_pos (show bI false = 0 from rfl), ← u]
      exact e3 (by rw [u, hX_v hv]; exact z)
