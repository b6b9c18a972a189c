/-! LEVEL B: the run: what breaks an op, in the reference -/
theorem P_mMsg {sc : Nat × (Nat → Int32)} {a : Nat → Nat → Int32} {M N : sm_M} {p o mk : Nat} (wf : wfA a) (r : cr a N) (rs : RS a M N) (rm : RM M N mk) (hmk : mk < 2000000) (hp : p < 3) (ho : o < onA a p) (hs : suT a M p o = true) (hw : opW a p o = 8 ∨ opW a p o = 10) : dn sc kModel_brokenByMessage 0 [.inr (.inr (10, 0, 0)), .inl (nI p), .inl (nI (16 * p + o))] [] N = some (0, .inl (mfT a M p o), N) := by
  have h16 := on16 wf hp
  have i48 : sm_ib (nI (16 * p + o)) 48 = true := i_ib (show 16 * p + o < 48 by omega) (by decide)
  have e11 : N.1 10 0 11 (16 * p + o) = opW a p o := cr_c r 11 _ (by decide) (by decide)
  have e12 : N.1 10 0 12 (16 * p + o) = opX a p o := cr_c r 12 _ (by decide) (by decide)
  obtain ⟨s1, s2, s3⟩ := suT_of hs
  obtain ⟨x1, x2⟩ := xN_nd (okA wf hp ho) s1
  obtain ⟨h1, _⟩ := of_c wf s2
  have q6 := qN_6 (a := a) (p := p) x1
  obtain ⟨m, m1, m2, m3, m4⟩ := rm _ q6
  obtain ⟨s, t1, t2, t3⟩ := (rs p hp).2.2.2.2 _ s2
  have h8 := (wf.1 _ (wf.2.2.2.2 _ h1).2.2.2.1).2.1
  have es : sT a M p o = s := by
    unfold sT
    rw [t2, i_cl (by omega)]
  rw [E_Model_brokenByMessage_0, i48, if_pos rfl, i_cl (show 16 * p + o < 2147483648 by omega), e12, x2, P_mSide0 wf r s2, r1_s, i_ib q6 (by decide), if_pos rfl, q_cl x1, m3]
  unfold mfT
  rw [m2]
  by_cases z : nI m = 0
  · rw [if_pos z, if_pos z]
  · have m0 : 0 < m := by
      rcases Nat.eq_zero_or_pos m with y | y
      · rw [y] at z; exact absurd rfl z
      · exact y
    obtain ⟨g1, g2⟩ := m4 0 m0
    rw [Nat.add_zero] at g1 g2
    rw [if_neg z, if_neg z, i_2m, i_ib (show 2 * qN a (xN a p o) p < 12 by omega) (by decide), if_pos rfl, i_cl (show 2 * qN a (xN a p o) p < 2147483648 by omega), e11]
    by_cases q8 : opW a p o = 8
    · rw [q8] at s3
      unfold sT at es
      rw [es] at s3
      obtain ⟨n, n1, n2⟩ := kd_ok (p := p) wf h1 t1 (Or.inl (s3.trans rfl))
      have ek : kdT a M p o = nI n := by
        unfold kdT sT
        rw [es, n2]
      rw [if_pos q8, if_pos q8, if_pos rfl, if_pos rfl, if_pos rfl, e12, x2, t3, P_mStepKind wf r h1 t1, r1_s, ek, n2]
      rcases g2 with ⟨y, k, y1, k1, v1, d1, e1⟩ | ⟨k, k1, v1, d1, e1⟩
      · have ny : ¬ nI y = -1 := fun g => absurd (nI_pos (show y < 2147483648 by omega)) (by rw [g]; decide)
        rw [e1, v1, d1]
        by_cases kn : nI k = nI n
        · rw [if_pos kn, E_Model_brokenByMessage_9, if_neg (show ¬ (1 : Int32) = 0 by decide), if_pos ⟨ny, kn⟩]
        · rw [if_neg kn, E_Model_brokenByMessage_9, if_pos rfl, if_neg (fun g => kn g.2)]
      · rw [e1, v1, if_neg (show ¬ nI (10 + k) = nI n by rw [i_eq (by omega) (by omega)]; omega), E_Model_brokenByMessage_9, if_pos rfl, if_neg (fun g => g.1 rfl)]
    · rw [if_neg q8, if_neg q8, if_pos rfl]
      rcases g2 with ⟨y, k, y1, k1, v1, d1, e1⟩ | ⟨k, k1, v1, d1, e1⟩
      · have ny : ¬ nI y = -1 := fun g => absurd (nI_pos (show y < 2147483648 by omega)) (by rw [g]; decide)
        rw [e1, v1, if_neg ny, if_pos ((by decide : ∀ k, k < 3 → nI k < 10) k k1), E_Model_brokenByMessage_9, if_pos rfl]
      · rw [e1, v1, if_pos rfl, if_neg ((by decide : ∀ k, k < 2 → ¬ nI (10 + k) < 10) k k1), E_Model_brokenByMessage_9, if_neg (show ¬ (1 : Int32) = 0 by decide)]
theorem P_mBroken {sc : Nat × (Nat → Int32)} {a : Nat → Nat → Int32} {M N : sm_M} {p o mk T tc : Nat} (wf : wfA a) (r : cr a N) (rs : RS a M N) (rm : RM M N mk) (pv : PV p M N mk T tc) (uq : uqR N p) (hmk : mk < 2000000) (hp : p < 3) (ho : o < onA a p) : dn sc kModel_broken 0 [.inr (.inr (10, 0, 0)), .inl (nI p), .inl (nI (16 * p + o))] [] N = some (0, .inl (ftT a M p o), N) := by
  have h16 := on16 wf hp
  have i48 : sm_ib (nI (16 * p + o)) 48 = true := i_ib (show 16 * p + o < 48 by omega) (by decide)
  have e11 : N.1 10 0 11 (16 * p + o) = opW a p o := cr_c r 11 _ (by decide) (by decide)
  have e12 : N.1 10 0 12 (16 * p + o) = opX a p o := cr_c r 12 _ (by decide) (by decide)
  have c48 : (nI (16 * p + o)).toNatClampNeg = 16 * p + o := i_cl (by omega)
  obtain ⟨ht, hu⟩ := tg_vA (okA wf hp ho)
  have e32 : dn sc kModel_broken 32 [.inr (.inr (10, 0, 0)), .inl (nI p), .inl (nI (16 * p + o)), .inl (bI (suT a M p o))] [] N = some (0, .inl (if ¬ ndK (opW a p o) = -1 ∧ suT a M p o = false then 6 else if opW a p o = 8 ∨ opW a p o = 10 then mfT a M p o else 0), N) := by
    have e35 : (¬ ndK (opW a p o) = -1 → suT a M p o = true) → dn sc kModel_broken 35 [.inr (.inr (10, 0, 0)), .inl (nI p), .inl (nI (16 * p + o))] [] N = some (0, .inl (if opW a p o = 8 ∨ opW a p o = 10 then mfT a M p o else 0), N) := by
      intro hs
      rw [E_Model_broken_35, i48, if_pos rfl, if_pos rfl, c48, e11]
      by_cases q8 : opW a p o = 8
      · rw [if_pos q8, P_mMsg wf r rs rm hmk hp ho (hs (by rw [q8]; decide)) (Or.inl q8), r1_s, if_pos (Or.inl q8)]
      · by_cases q10 : opW a p o = 10
        · rw [if_neg q8, if_pos q10, P_mMsg wf r rs rm hmk hp ho (hs (by rw [q10]; decide)) (Or.inr q10), r1_s, if_pos (Or.inr q10)]
        · rw [if_neg q8, if_neg q10, if_neg (fun z => z.elim q8 q10)]
    rw [E_Model_broken_32, i48, if_pos rfl, c48, e11, P_mNeeds, r1_s]
    by_cases nd : ndK (opW a p o) = -1
    · rw [if_pos nd, e35 (fun z => absurd nd z), if_neg (show ¬ (¬ ndK (opW a p o) = -1 ∧ suT a M p o = false) from fun z => z.1 nd)]
    · rw [if_neg nd]
      cases hs : suT a M p o with
      | false => rw [if_pos (show bI false = 0 from rfl), if_pos ⟨nd, rfl⟩]
      | true => rw [if_neg (show ¬ bI true = 0 by decide), e35 (fun _ => hs), if_neg (show ¬ (¬ ndK (opW a p o) = -1 ∧ true = false) from fun z => absurd z.2 (by decide))]
  /- the number of a variable in the reference -/
  have e27 : ∀ u tt : Int32, vrI u → vrI tt → dn sc kModel_broken 27 [.inr (.inr (10, 0, 0)), .inl (nI p), .inl (nI (16 * p + o)), .inl (if u = -1 then -1 else nI (6 * p + u.toNatClampNeg)), .inl (if tt = -1 then -1 else nI (6 * p + tt.toNatClampNeg)), .inl (bI (suT a M p o))] [] N = some (0, .inl (if ¬ tt = u ∧ hX M p tt = 1 ∧ kC M p tt.toNatClampNeg = 2 then 4 else if ¬ ndK (opW a p o) = -1 ∧ suT a M p o = false then 6 else if opW a p o = 8 ∨ opW a p o = 10 then mfT a M p o else 0), N) := by
    intro u tt hu ht
    rw [E_Model_broken_27]
    rcases ht with rfl | ⟨w, hw, rfl⟩
    · rw [if_pos rfl, if_pos rfl, e32, hX_n, if_neg (show ¬ (¬ (-1 : Int32) = u ∧ (-1 : Int32) = 1 ∧ kC M p (-1 : Int32).toNatClampNeg = 2) from fun z => absurd z.2.1 (by decide))]
    · have w1 : ¬ nI w = -1 := (by decide : ∀ w, w < 6 → ¬ nI w = -1) w hw
      have w2 : ¬ nI (6 * p + w) = -1 := (by decide : ∀ w, w < 18 → ¬ nI w = -1) _ (by omega)
      rw [if_neg w1, i_cl (show w < 2147483648 by omega), if_neg w2, hX_v hw]
      have iff : (nI (6 * p + w) = (if u = -1 then -1 else nI (6 * p + u.toNatClampNeg))) ↔ nI w = u := by
        rcases hu with rfl | ⟨v, hv, rfl⟩
        · rw [if_pos rfl]; exact ⟨fun z => absurd z w2, fun z => absurd z w1⟩
        · rw [if_neg ((by decide : ∀ w, w < 6 → ¬ nI w = -1) v hv), i_cl (show v < 2147483648 by omega), i_eq (by omega) (by omega), i_eq (by omega) (by omega)]
          omega
      by_cases z : nI w = u
      · rw [if_pos (iff.mpr z), e32, if_neg (show ¬ (¬ nI w = u ∧ hC M p w = 1 ∧ kC M p w = 2) from fun y => y.1 z)]
      · rw [if_neg (fun y => z (iff.mp y)), i_ib (show 6 * p + w < 18 by omega) (by decide), if_pos rfl, if_pos rfl, i_cl (show 6 * p + w < 2147483648 by omega), aR_i hw, aR_i hw, ← (pv.1 w hw).1, ← (pv.1 w hw).2.2]
        by_cases f1 : hC M p w = 1
        · by_cases f2 : kC M p w = 2
          · rw [if_pos f1, if_pos f2, if_pos ⟨z, f1, f2⟩]
          · rw [if_pos f1, if_neg f2, e32, if_neg (show ¬ (¬ nI w = u ∧ hC M p w = 1 ∧ kC M p w = 2) from fun y => f2 y.2.2)]
        · rw [if_neg f1, e32, if_neg (show ¬ (¬ nI w = u ∧ hC M p w = 1 ∧ kC M p w = 2) from fun y => f1 y.2.1)]
  have hxw := e27 _ _ hu ht
  have e6 : dn sc kModel_broken 6 [.inr (.inr (10, 0, 0)), .inl (nI p), .inl (nI (16 * p + o)), .inl (if usA a p o = -1 then -1 else nI (6 * p + (usA a p o).toNatClampNeg))] [.inl (if tgA a p o = -1 then -1 else nI (6 * p + (tgA a p o).toNatClampNeg))] N = some (0, .inl (ftT a M p o), N) := by
    rw [E_Model_broken_6, P_mNeed wf r rs hp ho, r1_s]
    rcases hu with u | ⟨v, hv, u⟩
    · rw [u] at hxw
      rw [if_pos rfl] at hxw
      unfold ftT
      rw [u, if_pos rfl, if_pos rfl, hxw, hX_n]
      have n7 : ¬ opW a p o = 7 := fun q => by
        have := (us_7 (okA wf hp ho) q)
        rw [u] at this
        exact absurd this.1.symm ((by decide : ∀ w, w < 6 → ¬ nI w = -1) _ this.2)
      have nw : ¬ ((opW a p o = 7 ∧ suT a M p o = true ∧ ¬ kC M p (-1 : Int32).toNatClampNeg = kdT a M p o) ∨ wwB (opW a p o) (decide ((-1 : Int32) = 2)) (decide ((-1 : Int32) = 3)) = true) := by
        rw [decide_eq_false (show ¬ (-1 : Int32) = 2 by decide), decide_eq_false (show ¬ (-1 : Int32) = 3 by decide)]
        intro z
        rcases z with z | z
        · exact n7 z.1
        · unfold wwB at z
          split at z
          · cases z
          · split at z
            · cases z
            · split at z <;> cases z
      rw [if_neg (show ¬ (-1 : Int32) = 0 by decide), if_neg nw, if_neg (show ¬ (((-1 : Int32) = 2 ∨ (-1 : Int32) = 3) ∧ lpC M p (-1 : Int32).toNatClampNeg = true) from fun z => z.1.elim (fun y => absurd y (by decide)) (fun y => absurd y (by decide)))]
    · have v1 : ¬ nI v = -1 := (by decide : ∀ w, w < 6 → ¬ nI w = -1) v hv
      have v2 : ¬ nI (6 * p + v) = -1 := (by decide : ∀ w, w < 18 → ¬ nI w = -1) _ (by omega)
      have iv : sm_ib (nI (6 * p + v)) 18 = true := i_ib (show 6 * p + v < 18 by omega) (by decide)
      have cv : (nI (6 * p + v)).toNatClampNeg = 6 * p + v := i_cl (by omega)
      have ev : (nI v).toNatClampNeg = v := i_cl (by omega)
      have eh : N.1 10 0 29 (6 * p + v) = hC M p v := (aR_i hv).trans (pv.1 v hv).1.symm
      have ek : N.1 10 0 31 (6 * p + v) = kC M p v := (aR_i hv).trans (pv.1 v hv).2.2.symm
      obtain ⟨n, n4, nh⟩ := pv.2.1 v hv
      rw [← (pv.1 v hv).1] at nh
      rw [u, if_neg v1, ev] at hxw
      unfold ftT
      rw [u, if_neg v1, ev, hX_v hv, if_neg v2, iv, if_pos rfl, cv, eh]
      by_cases z : hC M p v = 0
      · rw [if_pos z, if_pos z]
      · rw [if_neg z, if_neg z, i48, if_pos rfl, c48, e11]
        generalize hR : (if ¬ tgA a p o = nI v ∧ hX M p (tgA a p o) = 1 ∧ kC M p (tgA a p o).toNatClampNeg = 2 then (4 : Int32) else if ¬ ndK (opW a p o) = -1 ∧ suT a M p o = false then 6 else if opW a p o = 8 ∨ opW a p o = 10 then mfT a M p o else 0) = R at hxw ⊢
        have e15 : ∀ b : Bool, dn sc kModel_broken 15 [.inr (.inr (10, 0, 0)), .inl (nI p), .inl (nI (16 * p + o)), .inl (nI (6 * p + v)), .inl (if tgA a p o = -1 then -1 else nI (6 * p + (tgA a p o).toNatClampNeg)), .inl (bI (suT a M p o))] [.inl (bI b)] N = some (0, .inl (if b = true ∨ wwB (opW a p o) (decide (hC M p v = 2)) (decide (hC M p v = 3)) = true then 3 else if (hC M p v = 2 ∨ hC M p v = 3) ∧ lpC M p v = true then 5 else R), N) := by
          intro b
          have e21 : ∀ b2 b3 : Bool, dn sc kModel_broken 21 [.inr (.inr (10, 0, 0)), .inl (nI p), .inl (nI (16 * p + o)), .inl (nI (6 * p + v)), .inl (if tgA a p o = -1 then -1 else nI (6 * p + (tgA a p o).toNatClampNeg)), .inl (bI (suT a M p o)), .inl (bI b)] [.inl (bI b3), .inl (bI b2), .inl (opW a p o)] N = some (0, .inl (if b = true ∨ wwB (opW a p o) b2 b3 = true then 3 else if (hC M p v = 2 ∨ hC M p v = 3) ∧ lpC M p v = true then 5 else R), N) := by
            intro b2 b3
            rw [E_Model_broken_21, P_mWrong, r1_s]
            cases hw : wwB (opW a p o) b2 b3 with
            | true => rw [if_neg (show ¬ bI true = 0 by decide), if_pos (Or.inr rfl)]
            | false =>
              rw [if_pos (show bI false = 0 from rfl)]
              cases b with
              | true => rw [if_neg (show ¬ bI true = 0 by decide), if_pos (Or.inl rfl)]
              | false =>
                rw [if_pos (show bI false = 0 from rfl), if_neg (show ¬ (false = true ∨ false = true) by decide), iv, if_pos rfl, cv, eh]
                by_cases h1 : hC M p v = 1
                · rw [if_pos h1, hxw, if_neg (show ¬ ((hC M p v = 2 ∨ hC M p v = 3) ∧ lpC M p v = true) from fun y => by rw [h1] at y; exact y.1.elim (fun g => absurd g (by decide)) (fun g => absurd g (by decide)))]
                · have h23 : hC M p v = 2 ∨ hC M p v = 3 := by
                    rw [nh] at z h1 ⊢
                    revert z h1
                    exact (by decide : ∀ n, n < 4 → ¬ nI n = 0 → ¬ nI n = 1 → nI n = 2 ∨ nI n = 3) n n4
                  have h23' : aR N 29 p v = 2 ∨ aR N 29 p v = 3 := by rw [← (pv.1 v hv).1]; exact h23
                  obtain ⟨bb, g1, g2⟩ := P_mHolds (sc := sc) hp hv uq h23'
                  have g3 := pv.2.2.2.2.2.1 v hv h23'
                  rw [if_neg h1, g1, r1_s]
                  cases bb with
                  | true =>
                    have : lpC M p v = false := g3.mpr (g2.mp rfl)
                    rw [if_neg (show ¬ bI true = 0 by decide), hxw, this, if_neg (show ¬ ((hC M p v = 2 ∨ hC M p v = 3) ∧ false = true) from fun y => absurd y.2 (by decide))]
                  | false =>
                    have : lpC M p v = true := by
                      cases hl : lpC M p v with
                      | true => rfl
                      | false => exact absurd (g2.mpr (g3.mp hl)) (by decide)
                    rw [if_pos (show bI false = 0 from rfl), if_pos ⟨h23, this⟩]
          have e18 : ∀ b2 : Bool, dn sc kModel_broken 18 [.inr (.inr (10, 0, 0)), .inl (nI p), .inl (nI (16 * p + o)), .inl (nI (6 * p + v)), .inl (if tgA a p o = -1 then -1 else nI (6 * p + (tgA a p o).toNatClampNeg)), .inl (bI (suT a M p o)), .inl (bI b)] [.inl (bI b2), .inl (opW a p o)] N = some (0, .inl (if b = true ∨ wwB (opW a p o) b2 (decide (hC M p v = 3)) = true then 3 else if (hC M p v = 2 ∨ hC M p v = 3) ∧ lpC M p v = true then 5 else R), N) := by
            intro b2
            rw [E_Model_broken_18, iv, if_pos rfl, cv, eh]
            by_cases h3 : hC M p v = 3
            · rw [if_pos h3, decide_eq_true h3]; exact e21 b2 true
            · rw [if_neg h3, decide_eq_false h3]; exact e21 b2 false
          rw [E_Model_broken_15, i48, if_pos rfl, iv, if_pos rfl, cv, eh, c48, e11]
          by_cases h2 : hC M p v = 2
          · rw [if_pos h2, decide_eq_true h2]; exact e18 true
          · rw [if_neg h2, decide_eq_false h2]; exact e18 false
        by_cases q7 : opW a p o = 7
        · rw [if_pos q7]
          cases hs : suT a M p o with
          | false =>
            rw [if_pos (show bI false = 0 from rfl)]
            rw [hs] at e15
            refine (e15 false).trans ?_
            simp only [Bool.false_eq_true, false_and, and_false, false_or]
          | true =>
            obtain ⟨s1, s2, _⟩ := suT_of hs
            obtain ⟨x1, x2⟩ := xN_nd (okA wf hp ho) s1
            obtain ⟨c1, _⟩ := of_c wf s2
            have q6 := qN_6 (a := a) (p := p) x1
            obtain ⟨s, t1, t2, t3⟩ := (rs p hp).2.2.2.2 _ s2
            have h8 := (wf.1 _ (wf.2.2.2.2 _ c1).2.2.2.1).2.1
            have es : kA a (prA a (xN a p o)) s = kdT a M p o := by
              unfold kdT sT
              rw [t2, i_cl (by omega)]
            rw [hs] at e15
            rw [if_neg (show ¬ bI true = 0 by decide), if_pos rfl]
            by_cases h1 : hC M p v = 1
            · rw [if_pos h1, if_pos rfl, if_pos rfl, if_pos rfl, e12, x2, P_mSide0 wf r s2, r1_s, i_ib q6 (by decide), if_pos rfl, q_cl x1, t3, P_mStepKind wf r c1 t1, r1_s, es, ek]
              by_cases k : kC M p v = kdT a M p o
              · rw [if_pos k]
                refine (e15 false).trans ?_
                simp only [Bool.false_eq_true, false_or, k, not_true, and_false]
              · rw [if_neg k]
                refine (e15 true).trans ?_
                simp only [q7, k, not_false_iff, true_and, true_or, if_true]
            · rw [if_neg h1]
              refine (e15 false).trans ?_
              have h23 : hC M p v = 2 ∨ hC M p v = 3 := by
                rw [nh] at z h1 ⊢
                revert z h1
                exact (by decide : ∀ n, n < 4 → ¬ nI n = 0 → ¬ nI n = 1 → nI n = 2 ∨ nI n = 3) n n4
              have ww : wwB (opW a p o) (decide (hC M p v = 2)) (decide (hC M p v = 3)) = true := by
                unfold wwB
                rw [if_pos (Or.inr (Or.inr q7)), Bool.or_eq_true, decide_eq_true_eq, decide_eq_true_eq]
                exact h23
              rw [if_pos (Or.inr ww), if_pos (Or.inr ww)]
        · rw [if_neg q7]
          refine (e15 false).trans ?_
          simp only [Bool.false_eq_true, false_or, q7, false_and]
  have e3 : dn sc kModel_broken 3 [.inr (.inr (10, 0, 0)), .inl (nI p), .inl (nI (16 * p + o))] [.inl (if usA a p o = -1 then -1 else nI (6 * p + (usA a p o).toNatClampNeg))] N = some (0, .inl (ftT a M p o), N) := by
    rw [E_Model_broken_3, P_mTarget r hp (by omega), r1_s]
    by_cases q : tgA a p o = -1
    · rw [if_pos q]
      rw [if_pos q] at e6
      exact e6
    · obtain ⟨w, hw, ew⟩ := ht.resolve_left q
      rw [if_neg q, P_mTarget r hp (by omega), r1_s]
      rw [if_neg q] at e6
      rw [ew] at e6 ⊢
      rw [i_cl (show w < 2147483648 by omega)] at e6
      rw [show (6 : Int32) = nI 6 from rfl, i_mul, nI_add]
      exact e6
  rw [E_Model_broken_0, P_mUsed r hp (by omega), r1_s]
  by_cases q : usA a p o = -1
  · rw [if_pos q]
    rw [if_pos q] at e3
    exact e3
  · obtain ⟨w, hw, ew⟩ := hu.resolve_left q
    rw [if_neg q, P_mUsed r hp (by omega), r1_s]
    rw [if_neg q] at e3
    rw [ew] at e3 ⊢
    rw [i_cl (show w < 2147483648 by omega)] at e3
    rw [show (6 : Int32) = nI 6 from rfl, i_mul, nI_add]
    exact e3
