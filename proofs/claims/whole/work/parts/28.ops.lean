/-! LEVEL B: op and unop, of the class and of the reference -/
def forgets (M : sm_M) (k : Nat) : sm_M := sm_u (sm_u (sm_u M 4 k 0 10 0) 5 0 0 6 0) 3 0 0 5 0
theorem P_tForget {sc : Nat × (Nat → Int32)} {M : sm_M} {k : Nat} (hk : k < 3) : dn sc kTop_forget 0 [.inr (.inr (9, 0, 0)), .inl (nI k)] [] M = some (0, .inl 0, forgets M k) := by
  rw [E_Top_forget_0, i_ib hk (by decide), if_pos rfl, i_cl (by omega), E_Flow_forget_0, r0_s, E_Layouts_forget_0, r0_s, E_Course_stop_0, r0_s]; rfl
theorem rK_forgets {M : sm_M} {k p n : Nat} {W X Y : Nat → Int32} (r : rK M p n W X Y) : rK (forgets M k) p n W X Y := r
theorem P_tOp {sc : Nat × (Nat → Int32)} {a : Nat → Nat → Int32} {M : sm_M} (r : rTel a M) (p w x y : Int32) :
    dn sc kTop_op 0 [.inr (.inr (9, 0, 0)), .inl p, .inl w, .inl x, .inl y] [] M =
      if wN p 3 = false then some (1, .inl 0, M) else if okO w x y = false then some (2, .inl 0, M) else
      if onA a p.toNatClampNeg = 16 then some (3, .inl 0, M) else
      some (0, .inl (nI (onA a p.toNatClampNeg)), sm_u (sm_u (sm_u (sm_u (forgets M p.toNatClampNeg) 2 p.toNatClampNeg 1 (onA a p.toNatClampNeg) w) 2 p.toNatClampNeg 2 (onA a p.toNatClampNeg) x) 2 p.toNatClampNeg 3 (onA a p.toNatClampNeg) y) 2 p.toNatClampNeg 0 3 (nI (onA a p.toNatClampNeg + 1))) := by
  rw [E_Top_op_0, P_within, r1_s, show (!decide (p < 0) && decide (p < 3)) = wN p 3 from rfl]
  cases hp : wN p 3 with
  | false => rw [if_pos (show bI false = 0 from rfl), if_pos rfl]
  | true =>
    rw [if_neg (show ¬ bI true = 0 by decide), if_neg (show ¬ true = false by decide), P_kAllows, r1_s]
    cases ho : okO w x y with
    | false => rw [if_pos (show bI false = 0 from rfl), if_pos rfl]
    | true =>
      rw [if_neg (show ¬ bI true = 0 by decide), if_neg (show ¬ true = false by decide)]
      obtain ⟨k, hk, rfl⟩ := wN_of (n := 3) (by decide) hp
      have rk := r.2.1 k hk
      have hn := rk.2.1
      rw [i_ib hk (by decide), if_pos rfl, i_cl (by omega), P_kFull rk, r1_s]
      by_cases q : onA a k = 16
      · rw [decide_eq_true q, if_neg (show ¬ bI true = 0 by decide), if_pos q]
      · rw [decide_eq_false q, if_pos (show bI false = 0 from rfl), if_neg q, P_tForget hk, r0_s, if_pos rfl, P_kAdd (rK_forgets rk) (by omega), r1_s]
theorem P_tUnop {sc : Nat × (Nat → Int32)} {a : Nat → Nat → Int32} {M : sm_M} (r : rTel a M) (p : Int32) :
    dn sc kTop_unop 0 [.inr (.inr (9, 0, 0)), .inl p] [] M =
      if wN p 3 = false then some (1, .inl 0, M) else if onA a p.toNatClampNeg = 0 then some (3, .inl 0, M) else
      some (0, .inl (nI (onA a p.toNatClampNeg - 1)), sm_u (forgets M p.toNatClampNeg) 2 p.toNatClampNeg 0 3 (nI (onA a p.toNatClampNeg - 1))) := by
  rw [E_Top_unop_0, P_within, r1_s, show (!decide (p < 0) && decide (p < 3)) = wN p 3 from rfl]
  cases hp : wN p 3 with
  | false => rw [if_pos (show bI false = 0 from rfl), if_pos rfl]
  | true =>
    rw [if_neg (show ¬ bI true = 0 by decide), if_neg (show ¬ true = false by decide)]
    obtain ⟨k, hk, rfl⟩ := wN_of (n := 3) (by decide) hp
    have rk := r.2.1 k hk
    have hn := rk.2.1
    rw [i_ib hk (by decide), if_pos rfl, i_cl (by omega), P_kSize rk, r1_s]
    by_cases q : onA a k = 0
    · rw [q, if_pos (show nI 0 = 0 from rfl), if_pos rfl]
    · obtain ⟨m, hm⟩ : ∃ m, onA a k = m + 1 := ⟨onA a k - 1, by omega⟩
      rw [hm] at rk hn
      rw [hm, if_neg (nI_ne0 (by omega) (by omega)), if_neg (by omega), P_tForget hk, r0_s, if_pos rfl, P_kLast (rK_forgets rk), r1_s]; rfl
theorem three_K {g x y : Bool} {M : sm_M} : (if bI g = 0 then some (0, Sum.inl (0 : Int32), M) else if bI x = 0 then some (0, .inl 0, M) else if bI y = 0 then some (0, .inl 0, M) else some (0, .inl 1, M) : Option sm_R) = some (0, .inl (bI (g && (x && y))), M) := by cases g <;> cases x <;> cases y <;> rfl
theorem P_mIsOp19 {sc : Nat × (Nat → Int32)} {M : sm_M} {w : Int32} {x y : Bool} : dn sc kModel_isOp 19 [.inl w, .inl (bI x), .inl (bI y)] [] M = some (0, .inl (bI (wN w 14 && (x && y))), M) := by
  rw [E_Model_isOp_19, P_in, r1_s, show (!decide (w < 0) && !decide ((13 : Int32) < w)) = wN w 14 from wN_in (n := 13) (by decide), three_K]
theorem P_mIsOp11 {sc : Nat × (Nat → Int32)} {M : sm_M} {w y : Int32} {x : Bool} : dn sc kModel_isOp 11 [.inl w, .inl y, .inl (bI x)] [] M = some (0, .inl (bI (wN w 14 && (x && wN y 16))), M) := by
  rw [E_Model_isOp_11, P_in, r1_s, show (!decide (y < 0) && !decide ((15 : Int32) < y)) = wN y 16 from wN_in (n := 15) (by decide), P_mIsOp19]
theorem P_mIsOp12 {sc : Nat × (Nat → Int32)} {M : sm_M} {w a y : Int32} {x : Bool} : dn sc kModel_isOp 12 [.inl w, .inl a, .inl y, .inl (bI x)] [] M = some (0, .inl (bI (wN w 14 && (x && (wN y 6 && !(decide (a = y) && (decide (w = 5) || decide (w = 6))))))), M) := by
  rw [E_Model_isOp_12, P_in, r1_s, show (!decide (y < 0) && !decide ((5 : Int32) < y)) = wN y 6 from wN_in (n := 5) (by decide), show (.inl 0 : sm_v) = .inl (bI false) from rfl, show (.inl 1 : sm_v) = .inl (bI true) from rfl]
  simp only [P_mIsOp19]
  cases wN y 6 with
  | false => rw [if_pos (show bI false = 0 from rfl)]; rfl
  | true =>
    rw [if_neg (show ¬ bI true = 0 by decide)]
    by_cases q : a = y
    · rw [if_pos q, decide_eq_true q]
      by_cases q5 : w = 5
      · rw [if_pos q5, decide_eq_true q5]; rfl
      rw [if_neg q5, decide_eq_false q5]
      by_cases q6 : w = 6
      · rw [if_pos q6, decide_eq_true q6]; rfl
      rw [if_neg q6, decide_eq_false q6]; rfl
    · rw [if_neg q, decide_eq_false q]; rfl
/-- the second half of isOp: what b may be, behind x for a -/
def isB (w a y : Int32) : Bool := if w = 0 then wN y 3 else if w = 2 ∨ w = 3 ∨ w = 4 ∨ w = 13 then true else if w = 9 then wN y 2 else if w = 10 ∨ w = 11 ∨ w = 12 then wN y 16 else wN y 6 && !(decide (a = y) && (decide (w = 5) || decide (w = 6)))
theorem P_mIsOp7 {sc : Nat × (Nat → Int32)} {M : sm_M} {w a y : Int32} {x : Bool} : dn sc kModel_isOp 7 [.inl w, .inl a, .inl y] [.inl (bI x)] M = some (0, .inl (bI (wN w 14 && (x && isB w a y))), M) := by
  rw [E_Model_isOp_7, show (.inl 1 : sm_v) = .inl (bI true) from rfl]
  simp only [P_in, r1_s, P_mIsOp19, P_mIsOp11, P_mIsOp12]
  rw [show (!decide (y < 0) && !decide ((2 : Int32) < y)) = wN y 3 from wN_in (n := 2) (by decide), show (!decide (y < 0) && !decide (bI true < y)) = wN y 2 from wN_in (n := 1) (by decide)]
  unfold isB
  by_cases q0 : w = 0
  · rw [if_pos q0, if_pos q0]
  by_cases q1 : w = 1
  · subst q1; rfl
  by_cases q2 : w = 2
  · subst q2; rfl
  by_cases q3 : w = 3
  · subst q3; rfl
  by_cases q4 : w = 4
  · subst q4; rfl
  by_cases q5 : w = 5
  · subst q5; rfl
  by_cases q6 : w = 6
  · subst q6; rfl
  by_cases q7 : w = 7
  · subst q7; rfl
  by_cases q8 : w = 8
  · subst q8; rfl
  by_cases q9 : w = 9
  · subst q9; rfl
  by_cases q10 : w = 10
  · subst q10; rfl
  by_cases q11 : w = 11
  · subst q11; rfl
  by_cases q12 : w = 12
  · subst q12; rfl
  by_cases q13 : w = 13
  · subst q13; rfl
  simp only [q0, q1, q2, q3, q4, q5, q6, q7, q8, q9, q10, q11, q12, q13, if_false, or_self]
theorem okO_in (w a y : Int32) : okO w a y = (wN w 14 && ((if w < 11 then (if w < 7 then wN a 6 else wN a 3) else true) && isB w a y)) := by
  cases h : wN w 14 with
  | false =>
    have hw := wN_ge (n := 14) (by decide) h
    unfold okO
    rw [if_neg (show ¬ w = 0 from hw 0 (by decide)), if_neg (show ¬ w = 1 from hw 1 (by decide)), if_neg (show ¬ (w = 2 ∨ w = 3 ∨ w = 4) from fun q => q.elim (hw 2 (by decide)) (fun q => q.elim (hw 3 (by decide)) (hw 4 (by decide)))), if_neg (show ¬ (w = 5 ∨ w = 6) from fun q => q.elim (hw 5 (by decide)) (hw 6 (by decide))), if_neg (show ¬ (w = 7 ∨ w = 8) from fun q => q.elim (hw 7 (by decide)) (hw 8 (by decide))), if_neg (show ¬ w = 9 from hw 9 (by decide)), if_neg (show ¬ w = 10 from hw 10 (by decide)), if_neg (show ¬ (w = 11 ∨ w = 12) from fun q => q.elim (hw 11 (by decide)) (hw 12 (by decide))), decide_eq_false (show ¬ w = 13 from hw 13 (by decide))]
    rfl
  | true =>
    obtain ⟨k, hk, rfl⟩ := wN_of (n := 14) (by decide) h
    rw [Bool.true_and]
    rcases (show k = 0 ∨ k = 1 ∨ k = 2 ∨ k = 3 ∨ k = 4 ∨ k = 5 ∨ k = 6 ∨ k = 7 ∨ k = 8 ∨ k = 9 ∨ k = 10 ∨ k = 11 ∨ k = 12 ∨ k = 13 by omega) with rfl | rfl | rfl | rfl | rfl | rfl | rfl | rfl | rfl | rfl | rfl | rfl | rfl | rfl
    · rfl
    · show (wN a 6 && wN y 6) = (wN a 6 && (wN y 6 && !(decide (a = y) && false)))
      rw [Bool.and_false]; cases wN a 6 <;> cases wN y 6 <;> rfl
    · show wN a 6 = (wN a 6 && true); rw [Bool.and_true]
    · show wN a 6 = (wN a 6 && true); rw [Bool.and_true]
    · show wN a 6 = (wN a 6 && true); rw [Bool.and_true]
    · show (wN a 6 && wN y 6 && !decide (a = y)) = (wN a 6 && (wN y 6 && !(decide (a = y) && true)))
      rw [Bool.and_true, Bool.and_assoc]
    · show (wN a 6 && wN y 6 && !decide (a = y)) = (wN a 6 && (wN y 6 && !(decide (a = y) && true)))
      rw [Bool.and_true, Bool.and_assoc]
    · show (wN a 3 && wN y 6) = (wN a 3 && (wN y 6 && !(decide (a = y) && false)))
      rw [Bool.and_false]; cases wN a 3 <;> cases wN y 6 <;> rfl
    · show (wN a 3 && wN y 6) = (wN a 3 && (wN y 6 && !(decide (a = y) && false)))
      rw [Bool.and_false]; cases wN a 3 <;> cases wN y 6 <;> rfl
    · rfl
    · rfl
    · rfl
    · rfl
    · rfl
theorem P_mIsOp {sc : Nat × (Nat → Int32)} {M : sm_M} {w a y : Int32} : dn sc kModel_isOp 0 [.inl w, .inl a, .inl y] [] M = some (0, .inl (bI (okO w a y)), M) := by
  rw [E_Model_isOp_0, okO_in, show (dn sc kModel_isOp 7 [.inl w, .inl a, .inl y] [.inl 1] M) = some (0, .inl (bI (wN w 14 && (true && isB w a y))), M) from P_mIsOp7 (x := true)]
  have e4 : ∀ n : Nat, n + 1 < 2147483648 → dn sc kModel_isOp 4 [.inl w, .inl a, .inl y] [.inl (nI n), .inl 0, .inl a] M = some (0, .inl (bI (wN w 14 && (wN a (nI (n + 1)) && isB w a y))), M) := by
    intro n hn
    rw [E_Model_isOp_4, P_in, r1_s, wN_in hn, show (.inl 1 : sm_v) = .inl (bI true) from rfl, show ([.inl 0] : List sm_v) = [.inl (bI false)] from rfl, P_mIsOp7, P_mIsOp7]
    cases wN a (nI (n + 1)) with
    | false => rw [if_pos (show bI false = 0 from rfl)]
    | true => rw [if_neg (show ¬ bI true = 0 by decide)]
  rw [show (dn sc kModel_isOp 4 [.inl w, .inl a, .inl y] [.inl 5, .inl 0, .inl a] M) = _ from e4 5 (by decide), show (dn sc kModel_isOp 4 [.inl w, .inl a, .inl y] [.inl 2, .inl 0, .inl a] M) = _ from e4 2 (by decide)]
  by_cases q : w < 11
  · rw [if_pos q, if_pos q]
    by_cases q7 : w < 7
    · rw [if_pos q7, if_pos q7]; rfl
    · rw [if_neg q7, if_neg q7]; rfl
  · rw [if_neg q, if_neg q]
/-- what the reference forgets -/
def changed (M : sm_M) : sm_M := sm_u (sm_u M 10 0 0 13 0) 10 0 0 24 0
theorem P_mOp {sc : Nat × (Nat → Int32)} {M : sm_M} {p w x y : Int32} (hs : ∀ k, k < 3 → p = nI k → ∃ m, m ≤ 16 ∧ M.1 10 0 10 k = nI m) :
    dn sc kModel_op 0 [.inr (.inr (10, 0, 0)), .inl p, .inl w, .inl x, .inl y] [] M =
      if wN p 3 = false then some (0, .inl 0, sm_u M 10 0 0 0 1) else if okO w x y = false then some (0, .inl 0, sm_u M 10 0 0 0 2) else
      if M.1 10 0 10 p.toNatClampNeg = 16 then some (0, .inl 0, sm_u M 10 0 0 0 3) else
      some (0, .inl (M.1 10 0 10 p.toNatClampNeg), changed (sm_u (sm_u (sm_u (sm_u (sm_u M 10 0 0 0 0) 10 0 11 (16 * p.toNatClampNeg + (M.1 10 0 10 p.toNatClampNeg).toNatClampNeg) w) 10 0 12 (16 * p.toNatClampNeg + (M.1 10 0 10 p.toNatClampNeg).toNatClampNeg) x) 10 0 13 (16 * p.toNatClampNeg + (M.1 10 0 10 p.toNatClampNeg).toNatClampNeg) y) 10 0 10 p.toNatClampNeg (M.1 10 0 10 p.toNatClampNeg + 1))) := by
  rw [E_Model_op_0, P_isThird, r1_s, show (!decide (p < 0) && decide (p < 3)) = wN p 3 from rfl, P_mIsOp, r1_s]
  have e1 : ∀ t : Int32, 0 < t → dn sc kModel_op 7 [.inr (.inr (10, 0, 0)), .inl p, .inl w, .inl x, .inl y] [.inl t, .inr (.inr (10, 0, 0))] M = some (0, .inl 0, sm_u M 10 0 0 0 t) := by
    intro t ht
    rw [E_Model_op_7, u_1]
    rw [if_pos (show (10 = 10 ∧ 0 = 0 ∧ 0 = 0 ∧ 0 = 0) by decide), if_pos ht]
  cases hp : wN p 3 with
  | false => rw [if_pos (show bI false = 0 from rfl), if_pos rfl]; exact e1 1 (by decide)
  | true =>
    rw [if_neg (show ¬ bI true = 0 by decide), if_neg (show ¬ true = false by decide)]
    cases ho : okO w x y with
    | false => rw [if_pos (show bI false = 0 from rfl), if_pos rfl]; exact e1 2 (by decide)
    | true =>
      rw [if_neg (show ¬ bI true = 0 by decide), if_neg (show ¬ true = false by decide)]
      obtain ⟨k, hk, rfl⟩ := wN_of (n := 3) (by decide) hp
      obtain ⟨m, hm, hm2⟩ := hs k hk rfl
      rw [i_ib hk (by decide), if_pos rfl, i_cl (by omega), hm2]
      by_cases q : nI m = 16
      · rw [if_pos q, if_pos q]; exact e1 3 (by decide)
      · rw [if_neg q, if_neg q]
        have hm8 : m < 16 := by
          have : ¬ m = 16 := fun z => q (by rw [z]; rfl)
          omega
        rw [E_Model_op_7]
        have e8 : (16 : Int32) * nI k + nI m = nI (16 * k + m) := by rw [show (16 : Int32) = nI 16 from rfl, i_mul, nI_add]
        simp only [u_1, i_cl (show k < 2147483648 by omega), i_cl (show m < 2147483648 by omega), hm2, e8, i_ib (show 16 * k + m < 48 by omega) (by decide), i_cl (show 16 * k + m < 2147483648 by omega), i_ib hk (by decide), if_true, true_and, and_true, false_and, and_false, if_false, Nat.reduceEqDiff, nI_1, nI_pred, E_Model_changed_0, r0_s]
        rw [if_neg (show ¬ (0 : Int32) < 0 by decide)]; rfl
theorem P_mUnop {sc : Nat × (Nat → Int32)} {M : sm_M} {p : Int32} (hs : ∀ k, k < 3 → p = nI k → ∃ m, m ≤ 16 ∧ M.1 10 0 10 k = nI m) :
    dn sc kModel_unop 0 [.inr (.inr (10, 0, 0)), .inl p] [] M =
      if wN p 3 = false then some (0, .inl 0, sm_u M 10 0 0 0 1) else if M.1 10 0 10 p.toNatClampNeg = 0 then some (0, .inl 0, sm_u M 10 0 0 0 2) else
      some (0, .inl (M.1 10 0 10 p.toNatClampNeg - 1), changed (sm_u (sm_u M 10 0 0 0 0) 10 0 10 p.toNatClampNeg (M.1 10 0 10 p.toNatClampNeg - 1))) := by
  rw [E_Model_unop_0, P_isThird, r1_s, show (!decide (p < 0) && decide (p < 3)) = wN p 3 from rfl]
  have e1 : ∀ t : Int32, 0 < t → dn sc kModel_unop 5 [.inr (.inr (10, 0, 0)), .inl p] [.inl t, .inr (.inr (10, 0, 0))] M = some (0, .inl 0, sm_u M 10 0 0 0 t) := by
    intro t ht
    rw [E_Model_unop_5, u_1]
    rw [if_pos (show (10 = 10 ∧ 0 = 0 ∧ 0 = 0 ∧ 0 = 0) by decide), if_pos ht]
  cases hp : wN p 3 with
  | false => rw [if_pos (show bI false = 0 from rfl), if_pos rfl]; exact e1 1 (by decide)
  | true =>
    rw [if_neg (show ¬ bI true = 0 by decide), if_neg (show ¬ true = false by decide)]
    obtain ⟨k, hk, rfl⟩ := wN_of (n := 3) (by decide) hp
    rw [i_ib hk (by decide), if_pos rfl, i_cl (by omega)]
    by_cases q : M.1 10 0 10 k = 0
    · rw [if_pos q, if_pos q]; exact e1 2 (by decide)
    · rw [if_neg q, if_neg q, E_Model_unop_5]
      simp only [u_1, i_cl (show k < 2147483648 by omega), i_ib hk (by decide), if_true, true_and, and_true, false_and, and_false, if_false, Nat.reduceEqDiff, E_Model_changed_0, r0_s]
      rw [if_neg (show ¬ (0 : Int32) < 0 by decide)]; rfl
