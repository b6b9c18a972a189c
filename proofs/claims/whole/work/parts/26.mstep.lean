/-! LEVEL B: the reference's step -/
/-- the reference's cells of a memory -/
def mA (M : sm_M) : Nat → Nat → Int32 := M.1 10 0
def usedP (a : Nat → Nat → Int32) (p : Int32) (i k : Nat) : Bool := (List.range' i k).any (fun c => decide (a 7 c = p))
theorem P_mStep10 {sc : Nat × (Nat → Int32)} {M : sm_M} {n : Nat} (h : M.1 10 0 0 5 = nI n) (hn : n ≤ 3) {p w x y g : Int32} : ∀ (k i : Nat) (u : Bool), i + k = n →
    dn sc kModel_step 10 [.inr (.inr (10, 0, 0)), .inl p, .inl w, .inl x, .inl y, .inl g, .inl (bI u), .inl (nI i)] [] M = dn sc kModel_step 10 [.inr (.inr (10, 0, 0)), .inl p, .inl w, .inl x, .inl y, .inl g, .inl (bI (u || usedP (mA M) p i k)), .inl (nI n)] [] M := by
  intro k
  induction k with
  | zero => intro i u hi; rw [show i = n by omega, show usedP (mA M) p n 0 = false from rfl, Bool.or_false]
  | succ k ih =>
    intro i u hi
    rw [E_Model_step_10, h, if_pos (by rw [i_lt (by omega) (by omega)]; omega), nI_1]
    have e : usedP (mA M) p i (k + 1) = (decide (M.1 10 0 7 i = p) || usedP (mA M) p (i + 1) k) := by unfold usedP; rw [List.range'_succ, List.any_cons]; rfl
    cases u with
    | true =>
      rw [if_neg (by decide)]
      refine (ih (i + 1) true (by omega)).trans ?_
      rw [Bool.true_or, Bool.true_or]
    | false =>
      rw [if_pos (show bI false = 0 from rfl), i_ib (show i < 3 by omega) (by decide), if_pos rfl, i_cl (by omega), e, Bool.false_or]
      by_cases q : M.1 10 0 7 i = p
      · rw [if_pos q, decide_eq_true q, Bool.true_or]
        refine (ih (i + 1) true (by omega)).trans ?_
        rw [Bool.true_or]
      · rw [if_neg q, decide_eq_false q, Bool.false_or]
        refine (ih (i + 1) false (by omega)).trans ?_
        rw [Bool.false_or]
theorem wN_in {a : Int32} {n : Nat} (hn : n + 1 < 2147483648) : (!decide (a < 0) && !decide (nI n < a)) = wN a (nI (n + 1)) := by
  unfold wN
  have h : (!decide (nI n < a)) = decide (a < nI (n + 1)) := by
    rw [← decide_not]
    refine decide_eq_decide.mpr ?_
    rw [Int32.lt_iff_toInt_lt, Int32.lt_iff_toInt_lt, nI_toInt (by omega), nI_toInt (by omega)]
    omega
  rw [h]
theorem wN_ge {a : Int32} {n : Nat} (hn : n < 2147483648) (h : wN a (nI n) = false) : ∀ k, k < n → ¬ a = nI k := by
  intro k hk q
  rw [q, wN_nI (by omega) hn, decide_eq_true hk] at h
  cases h
theorem okS_in (w x y : Int32) : okS w x y = (wN w 5 && (decide (w = 4) || (wN y 8 && (if 1 < w then wN x 8 else wN x 3)))) := by
  cases h : wN w 5 with
  | false =>
    have hw := wN_ge (n := 5) (by decide) h
    unfold okS
    rw [if_neg (fun q => q.elim (hw 0 (by decide)) (hw 1 (by decide))), if_neg (fun q => q.elim (hw 2 (by decide)) (hw 3 (by decide))), decide_eq_false (show ¬ w = 4 from hw 4 (by decide))]; rfl
  | true =>
    obtain ⟨k, hk, rfl⟩ := wN_of (n := 5) (by decide) h
    unfold okS
    rcases (show k = 0 ∨ k = 1 ∨ k = 2 ∨ k = 3 ∨ k = 4 by omega) with rfl | rfl | rfl | rfl | rfl
    · rw [if_pos (by decide), if_neg (by decide), decide_eq_false (by decide), Bool.true_and, Bool.false_or, Bool.and_comm]
    · rw [if_pos (by decide), if_neg (by decide), decide_eq_false (by decide), Bool.true_and, Bool.false_or, Bool.and_comm]
    · rw [if_neg (by decide), if_pos (by decide), if_pos (by decide), decide_eq_false (by decide), Bool.true_and, Bool.false_or, Bool.and_comm]
    · rw [if_neg (by decide), if_pos (by decide), if_pos (by decide), decide_eq_false (by decide), Bool.true_and, Bool.false_or, Bool.and_comm]
    · rw [if_neg (by decide), if_neg (by decide), decide_eq_true (by decide)]; rfl
theorem P_mStep0 {sc : Nat × (Nat → Int32)} {M : sm_M} {p w x y : Int32} : dn sc kModel_step 0 [.inr (.inr (10, 0, 0)), .inl p, .inl w, .inl x, .inl y] [] M = dn sc kModel_step 10 [.inr (.inr (10, 0, 0)), .inl p, .inl w, .inl x, .inl y, .inl (bI (okS w x y)), .inl (bI false), .inl (nI 0)] [] M := by
  simp only [E_Model_step_0, P_in, r1_s, E_Model_step_7, E_Model_step_8]
  rw [okS_in, show (!decide (w < 0) && !decide ((4 : Int32) < w)) = wN w 5 from wN_in (n := 4) (by decide), show (!decide (y < 0) && !decide ((7 : Int32) < y)) = wN y 8 from wN_in (n := 7) (by decide), show (!decide (x < 0) && !decide ((7 : Int32) < x)) = wN x 8 from wN_in (n := 7) (by decide), show (!decide (x < 0) && !decide ((2 : Int32) < x)) = wN x 3 from wN_in (n := 2) (by decide)]
  cases wN w 5 with
  | false => rfl
  | true =>
    rw [if_neg (by decide)]
    by_cases q : w = 4
    · rw [if_pos q, decide_eq_true q]; rfl
    rw [if_neg q, decide_eq_false q]
    cases wN y 8 with
    | false => rfl
    | true =>
      rw [if_neg (by decide)]
      by_cases q1 : 1 < w
      · rw [if_pos q1, if_pos q1]
        cases wN x 8 <;> rfl
      · rw [if_neg q1, if_neg q1]
        cases wN x 3 <;> rfl
/-- the reference's step, refused or done -/
theorem P_mStep {sc : Nat × (Nat → Int32)} {M : sm_M} {n : Nat} (h : M.1 10 0 0 5 = nI n) (hn : n ≤ 3) {p w x y : Int32} (hs : ∀ k, k < 3 → p = nI k → ∃ m, m ≤ 8 ∧ M.1 10 0 2 k = nI m) :
    dn sc kModel_step 0 [.inr (.inr (10, 0, 0)), .inl p, .inl w, .inl x, .inl y] [] M =
      if wN p 3 = false then some (0, .inl 0, sm_u M 10 0 0 0 1) else if okS w x y = false then some (0, .inl 0, sm_u M 10 0 0 0 2) else
      if (decide (M.1 10 0 2 p.toNatClampNeg = 8) || usedP (mA M) p 0 n) = true then some (0, .inl 0, sm_u M 10 0 0 0 3) else
      some (0, .inl (M.1 10 0 2 p.toNatClampNeg), sm_u (sm_u (sm_u (sm_u (sm_u M 10 0 0 0 0) 10 0 3 (8 * p.toNatClampNeg + (M.1 10 0 2 p.toNatClampNeg).toNatClampNeg) w) 10 0 4 (8 * p.toNatClampNeg + (M.1 10 0 2 p.toNatClampNeg).toNatClampNeg) x) 10 0 5 (8 * p.toNatClampNeg + (M.1 10 0 2 p.toNatClampNeg).toNatClampNeg) y) 10 0 2 p.toNatClampNeg (M.1 10 0 2 p.toNatClampNeg + 1)) := by
  rw [P_mStep0, P_mStep10 h hn n 0 false (by omega), Bool.false_or, E_Model_step_10, h, if_neg (by rw [i_lt (by omega) (by omega)]; omega), P_isThird, r1_s]
  rw [show (!decide (p < 0) && decide (p < 3)) = wN p 3 from rfl]
  have e1 : ∀ t : Int32, 0 < t → dn sc kModel_step 24 [.inr (.inr (10, 0, 0)), .inl p, .inl w, .inl x, .inl y] [.inl t, .inr (.inr (10, 0, 0))] M = some (0, .inl 0, sm_u M 10 0 0 0 t) := by
    intro t ht
    rw [E_Model_step_24, u_1]
    rw [if_pos (show (10 = 10 ∧ 0 = 0 ∧ 0 = 0 ∧ 0 = 0) by decide), if_pos ht]
  cases hp : wN p 3 with
  | false => rw [if_pos (show bI false = 0 from rfl), if_pos rfl]; exact e1 1 (by decide)
  | true =>
    rw [if_neg (show ¬ bI true = 0 by decide), if_neg (show ¬ true = false by decide)]
    cases ho : okS w x y with
    | false => rw [if_pos (show bI false = 0 from rfl), if_pos rfl]; exact e1 2 (by decide)
    | true =>
      rw [if_neg (show ¬ bI true = 0 by decide), if_neg (show ¬ true = false by decide)]
      obtain ⟨k, hk, rfl⟩ := wN_of (n := 3) (by decide) hp
      obtain ⟨m, hm, hm2⟩ := hs k hk rfl
      rw [i_ib hk (by decide), if_pos rfl, i_cl (by omega), hm2]
      by_cases q : nI m = 8
      · rw [if_pos q, decide_eq_true q, Bool.true_or, if_pos rfl]; exact e1 3 (by decide)
      · rw [if_neg q, decide_eq_false q, Bool.false_or]
        have hm8 : m < 8 := by
          have : ¬ m = 8 := fun z => q (by rw [z]; rfl)
          omega
        cases usedP (mA M) (nI k) 0 n with
        | true => rw [if_neg (show ¬ bI true = 0 by decide), if_pos rfl]; exact e1 3 (by decide)
        | false =>
          rw [if_pos (show bI false = 0 from rfl), if_neg (show ¬ false = true by decide), E_Model_step_24]
          have e8 : (8 : Int32) * nI k + nI m = nI (8 * k + m) := by rw [show (8 : Int32) = nI 8 from rfl, i_mul, nI_add]
          simp only [u_1, i_cl (show k < 2147483648 by omega), i_cl (show m < 2147483648 by omega), hm2, e8, i_ib (show 8 * k + m < 24 by omega) (by decide), i_cl (show 8 * k + m < 2147483648 by omega), i_ib hk (by decide), if_true, true_and, and_true, false_and, and_false, if_false, Nat.reduceEqDiff, nI_1, nI_pred]
          rw [if_neg (show ¬ (0 : Int32) < 0 by decide)]
