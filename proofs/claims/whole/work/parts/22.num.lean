/-! LEVEL B: helpers for the equations -/
theorem r0_s {v : sm_v} {M : sm_M} {K : sm_M → Option sm_R} : sm_r0 (some (0, v, M)) K = K M := rfl
theorem r1_s {x : Int32} {M : sm_M} {K : Int32 → sm_M → Option sm_R} : sm_r1 (some (0, .inl x, M)) K = K x M := rfl
theorem r2_s {x : Int64} {M : sm_M} {K : Int64 → sm_M → Option sm_R} : sm_r2 (some (0, .inr (.inl x), M)) K = K x M := rfl
theorem u_1 {M : sm_M} {c p j i : Nat} {x : Int32} {c' p' j' i' : Nat} : (sm_u M c p j i x).1 c' p' j' i' = if c' = c ∧ p' = p ∧ j' = j ∧ i' = i then x else M.1 c' p' j' i' := rfl
theorem u_2 {M : sm_M} {c p j i : Nat} {x : Int32} : (sm_u M c p j i x).2 = M.2 := rfl
theorem w_1 {M : sm_M} {c p j i : Nat} {x : Int64} : (sm_w M c p j i x).1 = M.1 := rfl
theorem w_2 {M : sm_M} {c p j i : Nat} {x : Int64} {c' p' j' i' : Nat} : (sm_w M c p j i x).2 c' p' j' i' = if c' = c ∧ p' = p ∧ j' = j ∧ i' = i then x else M.2 c' p' j' i' := rfl
/-- a boolean's number -/
def bI (b : Bool) : Int32 := bif b then 1 else 0
theorem bI_0 {b : Bool} : (bI b = 0) = (b = false) := by cases b <;> decide
theorem bI_1 {b : Bool} : (bI b = 1) = (b = true) := by cases b <;> decide
theorem bI_t : bI true = 1 := rfl
theorem bI_f : bI false = 0 := rfl
theorem ite_1 {c : Prop} {h : Decidable c} {M : sm_M} : (if c then some (0, Sum.inl (1 : Int32), M) else some (0, Sum.inl 0, M) : Option sm_R) = some (0, .inl (bI (decide c)), M) := by
  by_cases q : c
  · rw [if_pos q, decide_eq_true q]; rfl
  · rw [if_neg q, decide_eq_false q]; rfl
theorem ite_0 {c : Prop} {h : Decidable c} {M : sm_M} : (if c then some (0, Sum.inl (0 : Int32), M) else some (0, Sum.inl 1, M) : Option sm_R) = some (0, .inl (bI (!decide c)), M) := by
  by_cases q : c
  · rw [if_pos q, decide_eq_true q]; rfl
  · rw [if_neg q, decide_eq_false q]; rfl
/-- 0 ≤ x < n -/
def inN (x : Int32) (n : Nat) : Prop := ∃ k, k < n ∧ x = nI k
theorem i_cl {k : Nat} (h : k < 2147483648) : (nI k).toNatClampNeg = k := nI_clamp h
theorem i_ib {k n : Nat} (h : k < n) (hn : n < 2147483648) : sm_ib (nI k) n = true := sm_ib_nI h hn
theorem i_lt {a b : Nat} (ha : a < 2147483648) (hb : b < 2147483648) : (nI a < nI b) = (a < b) := propext (nI_ltI ha hb)
theorem i_eq {a b : Nat} (ha : a < 2147483648) (hb : b < 2147483648) : (nI a = nI b) = (a = b) := propext (nI_eq ha hb)
theorem i_neg {a : Nat} (ha : a < 2147483648) : (nI a < 0) = False := eq_false (nI_pos ha)
theorem i_lits : (0 : Int32) = nI 0 ∧ (1 : Int32) = nI 1 ∧ (2 : Int32) = nI 2 ∧ (3 : Int32) = nI 3 ∧ (4 : Int32) = nI 4 ∧ (5 : Int32) = nI 5 ∧ (6 : Int32) = nI 6 ∧ (7 : Int32) = nI 7 ∧ (8 : Int32) = nI 8 ∧ (9 : Int32) = nI 9 ∧ (10 : Int32) = nI 10 ∧ (11 : Int32) = nI 11 ∧ (12 : Int32) = nI 12 ∧ (13 : Int32) = nI 13 ∧ (14 : Int32) = nI 14 ∧ (15 : Int32) = nI 15 ∧ (16 : Int32) = nI 16 ∧ (17 : Int32) = nI 17 := by decide
/-- a number between two bounds is one of the small ones -/
theorem in_of {x : Int32} {n : Nat} (hn : n < 2147483648) (h0 : ¬ x < 0) (h : x < nI n) : ∃ k, k < n ∧ x = nI k := by
  obtain ⟨k, hk, rfl⟩ := nI_of h0
  exact ⟨k, (nI_ltI hk hn).mp h, rfl⟩
theorem P_within (sc : Nat × (Nat → Int32)) (M : sm_M) (a b : Int32) : dn sc kTop_within 0 [.inl a, .inl b] [] M = some (0, .inl (bI (!decide (a < 0) && decide (a < b))), M) := by
  rw [E_Top_within_0]
  by_cases q : a < 0
  · rw [if_pos q, decide_eq_true q]; rfl
  · rw [if_neg q, ite_1, decide_eq_false q]; rfl
theorem within_of {a : Int32} {n : Nat} (hn : n < 2147483648) (h : (!decide (a < 0) && decide (a < nI n)) = true) : ∃ k, k < n ∧ a = nI k := by
  rw [Bool.and_eq_true, Bool.not_eq_true', decide_eq_false_iff_not, decide_eq_true_eq] at h
  exact in_of hn h.1 h.2
theorem within_nI {k n : Nat} (hk : k < 2147483648) (hn : n < 2147483648) : (!decide (nI k < 0) && decide (nI k < nI n)) = decide (k < n) := by
  rw [decide_eq_false (nI_pos hk)]
  exact decide_eq_decide.mpr (nI_ltI hk hn)
theorem P_in (sc : Nat × (Nat → Int32)) (M : sm_M) (a b c : Int32) : dn sc kModel_in 0 [.inl a, .inl b, .inl c] [] M = some (0, .inl (bI (!decide (a < b) && !decide (c < a))), M) := by
  rw [E_Model_in_0]
  by_cases q : a < b
  · rw [if_pos q, decide_eq_true q]; rfl
  · rw [if_neg q, ite_0, decide_eq_false q]; rfl
theorem bI_K {b : Bool} {M : sm_M} : (if bI b = 0 then some (0, Sum.inl (0 : Int32), M) else if bI b = 1 then some (0, .inl 1, M) else none : Option sm_R) = some (0, .inl (bI b), M) := by cases b <;> rfl
theorem P_isThird (sc : Nat × (Nat → Int32)) (M : sm_M) (a : Int32) : dn sc kModel_isThird 0 [.inl a] [] M = some (0, .inl (bI (!decide (a < 0) && decide (a < 3))), M) := by
  rw [E_Model_isThird_0, P_in, r1_s, bI_K]
  have h : (!decide ((2 : Int32) < a)) = decide (a < 3) := by
    rw [← decide_not]
    refine decide_eq_decide.mpr ?_
    rw [Int32.lt_iff_toInt_lt, Int32.lt_iff_toInt_lt, show (2 : Int32).toInt = 2 from rfl, show (3 : Int32).toInt = 3 from rfl]
    omega
  rw [h]
/-- a number is one of 0 .. n - 1, or it isn't -/
def wN (x : Int32) (n : Int32) : Bool := !decide (x < 0) && decide (x < n)
theorem wN_of {a : Int32} {n : Nat} (hn : n < 2147483648) (h : wN a (nI n) = true) : ∃ k, k < n ∧ a = nI k := within_of hn h
theorem wN_nI {k n : Nat} (hk : k < 2147483648) (hn : n < 2147483648) : wN (nI k) (nI n) = decide (k < n) := within_nI hk hn
