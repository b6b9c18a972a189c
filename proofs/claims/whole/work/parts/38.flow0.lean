/-! LEVEL B: flows: two ways come together -/
def tgI (x y : Int32) : Int32 := if x = y then x else if x = 3 ∨ y = 3 ∨ x = 5 ∨ y = 5 then 5 else if x = 2 ∨ y = 2 ∨ x = 4 ∨ y = 4 then 4 else 0
theorem P_fMaybe (sc : Nat × (Nat → Int32)) (M : sm_M) (x : Int32) : dn sc kFlow_isMaybeAffine 0 [.inl x] [] M = some (0, .inl (bI (decide (x = 2) || decide (x = 4))), M) := by
  rw [E_Flow_isMaybeAffine_0, ite_1]
  by_cases q : x = 2
  · rw [if_pos q, decide_eq_true q]; rfl
  · rw [if_neg q, decide_eq_false q]; rfl
theorem P_mTogether (sc : Nat × (Nat → Int32)) (M : sm_M) (x y : Int32) : dn sc kModel_together 0 [.inl x, .inl y] [] M = some (0, .inl (tgI x y), M) := by
  rw [E_Model_together_0]
  unfold tgI
  by_cases q : x = y
  · rw [if_pos q, if_pos q]
  rw [if_neg q, if_neg q]
  by_cases q1 : x = 3
  · rw [if_pos q1, if_pos (Or.inl q1)]
  rw [if_neg q1]
  by_cases q2 : y = 3
  · rw [if_pos q2, if_pos (Or.inr (Or.inl q2))]
  rw [if_neg q2]
  by_cases q3 : x = 5
  · rw [if_pos q3, if_pos (Or.inr (Or.inr (Or.inl q3)))]
  rw [if_neg q3]
  by_cases q4 : y = 5
  · rw [if_pos q4, if_pos (Or.inr (Or.inr (Or.inr q4)))]
  rw [if_neg q4, if_neg (show ¬(x = 3 ∨ y = 3 ∨ x = 5 ∨ y = 5) from fun h => h.elim q1 (fun h => h.elim q2 (fun h => h.elim q3 q4)))]
  by_cases q5 : x = 2
  · rw [if_pos q5, if_pos (Or.inl q5)]
  rw [if_neg q5]
  by_cases q6 : y = 2
  · rw [if_pos q6, if_pos (Or.inr (Or.inl q6))]
  rw [if_neg q6]
  by_cases q7 : x = 4
  · rw [if_pos q7, if_pos (Or.inr (Or.inr (Or.inl q7)))]
  rw [if_neg q7]
  by_cases q8 : y = 4
  · rw [if_pos q8, if_pos (Or.inr (Or.inr (Or.inr q8)))]
  rw [if_neg q8, if_neg (show ¬(x = 2 ∨ y = 2 ∨ x = 4 ∨ y = 4) from fun h => h.elim q5 (fun h => h.elim q6 (fun h => h.elim q7 q8)))]
theorem tgI_self (x : Int32) : tgI x x = x := by
  unfold tgI
  rw [if_pos rfl]
theorem P_fTogether (sc : Nat × (Nat → Int32)) (M : sm_M) (x y : Int32) : dn sc kFlow_together 0 [.inl x, .inl y] [] M = some (0, .inl (tgI x y), M) := by
  rw [E_Flow_together_0]
  unfold tgI
  by_cases q : x = y
  · rw [if_pos q, if_pos q]
  rw [if_neg q, if_neg q]
  by_cases q1 : x = 3
  · rw [if_pos q1, if_pos (Or.inl q1)]
  rw [if_neg q1]
  by_cases q2 : y = 3
  · rw [if_pos q2, if_pos (Or.inr (Or.inl q2))]
  rw [if_neg q2]
  by_cases q3 : x = 5
  · rw [if_pos q3, if_pos (Or.inr (Or.inr (Or.inl q3)))]
  rw [if_neg q3]
  by_cases q4 : y = 5
  · rw [if_pos q4, if_pos (Or.inr (Or.inr (Or.inr q4)))]
  rw [if_neg q4, if_neg (show ¬(x = 3 ∨ y = 3 ∨ x = 5 ∨ y = 5) from fun h => h.elim q1 (fun h => h.elim q2 (fun h => h.elim q3 q4))), P_fMaybe, r1_s, P_fMaybe, r1_s]
  by_cases q5 : x = 2
  · rw [decide_eq_true q5, Bool.true_or, if_neg (show ¬ bI true = 0 by decide), if_pos (Or.inl q5)]
  rw [decide_eq_false q5, Bool.false_or]
  by_cases q7 : x = 4
  · rw [decide_eq_true q7, if_neg (show ¬ bI true = 0 by decide), if_pos (Or.inr (Or.inr (Or.inl q7)))]
  rw [decide_eq_false q7, if_pos (show bI false = 0 from rfl)]
  by_cases q6 : y = 2
  · rw [decide_eq_true q6, Bool.true_or, if_neg (show ¬ bI true = 0 by decide), if_pos (Or.inr (Or.inl q6))]
  rw [decide_eq_false q6, Bool.false_or]
  by_cases q8 : y = 4
  · rw [decide_eq_true q8, if_neg (show ¬ bI true = 0 by decide), if_pos (Or.inr (Or.inr (Or.inr q8)))]
  rw [decide_eq_false q8, if_pos (show bI false = 0 from rfl), if_neg (show ¬(x = 2 ∨ y = 2 ∨ x = 4 ∨ y = 4) from fun h => h.elim q5 (fun h => h.elim q6 (fun h => h.elim q7 q8)))]
theorem tgI_comm (x y : Int32) : tgI x y = tgI y x := by
  unfold tgI
  by_cases q : x = y
  · rw [if_pos q, if_pos q.symm, q]
  rw [if_neg q, if_neg (show ¬ y = x from fun z => q z.symm)]
  have e1 : (x = 3 ∨ y = 3 ∨ x = 5 ∨ y = 5) = (y = 3 ∨ x = 3 ∨ y = 5 ∨ x = 5) := propext ⟨fun h => by rcases h with h | h | h | h <;> simp [h], fun h => by rcases h with h | h | h | h <;> simp [h]⟩
  have e2 : (x = 2 ∨ y = 2 ∨ x = 4 ∨ y = 4) = (y = 2 ∨ x = 2 ∨ y = 4 ∨ x = 4) := propext ⟨fun h => by rcases h with h | h | h | h <;> simp [h], fun h => by rcases h with h | h | h | h <;> simp [h]⟩
  simp only [e1, e2]
/-- the seven sorts of what a variable may be -/
def srt (x : Int32) : Nat := if x = 3 then 3 else if x = 5 then 5 else if x = 2 then 2 else if x = 4 then 4 else if x = 0 then 0 else 1
theorem tgI_3 {y : Int32} (h : ¬ y = 3) : tgI 3 y = 5 := by
  unfold tgI
  rw [if_neg (fun z => h z.symm), if_pos (Or.inl rfl)]
theorem tgI_5 (y : Int32) : tgI 5 y = 5 := by
  unfold tgI
  by_cases q : (5 : Int32) = y
  · rw [if_pos q]
  · rw [if_neg q, if_pos (Or.inr (Or.inr (Or.inl rfl)))]
/-- mixed, or linear -/
def hiI (x : Int32) : Prop := x = 3 ∨ x = 5
/-- affine, or perhaps -/
def loI (x : Int32) : Prop := x = 2 ∨ x = 4
theorem tgI_eq {x y : Int32} (h : x = y) : tgI x y = x := by unfold tgI; rw [if_pos h]
theorem tgI_hi {x y : Int32} (h : ¬ x = y) (q : hiI x ∨ hiI y) : tgI x y = 5 := by
  unfold tgI
  rw [if_neg h, if_pos]
  rcases q with (q | q) | (q | q)
  · exact Or.inl q
  · exact Or.inr (Or.inr (Or.inl q))
  · exact Or.inr (Or.inl q)
  · exact Or.inr (Or.inr (Or.inr q))
theorem tgI_lo {x y : Int32} (h : ¬ x = y) (p : ¬ hiI x) (p2 : ¬ hiI y) (q : loI x ∨ loI y) : tgI x y = 4 := by
  unfold tgI
  rw [if_neg h, if_neg, if_pos]
  · rcases q with (q | q) | (q | q)
    · exact Or.inl q
    · exact Or.inr (Or.inr (Or.inl q))
    · exact Or.inr (Or.inl q)
    · exact Or.inr (Or.inr (Or.inr q))
  · rintro (z | z | z | z)
    · exact p (Or.inl z)
    · exact p2 (Or.inl z)
    · exact p (Or.inr z)
    · exact p2 (Or.inr z)
theorem tgI_no {x y : Int32} (h : ¬ x = y) (p : ¬ hiI x) (p2 : ¬ hiI y) (q : ¬ loI x) (q2 : ¬ loI y) : tgI x y = 0 := by
  unfold tgI
  rw [if_neg h, if_neg, if_neg]
  · rintro (z | z | z | z)
    · exact q (Or.inl z)
    · exact q2 (Or.inl z)
    · exact q (Or.inr z)
    · exact q2 (Or.inr z)
  · rintro (z | z | z | z)
    · exact p (Or.inl z)
    · exact p2 (Or.inl z)
    · exact p (Or.inr z)
    · exact p2 (Or.inr z)
