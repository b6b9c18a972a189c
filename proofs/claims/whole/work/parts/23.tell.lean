/-! LEVEL B: telling: the class's protocols -/
theorem P_pFull {sc : Nat × (Nat → Int32)} {M : sm_M} {p n : Nat} (h : M.1 8 p 0 3 = nI n) (hn : n ≤ 8) : dn sc kProtocol_isFull 0 [.inr (.inr (8, p, 0))] [] M = some (0, .inl (bI (decide (n = 8))), M) := by
  rw [E_Protocol_isFull_0, ite_0, h]
  have h2 : (!decide (nI n < 8)) = decide (n = 8) := by
    rw [← decide_not]
    refine decide_eq_decide.mpr ?_
    rw [show (8 : Int32) = nI 8 from rfl, i_lt (by omega) (by decide)]
    omega
  rw [h2]
theorem P_pAdd {sc : Nat × (Nat → Int32)} {M : sm_M} {p n : Nat} (h : M.1 8 p 0 3 = nI n) (hn : n < 8) (w a b : Int32) : dn sc kProtocol_add 0 [.inr (.inr (8, p, 0)), .inl w, .inl a, .inl b] [] M = some (0, .inl (nI n), sm_u (sm_u (sm_u (sm_u M 8 p 1 n w) 8 p 2 n a) 8 p 3 n b) 8 p 0 3 (nI (n + 1))) := by
  rw [E_Protocol_add_0, P_pFull h (by omega), r1_s, decide_eq_false (show ¬ n = 8 by omega), bI_f]
  simp only [u_1, h, i_ib hn (by decide), i_cl (show n < 2147483648 by omega), nI_1, if_true, and_true, and_false, if_false, true_and, false_and, Nat.reduceEqDiff, nI_pred]
theorem two_K {x y : Bool} {M : sm_M} : (if bI x = 0 then some (0, Sum.inl (0 : Int32), M) else sm_r1 (some (0, Sum.inl (bI y), M)) (fun x4 M3 => if x4 = 0 then some (0, .inl 0, M3) else some (0, .inl 1, M3)) : Option sm_R) = some (0, .inl (bI (x && y)), M) := by cases x <;> cases y <;> rfl
theorem P_allows1 (sc : Nat × (Nat → Int32)) (M : sm_M) (a b : Int32) : dn sc kProtocol_allows 1 [.inl a, .inl b] [] M = some (0, .inl (bI (wN a 3 && wN b 8)), M) := by
  rw [E_Protocol_allows_1, P_within, r1_s, P_within, two_K]; rfl
theorem P_allows6 (sc : Nat × (Nat → Int32)) (M : sm_M) (a b : Int32) : dn sc kProtocol_allows 6 [.inl a, .inl b] [] M = some (0, .inl (bI (wN a 8 && wN b 8)), M) := by
  rw [E_Protocol_allows_6, P_within, r1_s, P_within, two_K]; rfl
/-- what a step may be -/
def okS (w a b : Int32) : Bool := if w = 0 ∨ w = 1 then wN a 3 && wN b 8 else if w = 2 ∨ w = 3 then wN a 8 && wN b 8 else decide (w = 4)
theorem P_allows (sc : Nat × (Nat → Int32)) (M : sm_M) (w a b : Int32) : dn sc kProtocol_allows 0 [.inl w, .inl a, .inl b] [] M = some (0, .inl (bI (okS w a b)), M) := by
  rw [E_Protocol_allows_0, P_allows1, P_allows6, ite_1]
  unfold okS
  by_cases q0 : w = 0
  · rw [if_pos q0, if_pos (Or.inl q0)]
  rw [if_neg q0]
  by_cases q1 : w = 1
  · rw [if_pos q1, if_pos (Or.inr q1)]
  rw [if_neg q1, if_neg (show ¬(w = 0 ∨ w = 1) from fun h => h.elim q0 q1)]
  by_cases q2 : w = 2
  · rw [if_pos q2, if_pos (Or.inl q2)]
  rw [if_neg q2]
  by_cases q3 : w = 3
  · rw [if_pos q3, if_pos (Or.inr q3)]
  rw [if_neg q3, if_neg (show ¬(w = 2 ∨ w = 3) from fun h => h.elim q2 q3)]
/-- a protocol of the class: what lies at it -/
def rP (M : sm_M) (p n : Nat) (w a b : Nat → Int32) : Prop := M.1 8 p 0 3 = nI n ∧ n ≤ 8 ∧ ∀ i, i < n → M.1 8 p 1 i = w i ∧ M.1 8 p 2 i = a i ∧ M.1 8 p 3 i = b i
theorem P_pSize {sc : Nat × (Nat → Int32)} {M : sm_M} {p : Nat} : dn sc kProtocol_size 0 [.inr (.inr (8, p, 0))] [] M = some (0, .inl (M.1 8 p 0 3), M) := E_Protocol_size_0 sc M p
theorem P_pWhat {sc : Nat × (Nat → Int32)} {M : sm_M} {p n : Nat} {w a b : Nat → Int32} (r : rP M p n w a b) {i : Nat} (hi : i < n) : dn sc kProtocol_whatAt 0 [.inr (.inr (8, p, 0)), .inl (nI i)] [] M = some (0, .inl (w i), M) := by
  obtain ⟨h, hn, r⟩ := r
  rw [E_Protocol_whatAt_0, P_within, r1_s, h, within_nI (by omega) (by omega), decide_eq_true hi, bI_t]
  rw [if_neg (by decide), i_ib (show i < 8 by omega) (by decide), if_pos rfl, i_cl (by omega), (r i hi).1]
theorem P_pKind {sc : Nat × (Nat → Int32)} {M : sm_M} {p n : Nat} {w a b : Nat → Int32} (r : rP M p n w a b) {i : Nat} (hi : i < n) : dn sc kProtocol_kindAt 0 [.inr (.inr (8, p, 0)), .inl (nI i)] [] M = some (0, .inl (a i), M) := by
  obtain ⟨h, hn, r⟩ := r
  rw [E_Protocol_kindAt_0, P_within, r1_s, h, within_nI (by omega) (by omega), decide_eq_true hi, bI_t]
  rw [if_neg (by decide), i_ib (show i < 8 by omega) (by decide), if_pos rfl, i_cl (by omega), (r i hi).2.1]
/-- the step that comes next by a way -/
def nxS (w a b : Nat → Int32) (i : Nat) (way : Nat) : Int32 := if w i = 4 then nI i else if (w i = 2 ∨ w i = 3) ∧ way = 0 then a i else b i
theorem P_pNext {sc : Nat × (Nat → Int32)} {M : sm_M} {p n : Nat} {w a b : Nat → Int32} (r : rP M p n w a b) {i : Nat} (hi : i < n) {way : Nat} (hw : way < 2) : dn sc kProtocol_nextAt 0 [.inr (.inr (8, p, 0)), .inl (nI i), .inl (nI way)] [] M = some (0, .inl (nxS w a b i way), M) := by
  obtain ⟨h, hn, r⟩ := r
  obtain ⟨r1, r2, r3⟩ := r i hi
  rw [E_Protocol_nextAt_0, P_within, r1_s, h, within_nI (by omega) (by omega), decide_eq_true hi, bI_t]
  rw [if_neg (by decide)]
  simp only [E_Protocol_nextAt_7, i_ib (show i < 8 by omega) (by decide), i_cl (show i < 2147483648 by omega), if_true, r1, r2, r3]
  unfold nxS
  have e : (nI way = 0) = (way = 0) := by rw [show (0 : Int32) = nI 0 from rfl, i_eq (by omega) (by decide)]
  by_cases q4 : w i = 4
  · rw [if_pos q4, if_pos q4]
  rw [if_neg q4, if_neg q4]
  by_cases q2 : w i = 2
  · rw [if_pos q2, if_neg (by decide)]
    by_cases qw : way = 0
    · rw [if_pos (e ▸ qw), if_pos ⟨Or.inl q2, qw⟩]
    · rw [if_neg (e ▸ qw), if_neg (fun h => qw h.2)]
  rw [if_neg q2]
  by_cases q3 : w i = 3
  · rw [if_pos q3, if_neg (by decide)]
    by_cases qw : way = 0
    · rw [if_pos (e ▸ qw), if_pos ⟨Or.inr q3, qw⟩]
    · rw [if_neg (e ▸ qw), if_neg (fun h => qw h.2)]
  rw [if_neg q3, if_neg (fun h => h.1.elim q2 q3)]
/-- all steps up to a place go on with steps that there are -/
def whS (n : Nat) (w a b : Nat → Int32) (i : Nat) : Bool := decide (nxS w a b i 0 < nI n) && decide (nxS w a b i 1 < nI n)
theorem P_pWhole1 {sc : Nat × (Nat → Int32)} {M : sm_M} {p n : Nat} {w a b : Nat → Int32} (r : rP M p n w a b) : ∀ (k i : Nat), i + k = n → dn sc kProtocol_isWhole 1 [.inr (.inr (8, p, 0)), .inl (nI i)] [] M = some (0, .inl (bI (((List.range' i k).all (whS n w a b)) && decide (0 < n))), M) := by
  have h := r.1
  have hn := r.2.1
  intro k
  induction k with
  | zero =>
    intro i hi
    rw [E_Protocol_isWhole_1, h, if_neg (by rw [i_lt (by omega) (by omega)]; omega), ite_1, show (0 : Int32) = nI 0 from rfl]
    have e : decide (nI 0 < nI n) = decide (0 < n) := decide_eq_decide.mpr (by rw [i_lt (by decide) (by omega)])
    rw [e]; rfl
  | succ k ih =>
    intro i hi
    rw [E_Protocol_isWhole_1, h, if_pos (by rw [i_lt (by omega) (by omega)]; omega)]
    rw [show (0 : Int32) = nI 0 from rfl, show (1 : Int32) = nI 1 from rfl, P_pNext r (show i < n by omega) (show 0 < 2 by decide), r1_s, h, List.range'_succ, List.all_cons]
    by_cases q : nxS w a b i 0 < nI n
    · rw [if_pos q, P_pNext r (show i < n by omega) (show 1 < 2 by decide), r1_s, h]
      by_cases q2 : nxS w a b i 1 < nI n
      · rw [if_pos q2, nI_add, ih (i + 1) (by omega)]
        have e : whS n w a b i = true := by unfold whS; rw [decide_eq_true q, decide_eq_true q2]; rfl
        rw [e]; rfl
      · rw [if_neg q2]
        have e : whS n w a b i = false := by unfold whS; rw [decide_eq_false q2, Bool.and_false]
        rw [e]; rfl
    · rw [if_neg q]
      have e : whS n w a b i = false := by unfold whS; rw [decide_eq_false q]; rfl
      rw [e]; rfl
theorem P_pWhole {sc : Nat × (Nat → Int32)} {M : sm_M} {p n : Nat} {w a b : Nat → Int32} (r : rP M p n w a b) : dn sc kProtocol_isWhole 0 [.inr (.inr (8, p, 0))] [] M = some (0, .inl (bI (((List.range' 0 n).all (whS n w a b)) && decide (0 < n))), M) := by
  rw [E_Protocol_isWhole_0]
  exact P_pWhole1 r n 0 (by omega)
