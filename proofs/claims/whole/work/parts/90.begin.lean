/-! LEVEL B: the run begins, on both sides -/
theorem fl_1 {M : sm_M} {c1 p1 j1 c p j i : Nat} {x : Int32} : (sm_fl M c1 p1 j1 x).1 c p j i = if c = c1 ∧ p = p1 ∧ j = j1 then x else M.1 c p j i := by
  show (if c = c1 ∧ p = p1 ∧ j = j1 then fun _ => x else M.1 c p j) i = _
  split <;> rfl
def restB (M : sm_M) (q : Nat) : sm_M := sm_u (sm_u (sm_u (sm_fl (sm_u (sm_fl M 0 q 2 0) 0 q 0 6 0) 0 q 6 0) 0 q 0 7 0) 0 q 0 8 0) 0 q 0 9 0
theorem restB_1 {M : sm_M} {q c p j i : Nat} : (restB M q).1 c p j i = if c = 0 ∧ p = q ∧ (j = 2 ∨ j = 6 ∨ (j = 0 ∧ 6 ≤ i ∧ i ≤ 9)) then 0 else M.1 c p j i := by
  unfold restB
  simp only [u_1, fl_1]
  repeat' split
  all_goals first | rfl | omega
theorem restB_2 {M : sm_M} {q : Nat} : (restB M q).2 = M.2 := rfl
def begC (M : sm_M) : sm_M := restB (restB (restB (sm_fl (sm_u (sm_u (sm_u (sm_u M 3 0 0 5 1) 6 0 0 1 0) 6 0 0 2 0) 6 0 0 3 0) 7 0 1 0) 0) 1) 2
theorem P_restart {sc : Nat × (Nat → Int32)} {M : sm_M} : dn sc kCourse_restart 0 [.inr (.inr (3, 0, 0))] [] M = some (0, .inl 0, begC M) := by
  have st : ∀ (i : Nat) (M : sm_M), i < 3 → dn sc kCourse_restart 1 [.inr (.inr (3, 0, 0)), .inl (nI i)] [] M = dn sc kCourse_restart 1 [.inr (.inr (3, 0, 0)), .inl (nI (i + 1))] [] (restB M i) := by
    intro i M hi
    rw [E_Course_restart_1, if_pos (show nI i < 3 from by rw [show (3 : Int32) = nI 3 from rfl, i_lt (by omega) (by decide)]; exact hi), i_ib hi (by decide), if_pos rfl, i_cl (show i < 2147483648 by omega), E_Body_restart_0, r0_s, nI_1]
    rfl
  rw [E_Course_restart_0, E_Ledger_clear_0, r0_s, E_Messages_clear_0, r0_s]
  refine (st 0 _ (by decide)).trans ((st 1 _ (by decide)).trans ((st 2 _ (by decide)).trans ?_))
  rw [E_Course_restart_1, if_neg (by decide)]
  rfl
theorem begC_1 {M : sm_M} {c p j i : Nat} : (begC M).1 c p j i = if c = 0 ∧ p < 3 ∧ (j = 2 ∨ j = 6 ∨ (j = 0 ∧ 6 ≤ i ∧ i ≤ 9)) then 0 else if c = 7 ∧ p = 0 ∧ j = 1 then 0 else if c = 6 ∧ p = 0 ∧ j = 0 ∧ 1 ≤ i ∧ i ≤ 3 then 0 else if c = 3 ∧ p = 0 ∧ j = 0 ∧ i = 5 then 1 else M.1 c p j i := by
  unfold begC
  simp only [restB_1, u_1, fl_1]
  repeat' split
  all_goals first | rfl | omega
def zR (P : Nat → Nat → Prop) [∀ j i, Decidable (P j i)] (N N' : sm_M) : Prop := N'.2 = N.2 ∧ ∀ c p j i, N'.1 c p j i = if c = 10 ∧ p = 0 ∧ P j i then 0 else N.1 c p j i
theorem P_beg7 {sc : Nat × (Nat → Int32)} : ∀ (n i : Nat) (N : sm_M), i + n = 6 → ∃ N', dn sc kModel_begin 7 [.inr (.inr (10, 0, 0)), .inl (nI i)] [] N = some (0, .inl 0, N') ∧ zR (fun j x => (j = 35 ∨ j = 36) ∧ i ≤ x ∧ x < 6) N N' := by
  intro n
  induction n with
  | zero =>
    intro i N hi
    obtain rfl : i = 6 := by omega
    refine ⟨N, by rw [E_Model_begin_7, if_neg (by decide)], rfl, fun c p j x => ?_⟩
    rw [if_neg (by omega)]
  | succ n ih =>
    intro i N hi
    obtain ⟨N', h1, h2, h3⟩ := ih (i + 1) (sm_u (sm_u N 10 0 35 i 0) 10 0 36 i 0) (by omega)
    refine ⟨N', ?_, h2, fun c p j x => ?_⟩
    · rw [E_Model_begin_7, if_pos (show nI i < 6 from by rw [show (6 : Int32) = nI 6 from rfl, i_lt (by omega) (by decide)]; omega), i_ib (show i < 6 by omega) (by decide), if_pos rfl, if_pos rfl, i_cl (show i < 2147483648 by omega), nI_1, h1]
    · rw [h3]
      simp only [u_1]
      repeat' split
      all_goals first | rfl | omega
theorem P_beg4 {sc : Nat × (Nat → Int32)} : ∀ (n i : Nat) (N : sm_M), i + n = 18 → ∃ N', dn sc kModel_begin 4 [.inr (.inr (10, 0, 0)), .inl (nI i)] [] N = dn sc kModel_begin 7 [.inr (.inr (10, 0, 0)), .inl 0] [] N' ∧ zR (fun j x => j = 29 ∧ i ≤ x ∧ x < 18) N N' := by
  intro n
  induction n with
  | zero =>
    intro i N hi
    obtain rfl : i = 18 := by omega
    refine ⟨N, by rw [E_Model_begin_4, if_neg (by decide)], rfl, fun c p j x => ?_⟩
    rw [if_neg (by omega)]
  | succ n ih =>
    intro i N hi
    obtain ⟨N', h1, h2, h3⟩ := ih (i + 1) (sm_u N 10 0 29 i 0) (by omega)
    refine ⟨N', ?_, h2, fun c p j x => ?_⟩
    · rw [E_Model_begin_4, if_pos (show nI i < 18 from by rw [show (18 : Int32) = nI 18 from rfl, i_lt (by omega) (by decide)]; omega), i_ib (show i < 18 by omega) (by decide), if_pos rfl, i_cl (show i < 2147483648 by omega), nI_1, h1]
    · rw [h3]
      simp only [u_1]
      repeat' split
      all_goals first | rfl | omega
theorem P_beg1 {sc : Nat × (Nat → Int32)} : ∀ (n i : Nat) (N : sm_M), i + n = 3 → ∃ N', dn sc kModel_begin 1 [.inr (.inr (10, 0, 0)), .inl (nI i)] [] N = dn sc kModel_begin 4 [.inr (.inr (10, 0, 0)), .inl 0] [] N' ∧ zR (fun j x => (26 ≤ j ∧ j ≤ 28) ∧ i ≤ x ∧ x < 3) N N' := by
  intro n
  induction n with
  | zero =>
    intro i N hi
    obtain rfl : i = 3 := by omega
    refine ⟨N, by rw [E_Model_begin_1, if_neg (by decide)], rfl, fun c p j x => ?_⟩
    rw [if_neg (by omega)]
  | succ n ih =>
    intro i N hi
    obtain ⟨N', h1, h2, h3⟩ := ih (i + 1) (sm_u (sm_u (sm_u N 10 0 26 i 0) 10 0 27 i 0) 10 0 28 i 0) (by omega)
    refine ⟨N', ?_, h2, fun c p j x => ?_⟩
    · rw [E_Model_begin_1, if_pos (show nI i < 3 from by rw [show (3 : Int32) = nI 3 from rfl, i_lt (by omega) (by decide)]; omega), i_ib (show i < 3 by omega) (by decide)]
      simp only [if_true]
      rw [i_cl (show i < 2147483648 by omega), nI_1, h1]
    · rw [h3]
      simp only [u_1]
      repeat' split
      all_goals first | rfl | omega
theorem P_mBegin {sc : Nat × (Nat → Int32)} (N : sm_M) : ∃ N', dn sc kModel_begin 0 [.inr (.inr (10, 0, 0))] [] N = some (0, .inl 0, N') ∧ N'.2 = N.2 ∧ ∀ c p j i, N'.1 c p j i = if c = 10 ∧ p = 0 ∧ j = 0 ∧ i = 24 then 1 else if c = 10 ∧ p = 0 ∧ ((j = 0 ∧ (i = 0 ∨ i = 38 ∨ i = 39 ∨ i = 40)) ∨ ((26 ≤ j ∧ j ≤ 28) ∧ i < 3) ∨ (j = 29 ∧ i < 18) ∨ ((j = 35 ∨ j = 36) ∧ i < 6)) then 0 else N.1 c p j i := by
  obtain ⟨N1, a1, a2, a3⟩ := P_beg1 (sc := sc) 3 0 (sm_u (sm_u (sm_u (sm_u (sm_u N 10 0 0 0 0) 10 0 0 24 1) 10 0 0 38 0) 10 0 0 39 0) 10 0 0 40 0) (by decide)
  obtain ⟨N2, b1, b2, b3⟩ := P_beg4 (sc := sc) 18 0 N1 (by decide)
  obtain ⟨N3, c1, c2, c3⟩ := P_beg7 (sc := sc) 6 0 N2 (by decide)
  refine ⟨N3, ?_, c2.trans (b2.trans a2), fun c p j i => ?_⟩
  · rw [E_Model_begin_0]
    exact a1.trans (b1.trans c1)
  · rw [c3, b3, a3]
    simp only [u_1]
    repeat' split
    all_goals first | rfl | omega
