/-! LEVEL B: the law's calls, whatever is gone on with -/
theorem LJ_step {sc : Nat × (Nat → Int32)} {M : sm_M} {a : Nat → Nat → Int32} {i : Nat} (hsc : sc.1 ≤ 2560) (hi : i + 5 ≤ sc.1) (g : GI a M (40 * i)) : ∃ r x2 M1 N1 b, dn sc kTop_step 0 [.inr (.inr (9, 0, 0)), .inl (sc.2 (i + 1)), .inl (sc.2 (i + 2)), .inl (sc.2 (i + 3)), .inl (sc.2 (i + 4))] [] M = some r ∧ sm_wr1 (kTop_step, 0, [1, 2, 3]) (some (.inr (.inr (30, 0, 1)))) (some r) = some (0, .inl x2, M1) ∧ GI b N1 (40 * (i + 5)) ∧ ∀ J, LT2 sc J 4 [.inr (.inr (99, 0, 1)), .inr (.inr (9, 0, 0)), .inr (.inr (10, 0, 0)), .inr (.inr (30, 0, 1)), .inl (nI i)] [.inl x2] M1 = J 1 [.inr (.inr (99, 0, 1)), .inr (.inr (9, 0, 0)), .inr (.inr (10, 0, 0)), .inr (.inr (30, 0, 1)), .inl (nI (i + 5))] [] N1 := by
  have hB : 40 * i ≤ 40 * (i + 5) := by omega
  obtain ⟨x2, M1, y, N1, c1, c2, c3, c4, b, c5⟩ := LB_call (B := 40 * (i + 5)) (kTop_step, 0, [1, 2, 3]) (GS_step g hB (sc.2 (i + 1)) (sc.2 (i + 2)) (sc.2 (i + 3)) (sc.2 (i + 4))) (by decide) (fun e v M1 h => by
    have := ex_step h
    dsimp only at this
    have he : e = 0 ∨ e = 1 ∨ e = 2 := by omega
    rcases he with rfl | rfl | rfl <;> decide) (fun N r h => mod_30 (by decide) (by decide) (by simp only [fr_s_cons, fr_v_i, fr_v_r]; exact ⟨by decide, trivial, trivial, trivial, trivial, fr_s_nil⟩) h)
  obtain ⟨r, cr⟩ : ∃ r, dn sc kTop_step 0 [.inr (.inr (9, 0, 0)), .inl (sc.2 (i + 1)), .inl (sc.2 (i + 2)), .inl (sc.2 (i + 3)), .inl (sc.2 (i + 4))] [] M = some r := by
    cases q : dn sc kTop_step 0 [.inr (.inr (9, 0, 0)), .inl (sc.2 (i + 1)), .inl (sc.2 (i + 2)), .inl (sc.2 (i + 3)), .inl (sc.2 (i + 4))] [] M with
    | none => rw [q] at c1; cases c1
    | some r => exact ⟨r, rfl⟩
  rw [cr] at c1
  refine ⟨r, x2, M1, N1, b, cr, c1, c5, fun J => ?_⟩
  have e5 : nI i + 5 = nI (i + 5) := nI_add i 5
  rw [ET_4, nI_1, i_ib (show i + 1 < sc.1 by omega) (by omega), if_pos rfl, show (2 : Int32) = nI 2 from rfl, nI_add, i_ib (show i + 2 < sc.1 by omega) (by omega), if_pos rfl, show (3 : Int32) = nI 3 from rfl, nI_add, i_ib (show i + 3 < sc.1 by omega) (by omega), if_pos rfl, show (4 : Int32) = nI 4 from rfl, nI_add, i_ib (show i + 4 < sc.1 by omega) (by omega), if_pos rfl, i_cl (show i + 1 < 2147483648 by omega), i_cl (show i + 2 < 2147483648 by omega), i_cl (show i + 3 < 2147483648 by omega), i_cl (show i + 4 < 2147483648 by omega), c2, r1_s, E_Model_thrown_0, r1_s, c3, if_pos rfl]
  by_cases z : x2 = 0
  · rw [if_pos z, show sm_ib 0 1 = true from rfl, if_pos rfl, show (0 : Int32).toNatClampNeg = 0 from rfl, c4 z, show foW (kTop_step, 0, [1, 2, 3]) y = y.toInt64 from rfl, if_pos ((lg_cmp_eq _ _).mpr rfl), e5]
  · rw [if_neg z, e5]
theorem LJ_channel {sc : Nat × (Nat → Int32)} {M : sm_M} {a : Nat → Nat → Int32} {i : Nat} (hsc : sc.1 ≤ 2560) (hi : i + 5 ≤ sc.1) (g : GI a M (40 * i)) : ∃ r x2 M1 N1 b, dn sc kTop_channel 0 [.inr (.inr (9, 0, 0)), .inl (sc.2 (i + 1)), .inl (sc.2 (i + 2)), .inl (sc.2 (i + 3))] [] M = some r ∧ sm_wr1 (kTop_channel, 0, [1, 2, 3]) (some (.inr (.inr (30, 0, 1)))) (some r) = some (0, .inl x2, M1) ∧ GI b N1 (40 * (i + 5)) ∧ ∀ J, LT2 sc J 11 [.inr (.inr (99, 0, 1)), .inr (.inr (9, 0, 0)), .inr (.inr (10, 0, 0)), .inr (.inr (30, 0, 1)), .inl (nI i)] [.inl x2] M1 = J 1 [.inr (.inr (99, 0, 1)), .inr (.inr (9, 0, 0)), .inr (.inr (10, 0, 0)), .inr (.inr (30, 0, 1)), .inl (nI (i + 5))] [] N1 := by
  have hB : 40 * i ≤ 40 * (i + 5) := by omega
  obtain ⟨x2, M1, y, N1, c1, c2, c3, c4, b, c5⟩ := LB_call (B := 40 * (i + 5)) (kTop_channel, 0, [1, 2, 3]) (GS_channel g hB (sc.2 (i + 1)) (sc.2 (i + 2)) (sc.2 (i + 3))) (by decide) (fun e v M1 h => by
    have := ex_channel h
    dsimp only at this
    have he : e = 0 ∨ e = 1 ∨ e = 2 := by omega
    rcases he with rfl | rfl | rfl <;> decide) (fun N r h => mod_30 (by decide) (by decide) (by simp only [fr_s_cons, fr_v_i, fr_v_r]; exact ⟨by decide, trivial, trivial, trivial, fr_s_nil⟩) h)
  obtain ⟨r, cr⟩ : ∃ r, dn sc kTop_channel 0 [.inr (.inr (9, 0, 0)), .inl (sc.2 (i + 1)), .inl (sc.2 (i + 2)), .inl (sc.2 (i + 3))] [] M = some r := by
    cases q : dn sc kTop_channel 0 [.inr (.inr (9, 0, 0)), .inl (sc.2 (i + 1)), .inl (sc.2 (i + 2)), .inl (sc.2 (i + 3))] [] M with
    | none => rw [q] at c1; cases c1
    | some r => exact ⟨r, rfl⟩
  rw [cr] at c1
  refine ⟨r, x2, M1, N1, b, cr, c1, c5, fun J => ?_⟩
  have e5 : nI i + 5 = nI (i + 5) := nI_add i 5
  rw [ET_11, nI_1, i_ib (show i + 1 < sc.1 by omega) (by omega), if_pos rfl, show (2 : Int32) = nI 2 from rfl, nI_add, i_ib (show i + 2 < sc.1 by omega) (by omega), if_pos rfl, show (3 : Int32) = nI 3 from rfl, nI_add, i_ib (show i + 3 < sc.1 by omega) (by omega), if_pos rfl, i_cl (show i + 1 < 2147483648 by omega), i_cl (show i + 2 < 2147483648 by omega), i_cl (show i + 3 < 2147483648 by omega), c2, r1_s, E_Model_thrown_0, r1_s, c3, if_pos rfl]
  by_cases z : x2 = 0
  · rw [if_pos z, show sm_ib 0 1 = true from rfl, if_pos rfl, show (0 : Int32).toNatClampNeg = 0 from rfl, c4 z, show foW (kTop_channel, 0, [1, 2, 3]) y = y.toInt64 from rfl, if_pos ((lg_cmp_eq _ _).mpr rfl), e5]
  · rw [if_neg z, e5]
theorem LJ_op {sc : Nat × (Nat → Int32)} {M : sm_M} {a : Nat → Nat → Int32} {i : Nat} (hsc : sc.1 ≤ 2560) (hi : i + 5 ≤ sc.1) (g : GI a M (40 * i)) : ∃ r x2 M1 N1 b, dn sc kTop_op 0 [.inr (.inr (9, 0, 0)), .inl (sc.2 (i + 1)), .inl (sc.2 (i + 2)), .inl (sc.2 (i + 3)), .inl (sc.2 (i + 4))] [] M = some r ∧ sm_wr1 (kTop_op, 0, [1, 2, 3]) (some (.inr (.inr (30, 0, 1)))) (some r) = some (0, .inl x2, M1) ∧ GI b N1 (40 * (i + 5)) ∧ ∀ J, LT2 sc J 18 [.inr (.inr (99, 0, 1)), .inr (.inr (9, 0, 0)), .inr (.inr (10, 0, 0)), .inr (.inr (30, 0, 1)), .inl (nI i)] [.inl x2] M1 = J 1 [.inr (.inr (99, 0, 1)), .inr (.inr (9, 0, 0)), .inr (.inr (10, 0, 0)), .inr (.inr (30, 0, 1)), .inl (nI (i + 5))] [] N1 := by
  have hB : 40 * i ≤ 40 * (i + 5) := by omega
  obtain ⟨x2, M1, y, N1, c1, c2, c3, c4, b, c5⟩ := LB_call (B := 40 * (i + 5)) (kTop_op, 0, [1, 2, 3]) (GS_op g hB (sc.2 (i + 1)) (sc.2 (i + 2)) (sc.2 (i + 3)) (sc.2 (i + 4))) (by decide) (fun e v M1 h => by
    have := ex_op h
    dsimp only at this
    have he : e = 0 ∨ e = 1 ∨ e = 2 := by omega
    rcases he with rfl | rfl | rfl <;> decide) (fun N r h => mod_30 (by decide) (by decide) (by simp only [fr_s_cons, fr_v_i, fr_v_r]; exact ⟨by decide, trivial, trivial, trivial, trivial, fr_s_nil⟩) h)
  obtain ⟨r, cr⟩ : ∃ r, dn sc kTop_op 0 [.inr (.inr (9, 0, 0)), .inl (sc.2 (i + 1)), .inl (sc.2 (i + 2)), .inl (sc.2 (i + 3)), .inl (sc.2 (i + 4))] [] M = some r := by
    cases q : dn sc kTop_op 0 [.inr (.inr (9, 0, 0)), .inl (sc.2 (i + 1)), .inl (sc.2 (i + 2)), .inl (sc.2 (i + 3)), .inl (sc.2 (i + 4))] [] M with
    | none => rw [q] at c1; cases c1
    | some r => exact ⟨r, rfl⟩
  rw [cr] at c1
  refine ⟨r, x2, M1, N1, b, cr, c1, c5, fun J => ?_⟩
  have e5 : nI i + 5 = nI (i + 5) := nI_add i 5
  rw [ET_18, nI_1, i_ib (show i + 1 < sc.1 by omega) (by omega), if_pos rfl, show (2 : Int32) = nI 2 from rfl, nI_add, i_ib (show i + 2 < sc.1 by omega) (by omega), if_pos rfl, show (3 : Int32) = nI 3 from rfl, nI_add, i_ib (show i + 3 < sc.1 by omega) (by omega), if_pos rfl, show (4 : Int32) = nI 4 from rfl, nI_add, i_ib (show i + 4 < sc.1 by omega) (by omega), if_pos rfl, i_cl (show i + 1 < 2147483648 by omega), i_cl (show i + 2 < 2147483648 by omega), i_cl (show i + 3 < 2147483648 by omega), i_cl (show i + 4 < 2147483648 by omega), c2, r1_s, E_Model_thrown_0, r1_s, c3, if_pos rfl]
  by_cases z : x2 = 0
  · rw [if_pos z, show sm_ib 0 1 = true from rfl, if_pos rfl, show (0 : Int32).toNatClampNeg = 0 from rfl, c4 z, show foW (kTop_op, 0, [1, 2, 3]) y = y.toInt64 from rfl, if_pos ((lg_cmp_eq _ _).mpr rfl), e5]
  · rw [if_neg z, e5]
theorem LJ_unop {sc : Nat × (Nat → Int32)} {M : sm_M} {a : Nat → Nat → Int32} {i : Nat} (hsc : sc.1 ≤ 2560) (hi : i + 5 ≤ sc.1) (g : GI a M (40 * i)) : ∃ r x2 M1 N1 b, dn sc kTop_unop 0 [.inr (.inr (9, 0, 0)), .inl (sc.2 (i + 1))] [] M = some r ∧ sm_wr1 (kTop_unop, 0, [1, 0, 2]) (some (.inr (.inr (30, 0, 1)))) (some r) = some (0, .inl x2, M1) ∧ GI b N1 (40 * (i + 5)) ∧ ∀ J, LT2 sc J 25 [.inr (.inr (99, 0, 1)), .inr (.inr (9, 0, 0)), .inr (.inr (10, 0, 0)), .inr (.inr (30, 0, 1)), .inl (nI i)] [.inl x2] M1 = J 1 [.inr (.inr (99, 0, 1)), .inr (.inr (9, 0, 0)), .inr (.inr (10, 0, 0)), .inr (.inr (30, 0, 1)), .inl (nI (i + 5))] [] N1 := by
  have hB : 40 * i ≤ 40 * (i + 5) := by omega
  obtain ⟨x2, M1, y, N1, c1, c2, c3, c4, b, c5⟩ := LB_call (B := 40 * (i + 5)) (kTop_unop, 0, [1, 0, 2]) (GS_unop g hB (sc.2 (i + 1))) (by decide) (fun e v M1 h => by
    have := ex_unop h
    dsimp only at this
    have he : e = 0 ∨ e = 2 := by omega
    rcases he with rfl | rfl <;> decide) (fun N r h => mod_30 (by decide) (by decide) (by simp only [fr_s_cons, fr_v_i, fr_v_r]; exact ⟨by decide, trivial, fr_s_nil⟩) h)
  obtain ⟨r, cr⟩ : ∃ r, dn sc kTop_unop 0 [.inr (.inr (9, 0, 0)), .inl (sc.2 (i + 1))] [] M = some r := by
    cases q : dn sc kTop_unop 0 [.inr (.inr (9, 0, 0)), .inl (sc.2 (i + 1))] [] M with
    | none => rw [q] at c1; cases c1
    | some r => exact ⟨r, rfl⟩
  rw [cr] at c1
  refine ⟨r, x2, M1, N1, b, cr, c1, c5, fun J => ?_⟩
  have e5 : nI i + 5 = nI (i + 5) := nI_add i 5
  rw [ET_25, nI_1, i_ib (show i + 1 < sc.1 by omega) (by omega), if_pos rfl, i_cl (show i + 1 < 2147483648 by omega), c2, r1_s, E_Model_thrown_0, r1_s, c3, if_pos rfl]
  by_cases z : x2 = 0
  · rw [if_pos z, show sm_ib 0 1 = true from rfl, if_pos rfl, show (0 : Int32).toNatClampNeg = 0 from rfl, c4 z, show foW (kTop_unop, 0, [1, 0, 2]) y = y.toInt64 from rfl, if_pos ((lg_cmp_eq _ _).mpr rfl), e5]
  · rw [if_neg z, e5]
theorem LJ_check {sc : Nat × (Nat → Int32)} {M : sm_M} {a : Nat → Nat → Int32} {i : Nat} (hsc : sc.1 ≤ 2560) (hi : i + 5 ≤ sc.1) (g : GI a M (40 * i)) : ∃ r x2 M1 N1 b, dn sc kTop_check 0 [.inr (.inr (9, 0, 0)), .inl (sc.2 (i + 1))] [] M = some r ∧ sm_wr1 (kTop_check, 0, [1, 0, 0]) (some (.inr (.inr (30, 0, 1)))) (some r) = some (0, .inl x2, M1) ∧ GI b N1 (40 * (i + 5)) ∧ ∀ J, LT2 sc J 32 [.inr (.inr (99, 0, 1)), .inr (.inr (9, 0, 0)), .inr (.inr (10, 0, 0)), .inr (.inr (30, 0, 1)), .inl (nI i)] [.inl x2] M1 = J 1 [.inr (.inr (99, 0, 1)), .inr (.inr (9, 0, 0)), .inr (.inr (10, 0, 0)), .inr (.inr (30, 0, 1)), .inl (nI (i + 5))] [] N1 := by
  have hB : 40 * i ≤ 40 * (i + 5) := by omega
  obtain ⟨x2, M1, y, N1, c1, c2, c3, c4, b, c5⟩ := LB_call (B := 40 * (i + 5)) (kTop_check, 0, [1, 0, 0]) (SIM_G g hB (S_check g.1 (sc.2 (i + 1)))) (by decide) (fun e v M1 h => by
    have := ex_check h
    dsimp only at this
    have he : e = 0 := by omega
    subst he; decide) (fun N r h => mod_30 (by decide) (by decide) (by simp only [fr_s_cons, fr_v_i, fr_v_r]; exact ⟨by decide, trivial, fr_s_nil⟩) h)
  obtain ⟨r, cr⟩ : ∃ r, dn sc kTop_check 0 [.inr (.inr (9, 0, 0)), .inl (sc.2 (i + 1))] [] M = some r := by
    cases q : dn sc kTop_check 0 [.inr (.inr (9, 0, 0)), .inl (sc.2 (i + 1))] [] M with
    | none => rw [q] at c1; cases c1
    | some r => exact ⟨r, rfl⟩
  rw [cr] at c1
  refine ⟨r, x2, M1, N1, b, cr, c1, c5, fun J => ?_⟩
  have e5 : nI i + 5 = nI (i + 5) := nI_add i 5
  rw [ET_32, nI_1, i_ib (show i + 1 < sc.1 by omega) (by omega), if_pos rfl, i_cl (show i + 1 < 2147483648 by omega), c2, r1_s, E_Model_thrown_0, r1_s, c3, if_pos rfl]
  by_cases z : x2 = 0
  · rw [if_pos z, show sm_ib 0 1 = true from rfl, if_pos rfl, show (0 : Int32).toNatClampNeg = 0 from rfl, c4 z, show foW (kTop_check, 0, [1, 0, 0]) y = y.toInt64 from rfl, if_pos ((lg_cmp_eq _ _).mpr rfl), e5]
  · rw [if_neg z, e5]
theorem LJ_error {sc : Nat × (Nat → Int32)} {M : sm_M} {a : Nat → Nat → Int32} {i : Nat} (hsc : sc.1 ≤ 2560) (hi : i + 5 ≤ sc.1) (g : GI a M (40 * i)) : ∃ r x2 M1 N1 b, dn sc kTop_error 0 [.inr (.inr (9, 0, 0)), .inl (sc.2 (i + 1))] [] M = some r ∧ sm_wr1 (kTop_error, 0, [1, 0, 0]) (some (.inr (.inr (30, 0, 1)))) (some r) = some (0, .inl x2, M1) ∧ GI b N1 (40 * (i + 5)) ∧ ∀ J, LT2 sc J 39 [.inr (.inr (99, 0, 1)), .inr (.inr (9, 0, 0)), .inr (.inr (10, 0, 0)), .inr (.inr (30, 0, 1)), .inl (nI i)] [.inl x2] M1 = J 1 [.inr (.inr (99, 0, 1)), .inr (.inr (9, 0, 0)), .inr (.inr (10, 0, 0)), .inr (.inr (30, 0, 1)), .inl (nI (i + 5))] [] N1 := by
  have hB : 40 * i ≤ 40 * (i + 5) := by omega
  obtain ⟨x2, M1, y, N1, c1, c2, c3, c4, b, c5⟩ := LB_call (B := 40 * (i + 5)) (kTop_error, 0, [1, 0, 0]) (SIM_G g hB (S_error g.1 (sc.2 (i + 1)))) (by decide) (fun e v M1 h => by
    have := ex_error h
    dsimp only at this
    have he : e = 0 := by omega
    subst he; decide) (fun N r h => mod_30 (by decide) (by decide) (by simp only [fr_s_cons, fr_v_i, fr_v_r]; exact ⟨by decide, trivial, fr_s_nil⟩) h)
  obtain ⟨r, cr⟩ : ∃ r, dn sc kTop_error 0 [.inr (.inr (9, 0, 0)), .inl (sc.2 (i + 1))] [] M = some r := by
    cases q : dn sc kTop_error 0 [.inr (.inr (9, 0, 0)), .inl (sc.2 (i + 1))] [] M with
    | none => rw [q] at c1; cases c1
    | some r => exact ⟨r, rfl⟩
  rw [cr] at c1
  refine ⟨r, x2, M1, N1, b, cr, c1, c5, fun J => ?_⟩
  have e5 : nI i + 5 = nI (i + 5) := nI_add i 5
  rw [ET_39, nI_1, i_ib (show i + 1 < sc.1 by omega) (by omega), if_pos rfl, i_cl (show i + 1 < 2147483648 by omega), c2, r1_s, E_Model_thrown_0, r1_s, c3, if_pos rfl]
  by_cases z : x2 = 0
  · rw [if_pos z, show sm_ib 0 1 = true from rfl, if_pos rfl, show (0 : Int32).toNatClampNeg = 0 from rfl, c4 z, show foW (kTop_error, 0, [1, 0, 0]) y = y.toInt64 from rfl, if_pos ((lg_cmp_eq _ _).mpr rfl), e5]
  · rw [if_neg z, e5]
theorem LJ_borrower {sc : Nat × (Nat → Int32)} {M : sm_M} {a : Nat → Nat → Int32} {i : Nat} (hsc : sc.1 ≤ 2560) (hi : i + 5 ≤ sc.1) (g : GI a M (40 * i)) : ∃ r x2 M1 N1 b, dn sc kTop_borrower 0 [.inr (.inr (9, 0, 0)), .inl (sc.2 (i + 1))] [] M = some r ∧ sm_wr1 (kTop_borrower, 0, [1, 0, 2]) (some (.inr (.inr (30, 0, 1)))) (some r) = some (0, .inl x2, M1) ∧ GI b N1 (40 * (i + 5)) ∧ ∀ J, LT2 sc J 46 [.inr (.inr (99, 0, 1)), .inr (.inr (9, 0, 0)), .inr (.inr (10, 0, 0)), .inr (.inr (30, 0, 1)), .inl (nI i)] [.inl x2] M1 = J 1 [.inr (.inr (99, 0, 1)), .inr (.inr (9, 0, 0)), .inr (.inr (10, 0, 0)), .inr (.inr (30, 0, 1)), .inl (nI (i + 5))] [] N1 := by
  have hB : 40 * i ≤ 40 * (i + 5) := by omega
  obtain ⟨x2, M1, y, N1, c1, c2, c3, c4, b, c5⟩ := LB_call (B := 40 * (i + 5)) (kTop_borrower, 0, [1, 0, 2]) (SIM_G g hB (S_borrower g.1 (sc.2 (i + 1)))) (by decide) (fun e v M1 h => by
    have := ex_borrower h
    dsimp only at this
    have he : e = 0 ∨ e = 2 := by omega
    rcases he with rfl | rfl <;> decide) (fun N r h => mod_30 (by decide) (by decide) (by simp only [fr_s_cons, fr_v_i, fr_v_r]; exact ⟨by decide, trivial, fr_s_nil⟩) h)
  obtain ⟨r, cr⟩ : ∃ r, dn sc kTop_borrower 0 [.inr (.inr (9, 0, 0)), .inl (sc.2 (i + 1))] [] M = some r := by
    cases q : dn sc kTop_borrower 0 [.inr (.inr (9, 0, 0)), .inl (sc.2 (i + 1))] [] M with
    | none => rw [q] at c1; cases c1
    | some r => exact ⟨r, rfl⟩
  rw [cr] at c1
  refine ⟨r, x2, M1, N1, b, cr, c1, c5, fun J => ?_⟩
  have e5 : nI i + 5 = nI (i + 5) := nI_add i 5
  rw [ET_46, nI_1, i_ib (show i + 1 < sc.1 by omega) (by omega), if_pos rfl, i_cl (show i + 1 < 2147483648 by omega), c2, r1_s, E_Model_thrown_0, r1_s, c3, if_pos rfl]
  by_cases z : x2 = 0
  · rw [if_pos z, show sm_ib 0 1 = true from rfl, if_pos rfl, show (0 : Int32).toNatClampNeg = 0 from rfl, c4 z, show foW (kTop_borrower, 0, [1, 0, 2]) y = y.toInt64 from rfl, if_pos ((lg_cmp_eq _ _).mpr rfl), e5]
  · rw [if_neg z, e5]
theorem LJ_holds {sc : Nat × (Nat → Int32)} {M : sm_M} {a : Nat → Nat → Int32} {i : Nat} (hsc : sc.1 ≤ 2560) (hi : i + 5 ≤ sc.1) (g : GI a M (40 * i)) : ∃ r x2 M1 N1 b, dn sc kTop_holds 0 [.inr (.inr (9, 0, 0)), .inl (sc.2 (i + 1)), .inl (sc.2 (i + 2)), .inl (sc.2 (i + 3))] [] M = some r ∧ sm_wr1 (kTop_holds, 0, [1, 0, 0]) (some (.inr (.inr (30, 0, 1)))) (some r) = some (0, .inl x2, M1) ∧ GI b N1 (40 * (i + 5)) ∧ ∀ J, LT2 sc J 53 [.inr (.inr (99, 0, 1)), .inr (.inr (9, 0, 0)), .inr (.inr (10, 0, 0)), .inr (.inr (30, 0, 1)), .inl (nI i)] [.inl x2] M1 = J 1 [.inr (.inr (99, 0, 1)), .inr (.inr (9, 0, 0)), .inr (.inr (10, 0, 0)), .inr (.inr (30, 0, 1)), .inl (nI (i + 5))] [] N1 := by
  have hB : 40 * i ≤ 40 * (i + 5) := by omega
  obtain ⟨x2, M1, y, N1, c1, c2, c3, c4, b, c5⟩ := LB_call (B := 40 * (i + 5)) (kTop_holds, 0, [1, 0, 0]) (SIM_G g hB (S_holds g.1 (sc.2 (i + 1)) (sc.2 (i + 2)) (sc.2 (i + 3)))) (by decide) (fun e v M1 h => by
    have := ex_holds h
    dsimp only at this
    have he : e = 0 := by omega
    subst he; decide) (fun N r h => mod_30 (by decide) (by decide) (by simp only [fr_s_cons, fr_v_i, fr_v_r]; exact ⟨by decide, trivial, trivial, trivial, fr_s_nil⟩) h)
  obtain ⟨r, cr⟩ : ∃ r, dn sc kTop_holds 0 [.inr (.inr (9, 0, 0)), .inl (sc.2 (i + 1)), .inl (sc.2 (i + 2)), .inl (sc.2 (i + 3))] [] M = some r := by
    cases q : dn sc kTop_holds 0 [.inr (.inr (9, 0, 0)), .inl (sc.2 (i + 1)), .inl (sc.2 (i + 2)), .inl (sc.2 (i + 3))] [] M with
    | none => rw [q] at c1; cases c1
    | some r => exact ⟨r, rfl⟩
  rw [cr] at c1
  refine ⟨r, x2, M1, N1, b, cr, c1, c5, fun J => ?_⟩
  have e5 : nI i + 5 = nI (i + 5) := nI_add i 5
  rw [ET_53, nI_1, i_ib (show i + 1 < sc.1 by omega) (by omega), if_pos rfl, show (2 : Int32) = nI 2 from rfl, nI_add, i_ib (show i + 2 < sc.1 by omega) (by omega), if_pos rfl, show (3 : Int32) = nI 3 from rfl, nI_add, i_ib (show i + 3 < sc.1 by omega) (by omega), if_pos rfl, i_cl (show i + 1 < 2147483648 by omega), i_cl (show i + 2 < 2147483648 by omega), i_cl (show i + 3 < 2147483648 by omega), c2, r1_s, E_Model_thrown_0, r1_s, c3, if_pos rfl]
  by_cases z : x2 = 0
  · rw [if_pos z, show sm_ib 0 1 = true from rfl, if_pos rfl, show (0 : Int32).toNatClampNeg = 0 from rfl, c4 z, show foW (kTop_holds, 0, [1, 0, 0]) y = y.toInt64 from rfl, if_pos ((lg_cmp_eq _ _).mpr rfl), e5]
  · rw [if_neg z, e5]
theorem LJ_at {sc : Nat × (Nat → Int32)} {M : sm_M} {a : Nat → Nat → Int32} {i : Nat} (hsc : sc.1 ≤ 2560) (hi : i + 5 ≤ sc.1) (g : GI a M (40 * i)) : ∃ r x2 M1 N1 b, dn sc kTop_at 0 [.inr (.inr (9, 0, 0)), .inl (sc.2 (i + 1)), .inl (sc.2 (i + 2)), .inl (sc.2 (i + 3))] [] M = some r ∧ sm_wr1 (kTop_at, 0, [1, 0, 0]) (some (.inr (.inr (30, 0, 1)))) (some r) = some (0, .inl x2, M1) ∧ GI b N1 (40 * (i + 5)) ∧ ∀ J, LT2 sc J 60 [.inr (.inr (99, 0, 1)), .inr (.inr (9, 0, 0)), .inr (.inr (10, 0, 0)), .inr (.inr (30, 0, 1)), .inl (nI i)] [.inl x2] M1 = J 1 [.inr (.inr (99, 0, 1)), .inr (.inr (9, 0, 0)), .inr (.inr (10, 0, 0)), .inr (.inr (30, 0, 1)), .inl (nI (i + 5))] [] N1 := by
  have hB : 40 * i ≤ 40 * (i + 5) := by omega
  obtain ⟨x2, M1, y, N1, c1, c2, c3, c4, b, c5⟩ := LB_call (B := 40 * (i + 5)) (kTop_at, 0, [1, 0, 0]) (SIM_G g hB (S_at g.1 (sc.2 (i + 1)) (sc.2 (i + 2)) (sc.2 (i + 3)))) (by decide) (fun e v M1 h => by
    have := ex_at h
    dsimp only at this
    have he : e = 0 := by omega
    subst he; decide) (fun N r h => mod_30 (by decide) (by decide) (by simp only [fr_s_cons, fr_v_i, fr_v_r]; exact ⟨by decide, trivial, trivial, trivial, fr_s_nil⟩) h)
  obtain ⟨r, cr⟩ : ∃ r, dn sc kTop_at 0 [.inr (.inr (9, 0, 0)), .inl (sc.2 (i + 1)), .inl (sc.2 (i + 2)), .inl (sc.2 (i + 3))] [] M = some r := by
    cases q : dn sc kTop_at 0 [.inr (.inr (9, 0, 0)), .inl (sc.2 (i + 1)), .inl (sc.2 (i + 2)), .inl (sc.2 (i + 3))] [] M with
    | none => rw [q] at c1; cases c1
    | some r => exact ⟨r, rfl⟩
  rw [cr] at c1
  refine ⟨r, x2, M1, N1, b, cr, c1, c5, fun J => ?_⟩
  have e5 : nI i + 5 = nI (i + 5) := nI_add i 5
  rw [ET_60, nI_1, i_ib (show i + 1 < sc.1 by omega) (by omega), if_pos rfl, show (2 : Int32) = nI 2 from rfl, nI_add, i_ib (show i + 2 < sc.1 by omega) (by omega), if_pos rfl, show (3 : Int32) = nI 3 from rfl, nI_add, i_ib (show i + 3 < sc.1 by omega) (by omega), if_pos rfl, i_cl (show i + 1 < 2147483648 by omega), i_cl (show i + 2 < 2147483648 by omega), i_cl (show i + 3 < 2147483648 by omega), c2, r1_s, E_Model_thrown_0, r1_s, c3, if_pos rfl]
  by_cases z : x2 = 0
  · rw [if_pos z, show sm_ib 0 1 = true from rfl, if_pos rfl, show (0 : Int32).toNatClampNeg = 0 from rfl, c4 z, show foW (kTop_at, 0, [1, 0, 0]) y = y.toInt64 from rfl, if_pos ((lg_cmp_eq _ _).mpr rfl), e5]
  · rw [if_neg z, e5]
theorem LJ_lives {sc : Nat × (Nat → Int32)} {M : sm_M} {a : Nat → Nat → Int32} {i : Nat} (hsc : sc.1 ≤ 2560) (hi : i + 5 ≤ sc.1) (g : GI a M (40 * i)) : ∃ r x2 M1 N1 b, dn sc kTop_lives 0 [.inr (.inr (9, 0, 0)), .inl (sc.2 (i + 1)), .inl (sc.2 (i + 2))] [] M = some r ∧ sm_wr1 (kTop_lives, 0, [1, 0, 0]) (some (.inr (.inr (30, 0, 1)))) (some r) = some (0, .inl x2, M1) ∧ GI b N1 (40 * (i + 5)) ∧ ∀ J, LT2 sc J 67 [.inr (.inr (99, 0, 1)), .inr (.inr (9, 0, 0)), .inr (.inr (10, 0, 0)), .inr (.inr (30, 0, 1)), .inl (nI i)] [.inl x2] M1 = J 1 [.inr (.inr (99, 0, 1)), .inr (.inr (9, 0, 0)), .inr (.inr (10, 0, 0)), .inr (.inr (30, 0, 1)), .inl (nI (i + 5))] [] N1 := by
  have hB : 40 * i ≤ 40 * (i + 5) := by omega
  obtain ⟨x2, M1, y, N1, c1, c2, c3, c4, b, c5⟩ := LB_call (B := 40 * (i + 5)) (kTop_lives, 0, [1, 0, 0]) (SIM_G g hB (S_lives g.1 (sc.2 (i + 1)) (sc.2 (i + 2)))) (by decide) (fun e v M1 h => by
    have := ex_lives h
    dsimp only at this
    have he : e = 0 := by omega
    subst he; decide) (fun N r h => mod_30 (by decide) (by decide) (by simp only [fr_s_cons, fr_v_i, fr_v_r]; exact ⟨by decide, trivial, trivial, fr_s_nil⟩) h)
  obtain ⟨r, cr⟩ : ∃ r, dn sc kTop_lives 0 [.inr (.inr (9, 0, 0)), .inl (sc.2 (i + 1)), .inl (sc.2 (i + 2))] [] M = some r := by
    cases q : dn sc kTop_lives 0 [.inr (.inr (9, 0, 0)), .inl (sc.2 (i + 1)), .inl (sc.2 (i + 2))] [] M with
    | none => rw [q] at c1; cases c1
    | some r => exact ⟨r, rfl⟩
  rw [cr] at c1
  refine ⟨r, x2, M1, N1, b, cr, c1, c5, fun J => ?_⟩
  have e5 : nI i + 5 = nI (i + 5) := nI_add i 5
  rw [ET_67, nI_1, i_ib (show i + 1 < sc.1 by omega) (by omega), if_pos rfl, show (2 : Int32) = nI 2 from rfl, nI_add, i_ib (show i + 2 < sc.1 by omega) (by omega), if_pos rfl, i_cl (show i + 1 < 2147483648 by omega), i_cl (show i + 2 < 2147483648 by omega), c2, r1_s, E_Model_thrown_0, r1_s, c3, if_pos rfl]
  by_cases z : x2 = 0
  · rw [if_pos z, show sm_ib 0 1 = true from rfl, if_pos rfl, show (0 : Int32).toNatClampNeg = 0 from rfl, c4 z, show foW (kTop_lives, 0, [1, 0, 0]) y = y.toInt64 from rfl, if_pos ((lg_cmp_eq _ _).mpr rfl), e5]
  · rw [if_neg z, e5]
theorem LJ_stuck {sc : Nat × (Nat → Int32)} {M : sm_M} {a : Nat → Nat → Int32} {i : Nat} (hsc : sc.1 ≤ 2560) (hi : i + 5 ≤ sc.1) (g : GI a M (40 * i)) : ∃ r x2 M1 N1 b, dn sc kTop_stuck 0 [.inr (.inr (9, 0, 0))] [] M = some r ∧ sm_wr1 (kTop_stuck, 0, [0, 0, 1]) (some (.inr (.inr (30, 0, 1)))) (some r) = some (0, .inl x2, M1) ∧ GI b N1 (40 * (i + 5)) ∧ ∀ J, LT2 sc J 74 [.inr (.inr (99, 0, 1)), .inr (.inr (9, 0, 0)), .inr (.inr (10, 0, 0)), .inr (.inr (30, 0, 1)), .inl (nI i)] [.inl x2] M1 = J 1 [.inr (.inr (99, 0, 1)), .inr (.inr (9, 0, 0)), .inr (.inr (10, 0, 0)), .inr (.inr (30, 0, 1)), .inl (nI (i + 5))] [] N1 := by
  have hB : 40 * i ≤ 40 * (i + 5) := by omega
  obtain ⟨x2, M1, y, N1, c1, c2, c3, c4, b, c5⟩ := LB_call (B := 40 * (i + 5)) (kTop_stuck, 0, [0, 0, 1]) (S_stuck g hB) (by decide) (fun e v M1 h => by
    have := ex_stuck h
    dsimp only at this
    have he : e = 2 := by omega
    subst he; decide) (fun N r h => mod_30 (by decide) (by decide) (by simp only [fr_s_cons, fr_v_i, fr_v_r]; exact ⟨by decide, fr_s_nil⟩) h)
  obtain ⟨r, cr⟩ : ∃ r, dn sc kTop_stuck 0 [.inr (.inr (9, 0, 0))] [] M = some r := by
    cases q : dn sc kTop_stuck 0 [.inr (.inr (9, 0, 0))] [] M with
    | none => rw [q] at c1; cases c1
    | some r => exact ⟨r, rfl⟩
  rw [cr] at c1
  refine ⟨r, x2, M1, N1, b, cr, c1, c5, fun J => ?_⟩
  have e5 : nI i + 5 = nI (i + 5) := nI_add i 5
  rw [ET_74, c2, r1_s, E_Model_thrown_0, r1_s, c3, if_pos rfl]
  by_cases z : x2 = 0
  · rw [if_pos z, show sm_ib 0 1 = true from rfl, if_pos rfl, show (0 : Int32).toNatClampNeg = 0 from rfl, c4 z, show foW (kTop_stuck, 0, [0, 0, 1]) y = y.toInt64 from rfl, if_pos ((lg_cmp_eq _ _).mpr rfl), e5]
  · rw [if_neg z, e5]
theorem LJ_run {sc : Nat × (Nat → Int32)} {M : sm_M} {a : Nat → Nat → Int32} {i : Nat} (hsc : sc.1 ≤ 2560) (hi : i + 5 ≤ sc.1) (g : GI a M (40 * i)) : ∃ r x2 M1 N1 b, dn sc kTop_run 0 [.inr (.inr (9, 0, 0)), .inl (sc.2 (i + 1)), .inl (sc.2 (i + 2))] [] M = some r ∧ sm_wr1 (kTop_run, 0, [0, 1, 2]) (some (.inr (.inr (30, 0, 1)))) (some r) = some (0, .inl x2, M1) ∧ GI b N1 (40 * (i + 5)) ∧ ∀ J, LT2 sc J 98 [.inr (.inr (99, 0, 1)), .inr (.inr (9, 0, 0)), .inr (.inr (10, 0, 0)), .inr (.inr (30, 0, 1)), .inl (nI i)] [.inl x2] M1 = J 1 [.inr (.inr (99, 0, 1)), .inr (.inr (9, 0, 0)), .inr (.inr (10, 0, 0)), .inr (.inr (30, 0, 1)), .inl (nI (i + 5))] [] N1 := by
  have hB : 40 * i ≤ 40 * (i + 5) := by omega
  obtain ⟨x2, M1, y, N1, c1, c2, c3, c4, b, c5⟩ := LB_call (B := 40 * (i + 5)) (kTop_run, 0, [0, 1, 2]) (GSM_m (SIR_G g (S_run g.1 g.2.1 (by omega) (sc.2 (i + 1)) (sc.2 (i + 2)))) (by omega)) (by decide) (fun e v M1 h => by
    have := ex_run h
    dsimp only at this
    have he : e = 1 ∨ e = 2 := by omega
    rcases he with rfl | rfl <;> decide) (fun N r h => mod_30 (by decide) (by decide) (by simp only [fr_s_cons, fr_v_i, fr_v_r]; exact ⟨by decide, trivial, trivial, fr_s_nil⟩) h)
  obtain ⟨r, cr⟩ : ∃ r, dn sc kTop_run 0 [.inr (.inr (9, 0, 0)), .inl (sc.2 (i + 1)), .inl (sc.2 (i + 2))] [] M = some r := by
    cases q : dn sc kTop_run 0 [.inr (.inr (9, 0, 0)), .inl (sc.2 (i + 1)), .inl (sc.2 (i + 2))] [] M with
    | none => rw [q] at c1; cases c1
    | some r => exact ⟨r, rfl⟩
  rw [cr] at c1
  refine ⟨r, x2, M1, N1, b, cr, c1, c5, fun J => ?_⟩
  have e5 : nI i + 5 = nI (i + 5) := nI_add i 5
  rw [ET_98, nI_1, i_ib (show i + 1 < sc.1 by omega) (by omega), if_pos rfl, show (2 : Int32) = nI 2 from rfl, nI_add, i_ib (show i + 2 < sc.1 by omega) (by omega), if_pos rfl, i_cl (show i + 1 < 2147483648 by omega), i_cl (show i + 2 < 2147483648 by omega), c2, r1_s, E_Model_thrown_0, r1_s, c3, if_pos rfl]
  by_cases z : x2 = 0
  · rw [if_pos z, show sm_ib 0 1 = true from rfl, if_pos rfl, show (0 : Int32).toNatClampNeg = 0 from rfl, c4 z, show foW (kTop_run, 0, [0, 1, 2]) y = y.toInt64 from rfl, if_pos ((lg_cmp_eq _ _).mpr rfl), e5]
  · rw [if_neg z, e5]
theorem LJ_state {sc : Nat × (Nat → Int32)} {M : sm_M} {a : Nat → Nat → Int32} {i : Nat} (hsc : sc.1 ≤ 2560) (hi : i + 5 ≤ sc.1) (g : GI a M (40 * i)) : ∃ r x2 M1 N1 b, dn sc kTop_state 0 [.inr (.inr (9, 0, 0)), .inl (sc.2 (i + 1))] [] M = some r ∧ sm_wr1 (kTop_state, 0, [1, 0, 2]) (some (.inr (.inr (30, 0, 1)))) (some r) = some (0, .inl x2, M1) ∧ GI b N1 (40 * (i + 5)) ∧ ∀ J, LT2 sc J 105 [.inr (.inr (99, 0, 1)), .inr (.inr (9, 0, 0)), .inr (.inr (10, 0, 0)), .inr (.inr (30, 0, 1)), .inl (nI i)] [.inl x2] M1 = J 1 [.inr (.inr (99, 0, 1)), .inr (.inr (9, 0, 0)), .inr (.inr (10, 0, 0)), .inr (.inr (30, 0, 1)), .inl (nI (i + 5))] [] N1 := by
  have hB : 40 * i ≤ 40 * (i + 5) := by omega
  obtain ⟨x2, M1, y, N1, c1, c2, c3, c4, b, c5⟩ := LB_call (B := 40 * (i + 5)) (kTop_state, 0, [1, 0, 2]) (GSM_m (SIR_G g (S_state g.2.1 (sc.2 (i + 1)))) (by omega)) (by decide) (fun e v M1 h => by
    have := ex_state h
    dsimp only at this
    have he : e = 0 ∨ e = 2 := by omega
    rcases he with rfl | rfl <;> decide) (fun N r h => mod_30 (by decide) (by decide) (by simp only [fr_s_cons, fr_v_i, fr_v_r]; exact ⟨by decide, trivial, fr_s_nil⟩) h)
  obtain ⟨r, cr⟩ : ∃ r, dn sc kTop_state 0 [.inr (.inr (9, 0, 0)), .inl (sc.2 (i + 1))] [] M = some r := by
    cases q : dn sc kTop_state 0 [.inr (.inr (9, 0, 0)), .inl (sc.2 (i + 1))] [] M with
    | none => rw [q] at c1; cases c1
    | some r => exact ⟨r, rfl⟩
  rw [cr] at c1
  refine ⟨r, x2, M1, N1, b, cr, c1, c5, fun J => ?_⟩
  have e5 : nI i + 5 = nI (i + 5) := nI_add i 5
  rw [ET_105, nI_1, i_ib (show i + 1 < sc.1 by omega) (by omega), if_pos rfl, i_cl (show i + 1 < 2147483648 by omega), c2, r1_s, E_Model_thrown_0, r1_s, c3, if_pos rfl]
  by_cases z : x2 = 0
  · rw [if_pos z, show sm_ib 0 1 = true from rfl, if_pos rfl, show (0 : Int32).toNatClampNeg = 0 from rfl, c4 z, show foW (kTop_state, 0, [1, 0, 2]) y = y.toInt64 from rfl, if_pos ((lg_cmp_eq _ _).mpr rfl), e5]
  · rw [if_neg z, e5]
theorem LJ_fault {sc : Nat × (Nat → Int32)} {M : sm_M} {a : Nat → Nat → Int32} {i : Nat} (hsc : sc.1 ≤ 2560) (hi : i + 5 ≤ sc.1) (g : GI a M (40 * i)) : ∃ r x2 M1 N1 b, dn sc kTop_fault 0 [.inr (.inr (9, 0, 0)), .inl (sc.2 (i + 1))] [] M = some r ∧ sm_wr1 (kTop_fault, 0, [1, 0, 2]) (some (.inr (.inr (30, 0, 1)))) (some r) = some (0, .inl x2, M1) ∧ GI b N1 (40 * (i + 5)) ∧ ∀ J, LT2 sc J 112 [.inr (.inr (99, 0, 1)), .inr (.inr (9, 0, 0)), .inr (.inr (10, 0, 0)), .inr (.inr (30, 0, 1)), .inl (nI i)] [.inl x2] M1 = J 1 [.inr (.inr (99, 0, 1)), .inr (.inr (9, 0, 0)), .inr (.inr (10, 0, 0)), .inr (.inr (30, 0, 1)), .inl (nI (i + 5))] [] N1 := by
  have hB : 40 * i ≤ 40 * (i + 5) := by omega
  obtain ⟨x2, M1, y, N1, c1, c2, c3, c4, b, c5⟩ := LB_call (B := 40 * (i + 5)) (kTop_fault, 0, [1, 0, 2]) (GSM_m (SIR_G g (S_fault g.2.1 (sc.2 (i + 1)))) (by omega)) (by decide) (fun e v M1 h => by
    have := ex_fault h
    dsimp only at this
    have he : e = 0 ∨ e = 2 := by omega
    rcases he with rfl | rfl <;> decide) (fun N r h => mod_30 (by decide) (by decide) (by simp only [fr_s_cons, fr_v_i, fr_v_r]; exact ⟨by decide, trivial, fr_s_nil⟩) h)
  obtain ⟨r, cr⟩ : ∃ r, dn sc kTop_fault 0 [.inr (.inr (9, 0, 0)), .inl (sc.2 (i + 1))] [] M = some r := by
    cases q : dn sc kTop_fault 0 [.inr (.inr (9, 0, 0)), .inl (sc.2 (i + 1))] [] M with
    | none => rw [q] at c1; cases c1
    | some r => exact ⟨r, rfl⟩
  rw [cr] at c1
  refine ⟨r, x2, M1, N1, b, cr, c1, c5, fun J => ?_⟩
  have e5 : nI i + 5 = nI (i + 5) := nI_add i 5
  rw [ET_112, nI_1, i_ib (show i + 1 < sc.1 by omega) (by omega), if_pos rfl, i_cl (show i + 1 < 2147483648 by omega), c2, r1_s, E_Model_thrown_0, r1_s, c3, if_pos rfl]
  by_cases z : x2 = 0
  · rw [if_pos z, show sm_ib 0 1 = true from rfl, if_pos rfl, show (0 : Int32).toNatClampNeg = 0 from rfl, c4 z, show foW (kTop_fault, 0, [1, 0, 2]) y = y.toInt64 from rfl, if_pos ((lg_cmp_eq _ _).mpr rfl), e5]
  · rw [if_neg z, e5]
theorem LJ_place {sc : Nat × (Nat → Int32)} {M : sm_M} {a : Nat → Nat → Int32} {i : Nat} (hsc : sc.1 ≤ 2560) (hi : i + 5 ≤ sc.1) (g : GI a M (40 * i)) : ∃ r x2 M1 N1 b, dn sc kTop_place 0 [.inr (.inr (9, 0, 0)), .inl (sc.2 (i + 1))] [] M = some r ∧ sm_wr1 (kTop_place, 0, [1, 0, 2]) (some (.inr (.inr (30, 0, 1)))) (some r) = some (0, .inl x2, M1) ∧ GI b N1 (40 * (i + 5)) ∧ ∀ J, LT2 sc J 119 [.inr (.inr (99, 0, 1)), .inr (.inr (9, 0, 0)), .inr (.inr (10, 0, 0)), .inr (.inr (30, 0, 1)), .inl (nI i)] [.inl x2] M1 = J 1 [.inr (.inr (99, 0, 1)), .inr (.inr (9, 0, 0)), .inr (.inr (10, 0, 0)), .inr (.inr (30, 0, 1)), .inl (nI (i + 5))] [] N1 := by
  have hB : 40 * i ≤ 40 * (i + 5) := by omega
  obtain ⟨x2, M1, y, N1, c1, c2, c3, c4, b, c5⟩ := LB_call (B := 40 * (i + 5)) (kTop_place, 0, [1, 0, 2]) (GSM_m (SIR_G g (S_place g.2.1 (sc.2 (i + 1)))) (by omega)) (by decide) (fun e v M1 h => by
    have := ex_place h
    dsimp only at this
    have he : e = 0 ∨ e = 2 := by omega
    rcases he with rfl | rfl <;> decide) (fun N r h => mod_30 (by decide) (by decide) (by simp only [fr_s_cons, fr_v_i, fr_v_r]; exact ⟨by decide, trivial, fr_s_nil⟩) h)
  obtain ⟨r, cr⟩ : ∃ r, dn sc kTop_place 0 [.inr (.inr (9, 0, 0)), .inl (sc.2 (i + 1))] [] M = some r := by
    cases q : dn sc kTop_place 0 [.inr (.inr (9, 0, 0)), .inl (sc.2 (i + 1))] [] M with
    | none => rw [q] at c1; cases c1
    | some r => exact ⟨r, rfl⟩
  rw [cr] at c1
  refine ⟨r, x2, M1, N1, b, cr, c1, c5, fun J => ?_⟩
  have e5 : nI i + 5 = nI (i + 5) := nI_add i 5
  rw [ET_119, nI_1, i_ib (show i + 1 < sc.1 by omega) (by omega), if_pos rfl, i_cl (show i + 1 < 2147483648 by omega), c2, r1_s, E_Model_thrown_0, r1_s, c3, if_pos rfl]
  by_cases z : x2 = 0
  · rw [if_pos z, show sm_ib 0 1 = true from rfl, if_pos rfl, show (0 : Int32).toNatClampNeg = 0 from rfl, c4 z, show foW (kTop_place, 0, [1, 0, 2]) y = y.toInt64 from rfl, if_pos ((lg_cmp_eq _ _).mpr rfl), e5]
  · rw [if_neg z, e5]
theorem LJ_value {sc : Nat × (Nat → Int32)} {M : sm_M} {a : Nat → Nat → Int32} {i : Nat} (hsc : sc.1 ≤ 2560) (hi : i + 5 ≤ sc.1) (g : GI a M (40 * i)) : ∃ r x2 M1 N1 b, dn sc kTop_value 0 [.inr (.inr (9, 0, 0)), .inl (sc.2 (i + 1)), .inl (sc.2 (i + 2))] [] M = some r ∧ sm_wr1 (kTop_value, 0, [1, 0, 2]) (some (.inr (.inr (30, 0, 1)))) (some r) = some (0, .inl x2, M1) ∧ GI b N1 (40 * (i + 5)) ∧ ∀ J, LT2 sc J 126 [.inr (.inr (99, 0, 1)), .inr (.inr (9, 0, 0)), .inr (.inr (10, 0, 0)), .inr (.inr (30, 0, 1)), .inl (nI i)] [.inl x2] M1 = J 1 [.inr (.inr (99, 0, 1)), .inr (.inr (9, 0, 0)), .inr (.inr (10, 0, 0)), .inr (.inr (30, 0, 1)), .inl (nI (i + 5))] [] N1 := by
  have hB : 40 * i ≤ 40 * (i + 5) := by omega
  obtain ⟨x2, M1, y, N1, c1, c2, c3, c4, b, c5⟩ := LB_call (B := 40 * (i + 5)) (kTop_value, 0, [1, 0, 2]) (GSM_m (SIR_G g (S_value g.2.1 (sc.2 (i + 1)) (sc.2 (i + 2)))) (by omega)) (by decide) (fun e v M1 h => by
    have := ex_value h
    dsimp only at this
    have he : e = 0 ∨ e = 2 := by omega
    rcases he with rfl | rfl <;> decide) (fun N r h => mod_30 (by decide) (by decide) (by simp only [fr_s_cons, fr_v_i, fr_v_r]; exact ⟨by decide, trivial, trivial, fr_s_nil⟩) h)
  obtain ⟨r, cr⟩ : ∃ r, dn sc kTop_value 0 [.inr (.inr (9, 0, 0)), .inl (sc.2 (i + 1)), .inl (sc.2 (i + 2))] [] M = some r := by
    cases q : dn sc kTop_value 0 [.inr (.inr (9, 0, 0)), .inl (sc.2 (i + 1)), .inl (sc.2 (i + 2))] [] M with
    | none => rw [q] at c1; cases c1
    | some r => exact ⟨r, rfl⟩
  rw [cr] at c1
  refine ⟨r, x2, M1, N1, b, cr, c1, c5, fun J => ?_⟩
  have e5 : nI i + 5 = nI (i + 5) := nI_add i 5
  rw [ET_126, nI_1, i_ib (show i + 1 < sc.1 by omega) (by omega), if_pos rfl, show (2 : Int32) = nI 2 from rfl, nI_add, i_ib (show i + 2 < sc.1 by omega) (by omega), if_pos rfl, i_cl (show i + 1 < 2147483648 by omega), i_cl (show i + 2 < 2147483648 by omega), c2, r1_s, E_Model_thrown_0, r1_s, c3, if_pos rfl]
  by_cases z : x2 = 0
  · rw [if_pos z, show sm_ib 0 1 = true from rfl, if_pos rfl, show (0 : Int32).toNatClampNeg = 0 from rfl, c4 z, show foW (kTop_value, 0, [1, 0, 2]) y = y.toInt64 from rfl, if_pos ((lg_cmp_eq _ _).mpr rfl), e5]
  · rw [if_neg z, e5]
theorem LJ_waiting {sc : Nat × (Nat → Int32)} {M : sm_M} {a : Nat → Nat → Int32} {i : Nat} (hsc : sc.1 ≤ 2560) (hi : i + 5 ≤ sc.1) (g : GI a M (40 * i)) : ∃ r x2 M1 N1 b, dn sc kTop_waiting 0 [.inr (.inr (9, 0, 0)), .inl (sc.2 (i + 1)), .inl (sc.2 (i + 2))] [] M = some r ∧ sm_wr1 (kTop_waiting, 0, [1, 0, 2]) (some (.inr (.inr (30, 0, 1)))) (some r) = some (0, .inl x2, M1) ∧ GI b N1 (40 * (i + 5)) ∧ ∀ J, LT2 sc J 133 [.inr (.inr (99, 0, 1)), .inr (.inr (9, 0, 0)), .inr (.inr (10, 0, 0)), .inr (.inr (30, 0, 1)), .inl (nI i)] [.inl x2] M1 = J 1 [.inr (.inr (99, 0, 1)), .inr (.inr (9, 0, 0)), .inr (.inr (10, 0, 0)), .inr (.inr (30, 0, 1)), .inl (nI (i + 5))] [] N1 := by
  have hB : 40 * i ≤ 40 * (i + 5) := by omega
  obtain ⟨x2, M1, y, N1, c1, c2, c3, c4, b, c5⟩ := LB_call (B := 40 * (i + 5)) (kTop_waiting, 0, [1, 0, 2]) (GSM_m (SIR_G g (S_waiting g.1 g.2.1 (sc.2 (i + 1)) (sc.2 (i + 2)))) (by omega)) (by decide) (fun e v M1 h => by
    have := ex_waiting h
    dsimp only at this
    have he : e = 0 ∨ e = 2 := by omega
    rcases he with rfl | rfl <;> decide) (fun N r h => mod_30 (by decide) (by decide) (by simp only [fr_s_cons, fr_v_i, fr_v_r]; exact ⟨by decide, trivial, trivial, fr_s_nil⟩) h)
  obtain ⟨r, cr⟩ : ∃ r, dn sc kTop_waiting 0 [.inr (.inr (9, 0, 0)), .inl (sc.2 (i + 1)), .inl (sc.2 (i + 2))] [] M = some r := by
    cases q : dn sc kTop_waiting 0 [.inr (.inr (9, 0, 0)), .inl (sc.2 (i + 1)), .inl (sc.2 (i + 2))] [] M with
    | none => rw [q] at c1; cases c1
    | some r => exact ⟨r, rfl⟩
  rw [cr] at c1
  refine ⟨r, x2, M1, N1, b, cr, c1, c5, fun J => ?_⟩
  have e5 : nI i + 5 = nI (i + 5) := nI_add i 5
  rw [ET_133, nI_1, i_ib (show i + 1 < sc.1 by omega) (by omega), if_pos rfl, show (2 : Int32) = nI 2 from rfl, nI_add, i_ib (show i + 2 < sc.1 by omega) (by omega), if_pos rfl, i_cl (show i + 1 < 2147483648 by omega), i_cl (show i + 2 < 2147483648 by omega), c2, r1_s, E_Model_thrown_0, r1_s, c3, if_pos rfl]
  by_cases z : x2 = 0
  · rw [if_pos z, show sm_ib 0 1 = true from rfl, if_pos rfl, show (0 : Int32).toNatClampNeg = 0 from rfl, c4 z, show foW (kTop_waiting, 0, [1, 0, 2]) y = y.toInt64 from rfl, if_pos ((lg_cmp_eq _ _).mpr rfl), e5]
  · rw [if_neg z, e5]
theorem LJ_dropped {sc : Nat × (Nat → Int32)} {M : sm_M} {a : Nat → Nat → Int32} {i : Nat} (hsc : sc.1 ≤ 2560) (hi : i + 5 ≤ sc.1) (g : GI a M (40 * i)) : ∃ r x2 M1 N1 b, dn sc kTop_dropped 0 [.inr (.inr (9, 0, 0)), .inl (sc.2 (i + 1))] [] M = some r ∧ sm_wr1 (kTop_dropped, 0, [1, 0, 0]) (some (.inr (.inr (30, 0, 1)))) (some r) = some (0, .inl x2, M1) ∧ GI b N1 (40 * (i + 5)) ∧ ∀ J, LT2 sc J 144 [.inr (.inr (99, 0, 1)), .inr (.inr (9, 0, 0)), .inr (.inr (10, 0, 0)), .inr (.inr (30, 0, 1)), .inl (nI i)] [.inl x2] M1 = J 1 [.inr (.inr (99, 0, 1)), .inr (.inr (9, 0, 0)), .inr (.inr (10, 0, 0)), .inr (.inr (30, 0, 1)), .inl (nI (i + 5))] [] N1 := by
  have hB : 40 * i ≤ 40 * (i + 5) := by omega
  obtain ⟨x2, M1, y, N1, c1, c2, c3, c4, b, c5⟩ := LB_call (B := 40 * (i + 5)) (kTop_dropped, 0, [1, 0, 0]) (GSM_m (SIR_G g (S_dropped g.2.1 (sc.2 (i + 1)))) (by omega)) (by decide) (fun e v M1 h => by
    have := ex_dropped h
    dsimp only at this
    have he : e = 0 := by omega
    subst he; decide) (fun N r h => mod_30 (by decide) (by decide) (by simp only [fr_s_cons, fr_v_i, fr_v_r]; exact ⟨by decide, trivial, fr_s_nil⟩) h)
  obtain ⟨r, cr⟩ : ∃ r, dn sc kTop_dropped 0 [.inr (.inr (9, 0, 0)), .inl (sc.2 (i + 1))] [] M = some r := by
    cases q : dn sc kTop_dropped 0 [.inr (.inr (9, 0, 0)), .inl (sc.2 (i + 1))] [] M with
    | none => rw [q] at c1; cases c1
    | some r => exact ⟨r, rfl⟩
  rw [cr] at c1
  refine ⟨r, x2, M1, N1, b, cr, c1, c5, fun J => ?_⟩
  have e5 : nI i + 5 = nI (i + 5) := nI_add i 5
  rw [ET_144, nI_1, i_ib (show i + 1 < sc.1 by omega) (by omega), if_pos rfl, i_cl (show i + 1 < 2147483648 by omega), c2, r1_s, E_Model_thrown_0, r1_s, c3, if_pos rfl]
  by_cases z : x2 = 0
  · rw [if_pos z, show sm_ib 0 1 = true from rfl, if_pos rfl, show (0 : Int32).toNatClampNeg = 0 from rfl, c4 z, show foW (kTop_dropped, 0, [1, 0, 0]) y = y.toInt64 from rfl, if_pos ((lg_cmp_eq _ _).mpr rfl), e5]
  · rw [if_neg z, e5]
theorem LJ_go {sc : Nat × (Nat → Int32)} {M : sm_M} {a : Nat → Nat → Int32} {i : Nat} (hsc : sc.1 ≤ 2560) (hi : i + 5 ≤ sc.1) (g : GI a M (40 * i)) : ∃ r x2 M1 N1 b, dn sc kTop_go 0 [.inr (.inr (9, 0, 0)), .inl (sc.2 (i + 1)), .inl (bI (!decide (sc.2 (i + 2) = 0)))] [] M = some r ∧ sm_wr1 (kTop_go, 1, [1, 0, 2]) (some (.inr (.inr (30, 0, 1)))) (some r) = some (0, .inl x2, M1) ∧ GI b N1 (40 * (i + 5)) ∧ (∀ J, LT2 sc J 85 [.inr (.inr (99, 0, 1)), .inr (.inr (9, 0, 0)), .inr (.inr (10, 0, 0)), .inr (.inr (30, 0, 1)), .inl (nI i)] [.inl x2] M1 = J 88 [.inr (.inr (99, 0, 1)), .inr (.inr (9, 0, 0)), .inr (.inr (10, 0, 0)), .inr (.inr (30, 0, 1)), .inl (nI i), .inl x2] [.inl (bI (!decide (sc.2 (i + 2) = 0))), .inl (sc.2 (i + 1)), .inr (.inr (10, 0, 0))] M1) ∧ ((∀ J, LK sc J 88 [.inr (.inr (99, 0, 1)), .inr (.inr (9, 0, 0)), .inr (.inr (10, 0, 0)), .inr (.inr (30, 0, 1)), .inl (nI i), .inl x2] [.inl (bI (!decide (sc.2 (i + 2) = 0))), .inl (sc.2 (i + 1)), .inr (.inr (10, 0, 0))] M1 = J 1 [.inr (.inr (99, 0, 1)), .inr (.inr (9, 0, 0)), .inr (.inr (10, 0, 0)), .inr (.inr (30, 0, 1)), .inl (nI (i + 5))] [] N1) ∨ ∃ u : Int64, (∀ J, LK sc J 88 [.inr (.inr (99, 0, 1)), .inr (.inr (9, 0, 0)), .inr (.inr (10, 0, 0)), .inr (.inr (30, 0, 1)), .inl (nI i), .inl x2] [.inl (bI (!decide (sc.2 (i + 2) = 0))), .inl (sc.2 (i + 1)), .inr (.inr (10, 0, 0))] M1 = J 94 [.inr (.inr (99, 0, 1)), .inr (.inr (9, 0, 0)), .inr (.inr (10, 0, 0)), .inr (.inr (30, 0, 1)), .inl (nI i)] [.inr (.inl u), .inr (.inl u)] N1) ∧ ∀ J, LK sc J 94 [.inr (.inr (99, 0, 1)), .inr (.inr (9, 0, 0)), .inr (.inr (10, 0, 0)), .inr (.inr (30, 0, 1)), .inl (nI i)] [.inr (.inl u), .inr (.inl u)] N1 = J 1 [.inr (.inr (99, 0, 1)), .inr (.inr (9, 0, 0)), .inr (.inr (10, 0, 0)), .inr (.inr (30, 0, 1)), .inl (nI (i + 5))] [] N1) := by
  have hB : 40 * i ≤ 40 * (i + 5) := by omega
  obtain ⟨x2, M1, y, N1, c1, c2, c3, c4, b, c5⟩ := LB_call (B := 40 * (i + 5)) (kTop_go, 1, [1, 0, 2]) (GSM_m (SIR_G g (S_go g.1 g.2.1 (by omega) (sc.2 (i + 1)) (!decide (sc.2 (i + 2) = 0)))) (by omega)) (by decide) (fun e v M1 h => by
    have := ex_go h
    dsimp only at this
    have he : e = 0 ∨ e = 2 := by omega
    rcases he with rfl | rfl <;> decide) (fun N r h => mod_30 (by decide) (by decide) (by simp only [fr_s_cons, fr_v_i, fr_v_r]; exact ⟨by decide, trivial, trivial, fr_s_nil⟩) h)
  obtain ⟨r, cr⟩ : ∃ r, dn sc kTop_go 0 [.inr (.inr (9, 0, 0)), .inl (sc.2 (i + 1)), .inl (bI (!decide (sc.2 (i + 2) = 0)))] [] M = some r := by
    cases q : dn sc kTop_go 0 [.inr (.inr (9, 0, 0)), .inl (sc.2 (i + 1)), .inl (bI (!decide (sc.2 (i + 2) = 0)))] [] M with
    | none => rw [q] at c1; cases c1
    | some r => exact ⟨r, rfl⟩
  rw [cr] at c1
  have e5 : nI i + 5 = nI (i + 5) := nI_add i 5
  refine ⟨r, x2, M1, N1, b, cr, c1, c5, fun J => ?_, ?_⟩
  · rw [ET_85, nI_1, i_ib (show i + 1 < sc.1 by omega) (by omega), if_pos rfl, show (2 : Int32) = nI 2 from rfl, nI_add, i_ib (show i + 2 < sc.1 by omega) (by omega), if_pos rfl, i_cl (show i + 2 < 2147483648 by omega), i_cl (show i + 1 < 2147483648 by omega)]
    by_cases z : sc.2 (i + 2) = 0
    · rw [if_pos z, decide_eq_true z]; rfl
    · rw [if_neg z, decide_eq_false z]; rfl
  · by_cases z : x2 = 0
    · refine Or.inr ⟨foW (kTop_go, 1, [1, 0, 2]) y, fun J => ?_, fun J => ?_⟩
      · rw [EJ_88, show dn sc kModel_go 0 _ [] M1 = _ from c2, r1_s, E_Model_thrown_0, r1_s, c3, if_pos rfl, if_pos z, show sm_ib 0 1 = true from rfl, if_pos rfl, show (0 : Int32).toNatClampNeg = 0 from rfl, c4 z]
        by_cases zy : y = 0
        · rw [if_pos zy, show foW (kTop_go, 1, [1, 0, 2]) y = 0 from if_pos zy]
        · rw [if_neg zy, show foW (kTop_go, 1, [1, 0, 2]) y = 1 from if_neg zy]
      · rw [EJ_94, if_pos ((lg_cmp_eq _ _).mpr rfl), e5]
    · refine Or.inl (fun J => ?_)
      rw [EJ_88, show dn sc kModel_go 0 _ [] M1 = _ from c2, r1_s, E_Model_thrown_0, r1_s, c3, if_pos rfl, if_neg z, e5]
theorem L1_step {sc : Nat × (Nat → Int32)} {i : Nat} (hsc : sc.1 ≤ 2560) (hi : i + 5 ≤ sc.1) (M : sm_M) (hk : sc.2 i &&& 31 = 0) (J : Nat → List sm_v → List sm_v → sm_M → Option sm_R) : LK sc J 1 [.inr (.inr (99, 0, 1)), .inr (.inr (9, 0, 0)), .inr (.inr (10, 0, 0)), .inr (.inr (30, 0, 1)), .inl (nI i)] [] M = J 4 [.inr (.inr (99, 0, 1)), .inr (.inr (9, 0, 0)), .inr (.inr (10, 0, 0)), .inr (.inr (30, 0, 1)), .inl (nI i)] [.inr (.inr (30, 0, 1)), .inl (sc.2 (i + 4)), .inl (sc.2 (i + 3)), .inl (sc.2 (i + 2)), .inl (sc.2 (i + 1)), .inr (.inr (9, 0, 0))] M := by
  have e5 : nI i + 5 = nI (i + 5) := nI_add i 5
  have e1 : nI i + 1 = nI (i + 1) := nI_add i 1
  have e2 : nI i + 2 = nI (i + 2) := nI_add i 2
  have e3 : nI i + 3 = nI (i + 3) := nI_add i 3
  have e4 : nI i + 4 = nI (i + 4) := nI_add i 4
  have b0 : sm_ib (nI i) sc.1 = true := i_ib (by omega) (by omega)
  have b1 : sm_ib (nI (i + 1)) sc.1 = true := i_ib (by omega) (by omega)
  have b2 : sm_ib (nI (i + 2)) sc.1 = true := i_ib (by omega) (by omega)
  have b3 : sm_ib (nI (i + 3)) sc.1 = true := i_ib (by omega) (by omega)
  have b4 : sm_ib (nI (i + 4)) sc.1 = true := i_ib (by omega) (by omega)
  have c0 : (nI i).toNatClampNeg = i := i_cl (by omega)
  have c1 : (nI (i + 1)).toNatClampNeg = i + 1 := i_cl (by omega)
  have c2 : (nI (i + 2)).toNatClampNeg = i + 2 := i_cl (by omega)
  have c3 : (nI (i + 3)).toNatClampNeg = i + 3 := i_cl (by omega)
  have c4 : (nI (i + 4)).toNatClampNeg = i + 4 := i_cl (by omega)
  have lt : ¬ nI sc.1 - 5 < nI i := by
    have h5 : nI sc.1 - 5 = nI (sc.1 - 5) := (Int32.ofNat_sub sc.1 5 (by omega)).symm
    rw [h5, i_lt (by omega) (by omega)]
    omega
  rw [EJ_1, if_neg lt, b0, if_pos rfl, c0, hk, if_pos rfl, e1, e2, e3, e4, b1, if_pos rfl, b2, if_pos rfl, b3, if_pos rfl, b4, if_pos rfl, c1, c2, c3, c4]
theorem L1_channel {sc : Nat × (Nat → Int32)} {i : Nat} (hsc : sc.1 ≤ 2560) (hi : i + 5 ≤ sc.1) (M : sm_M) (hk : sc.2 i &&& 31 = 1) (J : Nat → List sm_v → List sm_v → sm_M → Option sm_R) : LK sc J 1 [.inr (.inr (99, 0, 1)), .inr (.inr (9, 0, 0)), .inr (.inr (10, 0, 0)), .inr (.inr (30, 0, 1)), .inl (nI i)] [] M = J 11 [.inr (.inr (99, 0, 1)), .inr (.inr (9, 0, 0)), .inr (.inr (10, 0, 0)), .inr (.inr (30, 0, 1)), .inl (nI i)] [.inr (.inr (30, 0, 1)), .inl (sc.2 (i + 3)), .inl (sc.2 (i + 2)), .inl (sc.2 (i + 1)), .inr (.inr (9, 0, 0))] M := by
  have e5 : nI i + 5 = nI (i + 5) := nI_add i 5
  have e1 : nI i + 1 = nI (i + 1) := nI_add i 1
  have e2 : nI i + 2 = nI (i + 2) := nI_add i 2
  have e3 : nI i + 3 = nI (i + 3) := nI_add i 3
  have e4 : nI i + 4 = nI (i + 4) := nI_add i 4
  have b0 : sm_ib (nI i) sc.1 = true := i_ib (by omega) (by omega)
  have b1 : sm_ib (nI (i + 1)) sc.1 = true := i_ib (by omega) (by omega)
  have b2 : sm_ib (nI (i + 2)) sc.1 = true := i_ib (by omega) (by omega)
  have b3 : sm_ib (nI (i + 3)) sc.1 = true := i_ib (by omega) (by omega)
  have b4 : sm_ib (nI (i + 4)) sc.1 = true := i_ib (by omega) (by omega)
  have c0 : (nI i).toNatClampNeg = i := i_cl (by omega)
  have c1 : (nI (i + 1)).toNatClampNeg = i + 1 := i_cl (by omega)
  have c2 : (nI (i + 2)).toNatClampNeg = i + 2 := i_cl (by omega)
  have c3 : (nI (i + 3)).toNatClampNeg = i + 3 := i_cl (by omega)
  have c4 : (nI (i + 4)).toNatClampNeg = i + 4 := i_cl (by omega)
  have lt : ¬ nI sc.1 - 5 < nI i := by
    have h5 : nI sc.1 - 5 = nI (sc.1 - 5) := (Int32.ofNat_sub sc.1 5 (by omega)).symm
    rw [h5, i_lt (by omega) (by omega)]
    omega
  rw [EJ_1, if_neg lt, b0, if_pos rfl, c0, hk, if_neg (show ¬ ((1 : Int32) = 0) by decide), if_pos rfl, e1, e2, e3, b1, if_pos rfl, b2, if_pos rfl, b3, if_pos rfl, c1, c2, c3]
theorem L1_op {sc : Nat × (Nat → Int32)} {i : Nat} (hsc : sc.1 ≤ 2560) (hi : i + 5 ≤ sc.1) (M : sm_M) (hk : sc.2 i &&& 31 = 2) (J : Nat → List sm_v → List sm_v → sm_M → Option sm_R) : LK sc J 1 [.inr (.inr (99, 0, 1)), .inr (.inr (9, 0, 0)), .inr (.inr (10, 0, 0)), .inr (.inr (30, 0, 1)), .inl (nI i)] [] M = J 18 [.inr (.inr (99, 0, 1)), .inr (.inr (9, 0, 0)), .inr (.inr (10, 0, 0)), .inr (.inr (30, 0, 1)), .inl (nI i)] [.inr (.inr (30, 0, 1)), .inl (sc.2 (i + 4)), .inl (sc.2 (i + 3)), .inl (sc.2 (i + 2)), .inl (sc.2 (i + 1)), .inr (.inr (9, 0, 0))] M := by
  have e5 : nI i + 5 = nI (i + 5) := nI_add i 5
  have e1 : nI i + 1 = nI (i + 1) := nI_add i 1
  have e2 : nI i + 2 = nI (i + 2) := nI_add i 2
  have e3 : nI i + 3 = nI (i + 3) := nI_add i 3
  have e4 : nI i + 4 = nI (i + 4) := nI_add i 4
  have b0 : sm_ib (nI i) sc.1 = true := i_ib (by omega) (by omega)
  have b1 : sm_ib (nI (i + 1)) sc.1 = true := i_ib (by omega) (by omega)
  have b2 : sm_ib (nI (i + 2)) sc.1 = true := i_ib (by omega) (by omega)
  have b3 : sm_ib (nI (i + 3)) sc.1 = true := i_ib (by omega) (by omega)
  have b4 : sm_ib (nI (i + 4)) sc.1 = true := i_ib (by omega) (by omega)
  have c0 : (nI i).toNatClampNeg = i := i_cl (by omega)
  have c1 : (nI (i + 1)).toNatClampNeg = i + 1 := i_cl (by omega)
  have c2 : (nI (i + 2)).toNatClampNeg = i + 2 := i_cl (by omega)
  have c3 : (nI (i + 3)).toNatClampNeg = i + 3 := i_cl (by omega)
  have c4 : (nI (i + 4)).toNatClampNeg = i + 4 := i_cl (by omega)
  have lt : ¬ nI sc.1 - 5 < nI i := by
    have h5 : nI sc.1 - 5 = nI (sc.1 - 5) := (Int32.ofNat_sub sc.1 5 (by omega)).symm
    rw [h5, i_lt (by omega) (by omega)]
    omega
  rw [EJ_1, if_neg lt, b0, if_pos rfl, c0, hk, if_neg (show ¬ ((2 : Int32) = 0) by decide), if_neg (show ¬ ((2 : Int32) = 1) by decide), if_pos rfl, e1, e2, e3, e4, b1, if_pos rfl, b2, if_pos rfl, b3, if_pos rfl, b4, if_pos rfl, c1, c2, c3, c4]
theorem L1_unop {sc : Nat × (Nat → Int32)} {i : Nat} (hsc : sc.1 ≤ 2560) (hi : i + 5 ≤ sc.1) (M : sm_M) (hk : sc.2 i &&& 31 = 3) (J : Nat → List sm_v → List sm_v → sm_M → Option sm_R) : LK sc J 1 [.inr (.inr (99, 0, 1)), .inr (.inr (9, 0, 0)), .inr (.inr (10, 0, 0)), .inr (.inr (30, 0, 1)), .inl (nI i)] [] M = J 25 [.inr (.inr (99, 0, 1)), .inr (.inr (9, 0, 0)), .inr (.inr (10, 0, 0)), .inr (.inr (30, 0, 1)), .inl (nI i)] [.inr (.inr (30, 0, 1)), .inl (sc.2 (i + 1)), .inr (.inr (9, 0, 0))] M := by
  have e5 : nI i + 5 = nI (i + 5) := nI_add i 5
  have e1 : nI i + 1 = nI (i + 1) := nI_add i 1
  have e2 : nI i + 2 = nI (i + 2) := nI_add i 2
  have e3 : nI i + 3 = nI (i + 3) := nI_add i 3
  have e4 : nI i + 4 = nI (i + 4) := nI_add i 4
  have b0 : sm_ib (nI i) sc.1 = true := i_ib (by omega) (by omega)
  have b1 : sm_ib (nI (i + 1)) sc.1 = true := i_ib (by omega) (by omega)
  have b2 : sm_ib (nI (i + 2)) sc.1 = true := i_ib (by omega) (by omega)
  have b3 : sm_ib (nI (i + 3)) sc.1 = true := i_ib (by omega) (by omega)
  have b4 : sm_ib (nI (i + 4)) sc.1 = true := i_ib (by omega) (by omega)
  have c0 : (nI i).toNatClampNeg = i := i_cl (by omega)
  have c1 : (nI (i + 1)).toNatClampNeg = i + 1 := i_cl (by omega)
  have c2 : (nI (i + 2)).toNatClampNeg = i + 2 := i_cl (by omega)
  have c3 : (nI (i + 3)).toNatClampNeg = i + 3 := i_cl (by omega)
  have c4 : (nI (i + 4)).toNatClampNeg = i + 4 := i_cl (by omega)
  have lt : ¬ nI sc.1 - 5 < nI i := by
    have h5 : nI sc.1 - 5 = nI (sc.1 - 5) := (Int32.ofNat_sub sc.1 5 (by omega)).symm
    rw [h5, i_lt (by omega) (by omega)]
    omega
  rw [EJ_1, if_neg lt, b0, if_pos rfl, c0, hk, if_neg (show ¬ ((3 : Int32) = 0) by decide), if_neg (show ¬ ((3 : Int32) = 1) by decide), if_neg (show ¬ ((3 : Int32) = 2) by decide), if_pos rfl, e1, b1, if_pos rfl, c1]
theorem L1_check {sc : Nat × (Nat → Int32)} {i : Nat} (hsc : sc.1 ≤ 2560) (hi : i + 5 ≤ sc.1) (M : sm_M) (hk : sc.2 i &&& 31 = 4) (J : Nat → List sm_v → List sm_v → sm_M → Option sm_R) : LK sc J 1 [.inr (.inr (99, 0, 1)), .inr (.inr (9, 0, 0)), .inr (.inr (10, 0, 0)), .inr (.inr (30, 0, 1)), .inl (nI i)] [] M = J 32 [.inr (.inr (99, 0, 1)), .inr (.inr (9, 0, 0)), .inr (.inr (10, 0, 0)), .inr (.inr (30, 0, 1)), .inl (nI i)] [.inr (.inr (30, 0, 1)), .inl (sc.2 (i + 1)), .inr (.inr (9, 0, 0))] M := by
  have e5 : nI i + 5 = nI (i + 5) := nI_add i 5
  have e1 : nI i + 1 = nI (i + 1) := nI_add i 1
  have e2 : nI i + 2 = nI (i + 2) := nI_add i 2
  have e3 : nI i + 3 = nI (i + 3) := nI_add i 3
  have e4 : nI i + 4 = nI (i + 4) := nI_add i 4
  have b0 : sm_ib (nI i) sc.1 = true := i_ib (by omega) (by omega)
  have b1 : sm_ib (nI (i + 1)) sc.1 = true := i_ib (by omega) (by omega)
  have b2 : sm_ib (nI (i + 2)) sc.1 = true := i_ib (by omega) (by omega)
  have b3 : sm_ib (nI (i + 3)) sc.1 = true := i_ib (by omega) (by omega)
  have b4 : sm_ib (nI (i + 4)) sc.1 = true := i_ib (by omega) (by omega)
  have c0 : (nI i).toNatClampNeg = i := i_cl (by omega)
  have c1 : (nI (i + 1)).toNatClampNeg = i + 1 := i_cl (by omega)
  have c2 : (nI (i + 2)).toNatClampNeg = i + 2 := i_cl (by omega)
  have c3 : (nI (i + 3)).toNatClampNeg = i + 3 := i_cl (by omega)
  have c4 : (nI (i + 4)).toNatClampNeg = i + 4 := i_cl (by omega)
  have lt : ¬ nI sc.1 - 5 < nI i := by
    have h5 : nI sc.1 - 5 = nI (sc.1 - 5) := (Int32.ofNat_sub sc.1 5 (by omega)).symm
    rw [h5, i_lt (by omega) (by omega)]
    omega
  rw [EJ_1, if_neg lt, b0, if_pos rfl, c0, hk, if_neg (show ¬ ((4 : Int32) = 0) by decide), if_neg (show ¬ ((4 : Int32) = 1) by decide), if_neg (show ¬ ((4 : Int32) = 2) by decide), if_neg (show ¬ ((4 : Int32) = 3) by decide), if_pos rfl, e1, b1, if_pos rfl, c1]
theorem L1_error {sc : Nat × (Nat → Int32)} {i : Nat} (hsc : sc.1 ≤ 2560) (hi : i + 5 ≤ sc.1) (M : sm_M) (hk : sc.2 i &&& 31 = 5) (J : Nat → List sm_v → List sm_v → sm_M → Option sm_R) : LK sc J 1 [.inr (.inr (99, 0, 1)), .inr (.inr (9, 0, 0)), .inr (.inr (10, 0, 0)), .inr (.inr (30, 0, 1)), .inl (nI i)] [] M = J 39 [.inr (.inr (99, 0, 1)), .inr (.inr (9, 0, 0)), .inr (.inr (10, 0, 0)), .inr (.inr (30, 0, 1)), .inl (nI i)] [.inr (.inr (30, 0, 1)), .inl (sc.2 (i + 1)), .inr (.inr (9, 0, 0))] M := by
  have e5 : nI i + 5 = nI (i + 5) := nI_add i 5
  have e1 : nI i + 1 = nI (i + 1) := nI_add i 1
  have e2 : nI i + 2 = nI (i + 2) := nI_add i 2
  have e3 : nI i + 3 = nI (i + 3) := nI_add i 3
  have e4 : nI i + 4 = nI (i + 4) := nI_add i 4
  have b0 : sm_ib (nI i) sc.1 = true := i_ib (by omega) (by omega)
  have b1 : sm_ib (nI (i + 1)) sc.1 = true := i_ib (by omega) (by omega)
  have b2 : sm_ib (nI (i + 2)) sc.1 = true := i_ib (by omega) (by omega)
  have b3 : sm_ib (nI (i + 3)) sc.1 = true := i_ib (by omega) (by omega)
  have b4 : sm_ib (nI (i + 4)) sc.1 = true := i_ib (by omega) (by omega)
  have c0 : (nI i).toNatClampNeg = i := i_cl (by omega)
  have c1 : (nI (i + 1)).toNatClampNeg = i + 1 := i_cl (by omega)
  have c2 : (nI (i + 2)).toNatClampNeg = i + 2 := i_cl (by omega)
  have c3 : (nI (i + 3)).toNatClampNeg = i + 3 := i_cl (by omega)
  have c4 : (nI (i + 4)).toNatClampNeg = i + 4 := i_cl (by omega)
  have lt : ¬ nI sc.1 - 5 < nI i := by
    have h5 : nI sc.1 - 5 = nI (sc.1 - 5) := (Int32.ofNat_sub sc.1 5 (by omega)).symm
    rw [h5, i_lt (by omega) (by omega)]
    omega
  rw [EJ_1, if_neg lt, b0, if_pos rfl, c0, hk, if_neg (show ¬ ((5 : Int32) = 0) by decide), if_neg (show ¬ ((5 : Int32) = 1) by decide), if_neg (show ¬ ((5 : Int32) = 2) by decide), if_neg (show ¬ ((5 : Int32) = 3) by decide), if_neg (show ¬ ((5 : Int32) = 4) by decide), if_pos rfl, e1, b1, if_pos rfl, c1]
theorem L1_borrower {sc : Nat × (Nat → Int32)} {i : Nat} (hsc : sc.1 ≤ 2560) (hi : i + 5 ≤ sc.1) (M : sm_M) (hk : sc.2 i &&& 31 = 6) (J : Nat → List sm_v → List sm_v → sm_M → Option sm_R) : LK sc J 1 [.inr (.inr (99, 0, 1)), .inr (.inr (9, 0, 0)), .inr (.inr (10, 0, 0)), .inr (.inr (30, 0, 1)), .inl (nI i)] [] M = J 46 [.inr (.inr (99, 0, 1)), .inr (.inr (9, 0, 0)), .inr (.inr (10, 0, 0)), .inr (.inr (30, 0, 1)), .inl (nI i)] [.inr (.inr (30, 0, 1)), .inl (sc.2 (i + 1)), .inr (.inr (9, 0, 0))] M := by
  have e5 : nI i + 5 = nI (i + 5) := nI_add i 5
  have e1 : nI i + 1 = nI (i + 1) := nI_add i 1
  have e2 : nI i + 2 = nI (i + 2) := nI_add i 2
  have e3 : nI i + 3 = nI (i + 3) := nI_add i 3
  have e4 : nI i + 4 = nI (i + 4) := nI_add i 4
  have b0 : sm_ib (nI i) sc.1 = true := i_ib (by omega) (by omega)
  have b1 : sm_ib (nI (i + 1)) sc.1 = true := i_ib (by omega) (by omega)
  have b2 : sm_ib (nI (i + 2)) sc.1 = true := i_ib (by omega) (by omega)
  have b3 : sm_ib (nI (i + 3)) sc.1 = true := i_ib (by omega) (by omega)
  have b4 : sm_ib (nI (i + 4)) sc.1 = true := i_ib (by omega) (by omega)
  have c0 : (nI i).toNatClampNeg = i := i_cl (by omega)
  have c1 : (nI (i + 1)).toNatClampNeg = i + 1 := i_cl (by omega)
  have c2 : (nI (i + 2)).toNatClampNeg = i + 2 := i_cl (by omega)
  have c3 : (nI (i + 3)).toNatClampNeg = i + 3 := i_cl (by omega)
  have c4 : (nI (i + 4)).toNatClampNeg = i + 4 := i_cl (by omega)
  have lt : ¬ nI sc.1 - 5 < nI i := by
    have h5 : nI sc.1 - 5 = nI (sc.1 - 5) := (Int32.ofNat_sub sc.1 5 (by omega)).symm
    rw [h5, i_lt (by omega) (by omega)]
    omega
  rw [EJ_1, if_neg lt, b0, if_pos rfl, c0, hk, if_neg (show ¬ ((6 : Int32) = 0) by decide), if_neg (show ¬ ((6 : Int32) = 1) by decide), if_neg (show ¬ ((6 : Int32) = 2) by decide), if_neg (show ¬ ((6 : Int32) = 3) by decide), if_neg (show ¬ ((6 : Int32) = 4) by decide), if_neg (show ¬ ((6 : Int32) = 5) by decide), if_pos rfl, e1, b1, if_pos rfl, c1]
theorem L1_holds {sc : Nat × (Nat → Int32)} {i : Nat} (hsc : sc.1 ≤ 2560) (hi : i + 5 ≤ sc.1) (M : sm_M) (hk : sc.2 i &&& 31 = 7) (J : Nat → List sm_v → List sm_v → sm_M → Option sm_R) : LK sc J 1 [.inr (.inr (99, 0, 1)), .inr (.inr (9, 0, 0)), .inr (.inr (10, 0, 0)), .inr (.inr (30, 0, 1)), .inl (nI i)] [] M = J 53 [.inr (.inr (99, 0, 1)), .inr (.inr (9, 0, 0)), .inr (.inr (10, 0, 0)), .inr (.inr (30, 0, 1)), .inl (nI i)] [.inr (.inr (30, 0, 1)), .inl (sc.2 (i + 3)), .inl (sc.2 (i + 2)), .inl (sc.2 (i + 1)), .inr (.inr (9, 0, 0))] M := by
  have e5 : nI i + 5 = nI (i + 5) := nI_add i 5
  have e1 : nI i + 1 = nI (i + 1) := nI_add i 1
  have e2 : nI i + 2 = nI (i + 2) := nI_add i 2
  have e3 : nI i + 3 = nI (i + 3) := nI_add i 3
  have e4 : nI i + 4 = nI (i + 4) := nI_add i 4
  have b0 : sm_ib (nI i) sc.1 = true := i_ib (by omega) (by omega)
  have b1 : sm_ib (nI (i + 1)) sc.1 = true := i_ib (by omega) (by omega)
  have b2 : sm_ib (nI (i + 2)) sc.1 = true := i_ib (by omega) (by omega)
  have b3 : sm_ib (nI (i + 3)) sc.1 = true := i_ib (by omega) (by omega)
  have b4 : sm_ib (nI (i + 4)) sc.1 = true := i_ib (by omega) (by omega)
  have c0 : (nI i).toNatClampNeg = i := i_cl (by omega)
  have c1 : (nI (i + 1)).toNatClampNeg = i + 1 := i_cl (by omega)
  have c2 : (nI (i + 2)).toNatClampNeg = i + 2 := i_cl (by omega)
  have c3 : (nI (i + 3)).toNatClampNeg = i + 3 := i_cl (by omega)
  have c4 : (nI (i + 4)).toNatClampNeg = i + 4 := i_cl (by omega)
  have lt : ¬ nI sc.1 - 5 < nI i := by
    have h5 : nI sc.1 - 5 = nI (sc.1 - 5) := (Int32.ofNat_sub sc.1 5 (by omega)).symm
    rw [h5, i_lt (by omega) (by omega)]
    omega
  rw [EJ_1, if_neg lt, b0, if_pos rfl, c0, hk, if_neg (show ¬ ((7 : Int32) = 0) by decide), if_neg (show ¬ ((7 : Int32) = 1) by decide), if_neg (show ¬ ((7 : Int32) = 2) by decide), if_neg (show ¬ ((7 : Int32) = 3) by decide), if_neg (show ¬ ((7 : Int32) = 4) by decide), if_neg (show ¬ ((7 : Int32) = 5) by decide), if_neg (show ¬ ((7 : Int32) = 6) by decide), if_pos rfl, e1, e2, e3, b1, if_pos rfl, b2, if_pos rfl, b3, if_pos rfl, c1, c2, c3]
theorem L1_at {sc : Nat × (Nat → Int32)} {i : Nat} (hsc : sc.1 ≤ 2560) (hi : i + 5 ≤ sc.1) (M : sm_M) (hk : sc.2 i &&& 31 = 8) (J : Nat → List sm_v → List sm_v → sm_M → Option sm_R) : LK sc J 1 [.inr (.inr (99, 0, 1)), .inr (.inr (9, 0, 0)), .inr (.inr (10, 0, 0)), .inr (.inr (30, 0, 1)), .inl (nI i)] [] M = J 60 [.inr (.inr (99, 0, 1)), .inr (.inr (9, 0, 0)), .inr (.inr (10, 0, 0)), .inr (.inr (30, 0, 1)), .inl (nI i)] [.inr (.inr (30, 0, 1)), .inl (sc.2 (i + 3)), .inl (sc.2 (i + 2)), .inl (sc.2 (i + 1)), .inr (.inr (9, 0, 0))] M := by
  have e5 : nI i + 5 = nI (i + 5) := nI_add i 5
  have e1 : nI i + 1 = nI (i + 1) := nI_add i 1
  have e2 : nI i + 2 = nI (i + 2) := nI_add i 2
  have e3 : nI i + 3 = nI (i + 3) := nI_add i 3
  have e4 : nI i + 4 = nI (i + 4) := nI_add i 4
  have b0 : sm_ib (nI i) sc.1 = true := i_ib (by omega) (by omega)
  have b1 : sm_ib (nI (i + 1)) sc.1 = true := i_ib (by omega) (by omega)
  have b2 : sm_ib (nI (i + 2)) sc.1 = true := i_ib (by omega) (by omega)
  have b3 : sm_ib (nI (i + 3)) sc.1 = true := i_ib (by omega) (by omega)
  have b4 : sm_ib (nI (i + 4)) sc.1 = true := i_ib (by omega) (by omega)
  have c0 : (nI i).toNatClampNeg = i := i_cl (by omega)
  have c1 : (nI (i + 1)).toNatClampNeg = i + 1 := i_cl (by omega)
  have c2 : (nI (i + 2)).toNatClampNeg = i + 2 := i_cl (by omega)
  have c3 : (nI (i + 3)).toNatClampNeg = i + 3 := i_cl (by omega)
  have c4 : (nI (i + 4)).toNatClampNeg = i + 4 := i_cl (by omega)
  have lt : ¬ nI sc.1 - 5 < nI i := by
    have h5 : nI sc.1 - 5 = nI (sc.1 - 5) := (Int32.ofNat_sub sc.1 5 (by omega)).symm
    rw [h5, i_lt (by omega) (by omega)]
    omega
  rw [EJ_1, if_neg lt, b0, if_pos rfl, c0, hk, if_neg (show ¬ ((8 : Int32) = 0) by decide), if_neg (show ¬ ((8 : Int32) = 1) by decide), if_neg (show ¬ ((8 : Int32) = 2) by decide), if_neg (show ¬ ((8 : Int32) = 3) by decide), if_neg (show ¬ ((8 : Int32) = 4) by decide), if_neg (show ¬ ((8 : Int32) = 5) by decide), if_neg (show ¬ ((8 : Int32) = 6) by decide), if_neg (show ¬ ((8 : Int32) = 7) by decide), if_pos rfl, e1, e2, e3, b1, if_pos rfl, b2, if_pos rfl, b3, if_pos rfl, c1, c2, c3]
theorem L1_lives {sc : Nat × (Nat → Int32)} {i : Nat} (hsc : sc.1 ≤ 2560) (hi : i + 5 ≤ sc.1) (M : sm_M) (hk : sc.2 i &&& 31 = 9) (J : Nat → List sm_v → List sm_v → sm_M → Option sm_R) : LK sc J 1 [.inr (.inr (99, 0, 1)), .inr (.inr (9, 0, 0)), .inr (.inr (10, 0, 0)), .inr (.inr (30, 0, 1)), .inl (nI i)] [] M = J 67 [.inr (.inr (99, 0, 1)), .inr (.inr (9, 0, 0)), .inr (.inr (10, 0, 0)), .inr (.inr (30, 0, 1)), .inl (nI i)] [.inr (.inr (30, 0, 1)), .inl (sc.2 (i + 2)), .inl (sc.2 (i + 1)), .inr (.inr (9, 0, 0))] M := by
  have e5 : nI i + 5 = nI (i + 5) := nI_add i 5
  have e1 : nI i + 1 = nI (i + 1) := nI_add i 1
  have e2 : nI i + 2 = nI (i + 2) := nI_add i 2
  have e3 : nI i + 3 = nI (i + 3) := nI_add i 3
  have e4 : nI i + 4 = nI (i + 4) := nI_add i 4
  have b0 : sm_ib (nI i) sc.1 = true := i_ib (by omega) (by omega)
  have b1 : sm_ib (nI (i + 1)) sc.1 = true := i_ib (by omega) (by omega)
  have b2 : sm_ib (nI (i + 2)) sc.1 = true := i_ib (by omega) (by omega)
  have b3 : sm_ib (nI (i + 3)) sc.1 = true := i_ib (by omega) (by omega)
  have b4 : sm_ib (nI (i + 4)) sc.1 = true := i_ib (by omega) (by omega)
  have c0 : (nI i).toNatClampNeg = i := i_cl (by omega)
  have c1 : (nI (i + 1)).toNatClampNeg = i + 1 := i_cl (by omega)
  have c2 : (nI (i + 2)).toNatClampNeg = i + 2 := i_cl (by omega)
  have c3 : (nI (i + 3)).toNatClampNeg = i + 3 := i_cl (by omega)
  have c4 : (nI (i + 4)).toNatClampNeg = i + 4 := i_cl (by omega)
  have lt : ¬ nI sc.1 - 5 < nI i := by
    have h5 : nI sc.1 - 5 = nI (sc.1 - 5) := (Int32.ofNat_sub sc.1 5 (by omega)).symm
    rw [h5, i_lt (by omega) (by omega)]
    omega
  rw [EJ_1, if_neg lt, b0, if_pos rfl, c0, hk, if_neg (show ¬ ((9 : Int32) = 0) by decide), if_neg (show ¬ ((9 : Int32) = 1) by decide), if_neg (show ¬ ((9 : Int32) = 2) by decide), if_neg (show ¬ ((9 : Int32) = 3) by decide), if_neg (show ¬ ((9 : Int32) = 4) by decide), if_neg (show ¬ ((9 : Int32) = 5) by decide), if_neg (show ¬ ((9 : Int32) = 6) by decide), if_neg (show ¬ ((9 : Int32) = 7) by decide), if_neg (show ¬ ((9 : Int32) = 8) by decide), if_pos rfl, e1, e2, b1, if_pos rfl, b2, if_pos rfl, c1, c2]
theorem L1_stuck {sc : Nat × (Nat → Int32)} {i : Nat} (hsc : sc.1 ≤ 2560) (hi : i + 5 ≤ sc.1) (M : sm_M) (hk : sc.2 i &&& 31 = 10) (J : Nat → List sm_v → List sm_v → sm_M → Option sm_R) : LK sc J 1 [.inr (.inr (99, 0, 1)), .inr (.inr (9, 0, 0)), .inr (.inr (10, 0, 0)), .inr (.inr (30, 0, 1)), .inl (nI i)] [] M = J 74 [.inr (.inr (99, 0, 1)), .inr (.inr (9, 0, 0)), .inr (.inr (10, 0, 0)), .inr (.inr (30, 0, 1)), .inl (nI i)] [.inr (.inr (30, 0, 1)), .inr (.inr (9, 0, 0))] M := by
  have e5 : nI i + 5 = nI (i + 5) := nI_add i 5
  have e1 : nI i + 1 = nI (i + 1) := nI_add i 1
  have e2 : nI i + 2 = nI (i + 2) := nI_add i 2
  have e3 : nI i + 3 = nI (i + 3) := nI_add i 3
  have e4 : nI i + 4 = nI (i + 4) := nI_add i 4
  have b0 : sm_ib (nI i) sc.1 = true := i_ib (by omega) (by omega)
  have b1 : sm_ib (nI (i + 1)) sc.1 = true := i_ib (by omega) (by omega)
  have b2 : sm_ib (nI (i + 2)) sc.1 = true := i_ib (by omega) (by omega)
  have b3 : sm_ib (nI (i + 3)) sc.1 = true := i_ib (by omega) (by omega)
  have b4 : sm_ib (nI (i + 4)) sc.1 = true := i_ib (by omega) (by omega)
  have c0 : (nI i).toNatClampNeg = i := i_cl (by omega)
  have c1 : (nI (i + 1)).toNatClampNeg = i + 1 := i_cl (by omega)
  have c2 : (nI (i + 2)).toNatClampNeg = i + 2 := i_cl (by omega)
  have c3 : (nI (i + 3)).toNatClampNeg = i + 3 := i_cl (by omega)
  have c4 : (nI (i + 4)).toNatClampNeg = i + 4 := i_cl (by omega)
  have lt : ¬ nI sc.1 - 5 < nI i := by
    have h5 : nI sc.1 - 5 = nI (sc.1 - 5) := (Int32.ofNat_sub sc.1 5 (by omega)).symm
    rw [h5, i_lt (by omega) (by omega)]
    omega
  rw [EJ_1, if_neg lt, b0, if_pos rfl, c0, hk, if_neg (show ¬ ((10 : Int32) = 0) by decide), if_neg (show ¬ ((10 : Int32) = 1) by decide), if_neg (show ¬ ((10 : Int32) = 2) by decide), if_neg (show ¬ ((10 : Int32) = 3) by decide), if_neg (show ¬ ((10 : Int32) = 4) by decide), if_neg (show ¬ ((10 : Int32) = 5) by decide), if_neg (show ¬ ((10 : Int32) = 6) by decide), if_neg (show ¬ ((10 : Int32) = 7) by decide), if_neg (show ¬ ((10 : Int32) = 8) by decide), if_neg (show ¬ ((10 : Int32) = 9) by decide), if_pos rfl]
theorem L1_begin {sc : Nat × (Nat → Int32)} {i : Nat} (hsc : sc.1 ≤ 2560) (hi : i + 5 ≤ sc.1) {M : sm_M} {a : Nat → Nat → Int32} (g : GI a M (40 * i)) (hk : sc.2 i &&& 31 = 11) : ∃ N1 b, GI b N1 (40 * (i + 5)) ∧ ∀ J, LK sc J 1 [.inr (.inr (99, 0, 1)), .inr (.inr (9, 0, 0)), .inr (.inr (10, 0, 0)), .inr (.inr (30, 0, 1)), .inl (nI i)] [] M = J 1 [.inr (.inr (99, 0, 1)), .inr (.inr (9, 0, 0)), .inr (.inr (10, 0, 0)), .inr (.inr (30, 0, 1)), .inl (nI (i + 5))] [] N1 := by
  have hB : 40 * i ≤ 40 * (i + 5) := by omega
  have e5 : nI i + 5 = nI (i + 5) := nI_add i 5
  have e1 : nI i + 1 = nI (i + 1) := nI_add i 1
  have e2 : nI i + 2 = nI (i + 2) := nI_add i 2
  have e3 : nI i + 3 = nI (i + 3) := nI_add i 3
  have e4 : nI i + 4 = nI (i + 4) := nI_add i 4
  have b0 : sm_ib (nI i) sc.1 = true := i_ib (by omega) (by omega)
  have b1 : sm_ib (nI (i + 1)) sc.1 = true := i_ib (by omega) (by omega)
  have b2 : sm_ib (nI (i + 2)) sc.1 = true := i_ib (by omega) (by omega)
  have b3 : sm_ib (nI (i + 3)) sc.1 = true := i_ib (by omega) (by omega)
  have b4 : sm_ib (nI (i + 4)) sc.1 = true := i_ib (by omega) (by omega)
  have c0 : (nI i).toNatClampNeg = i := i_cl (by omega)
  have c1 : (nI (i + 1)).toNatClampNeg = i + 1 := i_cl (by omega)
  have c2 : (nI (i + 2)).toNatClampNeg = i + 2 := i_cl (by omega)
  have c3 : (nI (i + 3)).toNatClampNeg = i + 3 := i_cl (by omega)
  have c4 : (nI (i + 4)).toNatClampNeg = i + 4 := i_cl (by omega)
  have lt : ¬ nI sc.1 - 5 < nI i := by
    have h5 : nI sc.1 - 5 = nI (sc.1 - 5) := (Int32.ofNat_sub sc.1 5 (by omega)).symm
    rw [h5, i_lt (by omega) (by omega)]
    omega
  obtain ⟨e, x, Mc, h1, h2⟩ := GSM_m (SIR_G g (S_begin (sc := sc) g.1 g.2.1)) hB
  obtain rfl : e = 0 := ex_begin h1
  obtain ⟨y, N1, q1, q2, q3, b, q4⟩ := h2 Mc (fun _ _ => ⟨rfl, rfl⟩)
  dsimp only at q1
  refine ⟨N1, b, q4, fun J => ?_⟩
  rw [EJ_1, if_neg lt, b0, if_pos rfl, c0, hk, if_neg (show ¬ ((11 : Int32) = 0) by decide), if_neg (show ¬ ((11 : Int32) = 1) by decide), if_neg (show ¬ ((11 : Int32) = 2) by decide), if_neg (show ¬ ((11 : Int32) = 3) by decide), if_neg (show ¬ ((11 : Int32) = 4) by decide), if_neg (show ¬ ((11 : Int32) = 5) by decide), if_neg (show ¬ ((11 : Int32) = 6) by decide), if_neg (show ¬ ((11 : Int32) = 7) by decide), if_neg (show ¬ ((11 : Int32) = 8) by decide), if_neg (show ¬ ((11 : Int32) = 9) by decide), if_neg (show ¬ ((11 : Int32) = 10) by decide), if_pos rfl, h1, r0_s, q1, r0_s, e5]
theorem L1_go {sc : Nat × (Nat → Int32)} {i : Nat} (hsc : sc.1 ≤ 2560) (hi : i + 5 ≤ sc.1) (M : sm_M) (hk : sc.2 i &&& 31 = 12) (J : Nat → List sm_v → List sm_v → sm_M → Option sm_R) : LK sc J 1 [.inr (.inr (99, 0, 1)), .inr (.inr (9, 0, 0)), .inr (.inr (10, 0, 0)), .inr (.inr (30, 0, 1)), .inl (nI i)] [] M = J 85 [.inr (.inr (99, 0, 1)), .inr (.inr (9, 0, 0)), .inr (.inr (10, 0, 0)), .inr (.inr (30, 0, 1)), .inl (nI i)] [.inr (.inr (30, 0, 1)), .inl (bI (!decide (sc.2 (i + 2) = 0))), .inl (sc.2 (i + 1)), .inr (.inr (9, 0, 0))] M := by
  have e5 : nI i + 5 = nI (i + 5) := nI_add i 5
  have e1 : nI i + 1 = nI (i + 1) := nI_add i 1
  have e2 : nI i + 2 = nI (i + 2) := nI_add i 2
  have e3 : nI i + 3 = nI (i + 3) := nI_add i 3
  have e4 : nI i + 4 = nI (i + 4) := nI_add i 4
  have b0 : sm_ib (nI i) sc.1 = true := i_ib (by omega) (by omega)
  have b1 : sm_ib (nI (i + 1)) sc.1 = true := i_ib (by omega) (by omega)
  have b2 : sm_ib (nI (i + 2)) sc.1 = true := i_ib (by omega) (by omega)
  have b3 : sm_ib (nI (i + 3)) sc.1 = true := i_ib (by omega) (by omega)
  have b4 : sm_ib (nI (i + 4)) sc.1 = true := i_ib (by omega) (by omega)
  have c0 : (nI i).toNatClampNeg = i := i_cl (by omega)
  have c1 : (nI (i + 1)).toNatClampNeg = i + 1 := i_cl (by omega)
  have c2 : (nI (i + 2)).toNatClampNeg = i + 2 := i_cl (by omega)
  have c3 : (nI (i + 3)).toNatClampNeg = i + 3 := i_cl (by omega)
  have c4 : (nI (i + 4)).toNatClampNeg = i + 4 := i_cl (by omega)
  have lt : ¬ nI sc.1 - 5 < nI i := by
    have h5 : nI sc.1 - 5 = nI (sc.1 - 5) := (Int32.ofNat_sub sc.1 5 (by omega)).symm
    rw [h5, i_lt (by omega) (by omega)]
    omega
  rw [EJ_1, if_neg lt, b0, if_pos rfl, c0, hk, if_neg (show ¬ ((12 : Int32) = 0) by decide), if_neg (show ¬ ((12 : Int32) = 1) by decide), if_neg (show ¬ ((12 : Int32) = 2) by decide), if_neg (show ¬ ((12 : Int32) = 3) by decide), if_neg (show ¬ ((12 : Int32) = 4) by decide), if_neg (show ¬ ((12 : Int32) = 5) by decide), if_neg (show ¬ ((12 : Int32) = 6) by decide), if_neg (show ¬ ((12 : Int32) = 7) by decide), if_neg (show ¬ ((12 : Int32) = 8) by decide), if_neg (show ¬ ((12 : Int32) = 9) by decide), if_neg (show ¬ ((12 : Int32) = 10) by decide), if_neg (show ¬ ((12 : Int32) = 11) by decide), if_pos rfl, e1, e2, b1, if_pos rfl, b2, if_pos rfl, c2, c1]
  by_cases z : sc.2 (i + 2) = 0
  · rw [if_pos z, decide_eq_true z]; rfl
  · rw [if_neg z, decide_eq_false z]; rfl
theorem L1_run {sc : Nat × (Nat → Int32)} {i : Nat} (hsc : sc.1 ≤ 2560) (hi : i + 5 ≤ sc.1) (M : sm_M) (hk : sc.2 i &&& 31 = 13) (J : Nat → List sm_v → List sm_v → sm_M → Option sm_R) : LK sc J 1 [.inr (.inr (99, 0, 1)), .inr (.inr (9, 0, 0)), .inr (.inr (10, 0, 0)), .inr (.inr (30, 0, 1)), .inl (nI i)] [] M = J 98 [.inr (.inr (99, 0, 1)), .inr (.inr (9, 0, 0)), .inr (.inr (10, 0, 0)), .inr (.inr (30, 0, 1)), .inl (nI i)] [.inr (.inr (30, 0, 1)), .inl (sc.2 (i + 2)), .inl (sc.2 (i + 1)), .inr (.inr (9, 0, 0))] M := by
  have e5 : nI i + 5 = nI (i + 5) := nI_add i 5
  have e1 : nI i + 1 = nI (i + 1) := nI_add i 1
  have e2 : nI i + 2 = nI (i + 2) := nI_add i 2
  have e3 : nI i + 3 = nI (i + 3) := nI_add i 3
  have e4 : nI i + 4 = nI (i + 4) := nI_add i 4
  have b0 : sm_ib (nI i) sc.1 = true := i_ib (by omega) (by omega)
  have b1 : sm_ib (nI (i + 1)) sc.1 = true := i_ib (by omega) (by omega)
  have b2 : sm_ib (nI (i + 2)) sc.1 = true := i_ib (by omega) (by omega)
  have b3 : sm_ib (nI (i + 3)) sc.1 = true := i_ib (by omega) (by omega)
  have b4 : sm_ib (nI (i + 4)) sc.1 = true := i_ib (by omega) (by omega)
  have c0 : (nI i).toNatClampNeg = i := i_cl (by omega)
  have c1 : (nI (i + 1)).toNatClampNeg = i + 1 := i_cl (by omega)
  have c2 : (nI (i + 2)).toNatClampNeg = i + 2 := i_cl (by omega)
  have c3 : (nI (i + 3)).toNatClampNeg = i + 3 := i_cl (by omega)
  have c4 : (nI (i + 4)).toNatClampNeg = i + 4 := i_cl (by omega)
  have lt : ¬ nI sc.1 - 5 < nI i := by
    have h5 : nI sc.1 - 5 = nI (sc.1 - 5) := (Int32.ofNat_sub sc.1 5 (by omega)).symm
    rw [h5, i_lt (by omega) (by omega)]
    omega
  rw [EJ_1, if_neg lt, b0, if_pos rfl, c0, hk, if_neg (show ¬ ((13 : Int32) = 0) by decide), if_neg (show ¬ ((13 : Int32) = 1) by decide), if_neg (show ¬ ((13 : Int32) = 2) by decide), if_neg (show ¬ ((13 : Int32) = 3) by decide), if_neg (show ¬ ((13 : Int32) = 4) by decide), if_neg (show ¬ ((13 : Int32) = 5) by decide), if_neg (show ¬ ((13 : Int32) = 6) by decide), if_neg (show ¬ ((13 : Int32) = 7) by decide), if_neg (show ¬ ((13 : Int32) = 8) by decide), if_neg (show ¬ ((13 : Int32) = 9) by decide), if_neg (show ¬ ((13 : Int32) = 10) by decide), if_neg (show ¬ ((13 : Int32) = 11) by decide), if_neg (show ¬ ((13 : Int32) = 12) by decide), if_pos rfl, e1, e2, b1, if_pos rfl, b2, if_pos rfl, c1, c2]
theorem L1_state {sc : Nat × (Nat → Int32)} {i : Nat} (hsc : sc.1 ≤ 2560) (hi : i + 5 ≤ sc.1) (M : sm_M) (hk : sc.2 i &&& 31 = 14) (J : Nat → List sm_v → List sm_v → sm_M → Option sm_R) : LK sc J 1 [.inr (.inr (99, 0, 1)), .inr (.inr (9, 0, 0)), .inr (.inr (10, 0, 0)), .inr (.inr (30, 0, 1)), .inl (nI i)] [] M = J 105 [.inr (.inr (99, 0, 1)), .inr (.inr (9, 0, 0)), .inr (.inr (10, 0, 0)), .inr (.inr (30, 0, 1)), .inl (nI i)] [.inr (.inr (30, 0, 1)), .inl (sc.2 (i + 1)), .inr (.inr (9, 0, 0))] M := by
  have e5 : nI i + 5 = nI (i + 5) := nI_add i 5
  have e1 : nI i + 1 = nI (i + 1) := nI_add i 1
  have e2 : nI i + 2 = nI (i + 2) := nI_add i 2
  have e3 : nI i + 3 = nI (i + 3) := nI_add i 3
  have e4 : nI i + 4 = nI (i + 4) := nI_add i 4
  have b0 : sm_ib (nI i) sc.1 = true := i_ib (by omega) (by omega)
  have b1 : sm_ib (nI (i + 1)) sc.1 = true := i_ib (by omega) (by omega)
  have b2 : sm_ib (nI (i + 2)) sc.1 = true := i_ib (by omega) (by omega)
  have b3 : sm_ib (nI (i + 3)) sc.1 = true := i_ib (by omega) (by omega)
  have b4 : sm_ib (nI (i + 4)) sc.1 = true := i_ib (by omega) (by omega)
  have c0 : (nI i).toNatClampNeg = i := i_cl (by omega)
  have c1 : (nI (i + 1)).toNatClampNeg = i + 1 := i_cl (by omega)
  have c2 : (nI (i + 2)).toNatClampNeg = i + 2 := i_cl (by omega)
  have c3 : (nI (i + 3)).toNatClampNeg = i + 3 := i_cl (by omega)
  have c4 : (nI (i + 4)).toNatClampNeg = i + 4 := i_cl (by omega)
  have lt : ¬ nI sc.1 - 5 < nI i := by
    have h5 : nI sc.1 - 5 = nI (sc.1 - 5) := (Int32.ofNat_sub sc.1 5 (by omega)).symm
    rw [h5, i_lt (by omega) (by omega)]
    omega
  rw [EJ_1, if_neg lt, b0, if_pos rfl, c0, hk, if_neg (show ¬ ((14 : Int32) = 0) by decide), if_neg (show ¬ ((14 : Int32) = 1) by decide), if_neg (show ¬ ((14 : Int32) = 2) by decide), if_neg (show ¬ ((14 : Int32) = 3) by decide), if_neg (show ¬ ((14 : Int32) = 4) by decide), if_neg (show ¬ ((14 : Int32) = 5) by decide), if_neg (show ¬ ((14 : Int32) = 6) by decide), if_neg (show ¬ ((14 : Int32) = 7) by decide), if_neg (show ¬ ((14 : Int32) = 8) by decide), if_neg (show ¬ ((14 : Int32) = 9) by decide), if_neg (show ¬ ((14 : Int32) = 10) by decide), if_neg (show ¬ ((14 : Int32) = 11) by decide), if_neg (show ¬ ((14 : Int32) = 12) by decide), if_neg (show ¬ ((14 : Int32) = 13) by decide), if_pos rfl, e1, b1, if_pos rfl, c1]
theorem L1_fault {sc : Nat × (Nat → Int32)} {i : Nat} (hsc : sc.1 ≤ 2560) (hi : i + 5 ≤ sc.1) (M : sm_M) (hk : sc.2 i &&& 31 = 15) (J : Nat → List sm_v → List sm_v → sm_M → Option sm_R) : LK sc J 1 [.inr (.inr (99, 0, 1)), .inr (.inr (9, 0, 0)), .inr (.inr (10, 0, 0)), .inr (.inr (30, 0, 1)), .inl (nI i)] [] M = J 112 [.inr (.inr (99, 0, 1)), .inr (.inr (9, 0, 0)), .inr (.inr (10, 0, 0)), .inr (.inr (30, 0, 1)), .inl (nI i)] [.inr (.inr (30, 0, 1)), .inl (sc.2 (i + 1)), .inr (.inr (9, 0, 0))] M := by
  have e5 : nI i + 5 = nI (i + 5) := nI_add i 5
  have e1 : nI i + 1 = nI (i + 1) := nI_add i 1
  have e2 : nI i + 2 = nI (i + 2) := nI_add i 2
  have e3 : nI i + 3 = nI (i + 3) := nI_add i 3
  have e4 : nI i + 4 = nI (i + 4) := nI_add i 4
  have b0 : sm_ib (nI i) sc.1 = true := i_ib (by omega) (by omega)
  have b1 : sm_ib (nI (i + 1)) sc.1 = true := i_ib (by omega) (by omega)
  have b2 : sm_ib (nI (i + 2)) sc.1 = true := i_ib (by omega) (by omega)
  have b3 : sm_ib (nI (i + 3)) sc.1 = true := i_ib (by omega) (by omega)
  have b4 : sm_ib (nI (i + 4)) sc.1 = true := i_ib (by omega) (by omega)
  have c0 : (nI i).toNatClampNeg = i := i_cl (by omega)
  have c1 : (nI (i + 1)).toNatClampNeg = i + 1 := i_cl (by omega)
  have c2 : (nI (i + 2)).toNatClampNeg = i + 2 := i_cl (by omega)
  have c3 : (nI (i + 3)).toNatClampNeg = i + 3 := i_cl (by omega)
  have c4 : (nI (i + 4)).toNatClampNeg = i + 4 := i_cl (by omega)
  have lt : ¬ nI sc.1 - 5 < nI i := by
    have h5 : nI sc.1 - 5 = nI (sc.1 - 5) := (Int32.ofNat_sub sc.1 5 (by omega)).symm
    rw [h5, i_lt (by omega) (by omega)]
    omega
  rw [EJ_1, if_neg lt, b0, if_pos rfl, c0, hk, if_neg (show ¬ ((15 : Int32) = 0) by decide), if_neg (show ¬ ((15 : Int32) = 1) by decide), if_neg (show ¬ ((15 : Int32) = 2) by decide), if_neg (show ¬ ((15 : Int32) = 3) by decide), if_neg (show ¬ ((15 : Int32) = 4) by decide), if_neg (show ¬ ((15 : Int32) = 5) by decide), if_neg (show ¬ ((15 : Int32) = 6) by decide), if_neg (show ¬ ((15 : Int32) = 7) by decide), if_neg (show ¬ ((15 : Int32) = 8) by decide), if_neg (show ¬ ((15 : Int32) = 9) by decide), if_neg (show ¬ ((15 : Int32) = 10) by decide), if_neg (show ¬ ((15 : Int32) = 11) by decide), if_neg (show ¬ ((15 : Int32) = 12) by decide), if_neg (show ¬ ((15 : Int32) = 13) by decide), if_neg (show ¬ ((15 : Int32) = 14) by decide), if_pos rfl, e1, b1, if_pos rfl, c1]
theorem L1_place {sc : Nat × (Nat → Int32)} {i : Nat} (hsc : sc.1 ≤ 2560) (hi : i + 5 ≤ sc.1) (M : sm_M) (hk : sc.2 i &&& 31 = 16) (J : Nat → List sm_v → List sm_v → sm_M → Option sm_R) : LK sc J 1 [.inr (.inr (99, 0, 1)), .inr (.inr (9, 0, 0)), .inr (.inr (10, 0, 0)), .inr (.inr (30, 0, 1)), .inl (nI i)] [] M = J 119 [.inr (.inr (99, 0, 1)), .inr (.inr (9, 0, 0)), .inr (.inr (10, 0, 0)), .inr (.inr (30, 0, 1)), .inl (nI i)] [.inr (.inr (30, 0, 1)), .inl (sc.2 (i + 1)), .inr (.inr (9, 0, 0))] M := by
  have e5 : nI i + 5 = nI (i + 5) := nI_add i 5
  have e1 : nI i + 1 = nI (i + 1) := nI_add i 1
  have e2 : nI i + 2 = nI (i + 2) := nI_add i 2
  have e3 : nI i + 3 = nI (i + 3) := nI_add i 3
  have e4 : nI i + 4 = nI (i + 4) := nI_add i 4
  have b0 : sm_ib (nI i) sc.1 = true := i_ib (by omega) (by omega)
  have b1 : sm_ib (nI (i + 1)) sc.1 = true := i_ib (by omega) (by omega)
  have b2 : sm_ib (nI (i + 2)) sc.1 = true := i_ib (by omega) (by omega)
  have b3 : sm_ib (nI (i + 3)) sc.1 = true := i_ib (by omega) (by omega)
  have b4 : sm_ib (nI (i + 4)) sc.1 = true := i_ib (by omega) (by omega)
  have c0 : (nI i).toNatClampNeg = i := i_cl (by omega)
  have c1 : (nI (i + 1)).toNatClampNeg = i + 1 := i_cl (by omega)
  have c2 : (nI (i + 2)).toNatClampNeg = i + 2 := i_cl (by omega)
  have c3 : (nI (i + 3)).toNatClampNeg = i + 3 := i_cl (by omega)
  have c4 : (nI (i + 4)).toNatClampNeg = i + 4 := i_cl (by omega)
  have lt : ¬ nI sc.1 - 5 < nI i := by
    have h5 : nI sc.1 - 5 = nI (sc.1 - 5) := (Int32.ofNat_sub sc.1 5 (by omega)).symm
    rw [h5, i_lt (by omega) (by omega)]
    omega
  rw [EJ_1, if_neg lt, b0, if_pos rfl, c0, hk, if_neg (show ¬ ((16 : Int32) = 0) by decide), if_neg (show ¬ ((16 : Int32) = 1) by decide), if_neg (show ¬ ((16 : Int32) = 2) by decide), if_neg (show ¬ ((16 : Int32) = 3) by decide), if_neg (show ¬ ((16 : Int32) = 4) by decide), if_neg (show ¬ ((16 : Int32) = 5) by decide), if_neg (show ¬ ((16 : Int32) = 6) by decide), if_neg (show ¬ ((16 : Int32) = 7) by decide), if_neg (show ¬ ((16 : Int32) = 8) by decide), if_neg (show ¬ ((16 : Int32) = 9) by decide), if_neg (show ¬ ((16 : Int32) = 10) by decide), if_neg (show ¬ ((16 : Int32) = 11) by decide), if_neg (show ¬ ((16 : Int32) = 12) by decide), if_neg (show ¬ ((16 : Int32) = 13) by decide), if_neg (show ¬ ((16 : Int32) = 14) by decide), if_neg (show ¬ ((16 : Int32) = 15) by decide), if_pos rfl, e1, b1, if_pos rfl, c1]
theorem L1_value {sc : Nat × (Nat → Int32)} {i : Nat} (hsc : sc.1 ≤ 2560) (hi : i + 5 ≤ sc.1) (M : sm_M) (hk : sc.2 i &&& 31 = 17) (J : Nat → List sm_v → List sm_v → sm_M → Option sm_R) : LK sc J 1 [.inr (.inr (99, 0, 1)), .inr (.inr (9, 0, 0)), .inr (.inr (10, 0, 0)), .inr (.inr (30, 0, 1)), .inl (nI i)] [] M = J 126 [.inr (.inr (99, 0, 1)), .inr (.inr (9, 0, 0)), .inr (.inr (10, 0, 0)), .inr (.inr (30, 0, 1)), .inl (nI i)] [.inr (.inr (30, 0, 1)), .inl (sc.2 (i + 2)), .inl (sc.2 (i + 1)), .inr (.inr (9, 0, 0))] M := by
  have e5 : nI i + 5 = nI (i + 5) := nI_add i 5
  have e1 : nI i + 1 = nI (i + 1) := nI_add i 1
  have e2 : nI i + 2 = nI (i + 2) := nI_add i 2
  have e3 : nI i + 3 = nI (i + 3) := nI_add i 3
  have e4 : nI i + 4 = nI (i + 4) := nI_add i 4
  have b0 : sm_ib (nI i) sc.1 = true := i_ib (by omega) (by omega)
  have b1 : sm_ib (nI (i + 1)) sc.1 = true := i_ib (by omega) (by omega)
  have b2 : sm_ib (nI (i + 2)) sc.1 = true := i_ib (by omega) (by omega)
  have b3 : sm_ib (nI (i + 3)) sc.1 = true := i_ib (by omega) (by omega)
  have b4 : sm_ib (nI (i + 4)) sc.1 = true := i_ib (by omega) (by omega)
  have c0 : (nI i).toNatClampNeg = i := i_cl (by omega)
  have c1 : (nI (i + 1)).toNatClampNeg = i + 1 := i_cl (by omega)
  have c2 : (nI (i + 2)).toNatClampNeg = i + 2 := i_cl (by omega)
  have c3 : (nI (i + 3)).toNatClampNeg = i + 3 := i_cl (by omega)
  have c4 : (nI (i + 4)).toNatClampNeg = i + 4 := i_cl (by omega)
  have lt : ¬ nI sc.1 - 5 < nI i := by
    have h5 : nI sc.1 - 5 = nI (sc.1 - 5) := (Int32.ofNat_sub sc.1 5 (by omega)).symm
    rw [h5, i_lt (by omega) (by omega)]
    omega
  rw [EJ_1, if_neg lt, b0, if_pos rfl, c0, hk, if_neg (show ¬ ((17 : Int32) = 0) by decide), if_neg (show ¬ ((17 : Int32) = 1) by decide), if_neg (show ¬ ((17 : Int32) = 2) by decide), if_neg (show ¬ ((17 : Int32) = 3) by decide), if_neg (show ¬ ((17 : Int32) = 4) by decide), if_neg (show ¬ ((17 : Int32) = 5) by decide), if_neg (show ¬ ((17 : Int32) = 6) by decide), if_neg (show ¬ ((17 : Int32) = 7) by decide), if_neg (show ¬ ((17 : Int32) = 8) by decide), if_neg (show ¬ ((17 : Int32) = 9) by decide), if_neg (show ¬ ((17 : Int32) = 10) by decide), if_neg (show ¬ ((17 : Int32) = 11) by decide), if_neg (show ¬ ((17 : Int32) = 12) by decide), if_neg (show ¬ ((17 : Int32) = 13) by decide), if_neg (show ¬ ((17 : Int32) = 14) by decide), if_neg (show ¬ ((17 : Int32) = 15) by decide), if_neg (show ¬ ((17 : Int32) = 16) by decide), if_pos rfl, e1, e2, b1, if_pos rfl, b2, if_pos rfl, c1, c2]
theorem L1_waiting {sc : Nat × (Nat → Int32)} {i : Nat} (hsc : sc.1 ≤ 2560) (hi : i + 5 ≤ sc.1) (M : sm_M) (hk : sc.2 i &&& 31 = 18) (J : Nat → List sm_v → List sm_v → sm_M → Option sm_R) : LK sc J 1 [.inr (.inr (99, 0, 1)), .inr (.inr (9, 0, 0)), .inr (.inr (10, 0, 0)), .inr (.inr (30, 0, 1)), .inl (nI i)] [] M = J 133 [.inr (.inr (99, 0, 1)), .inr (.inr (9, 0, 0)), .inr (.inr (10, 0, 0)), .inr (.inr (30, 0, 1)), .inl (nI i)] [.inr (.inr (30, 0, 1)), .inl (sc.2 (i + 2)), .inl (sc.2 (i + 1)), .inr (.inr (9, 0, 0))] M := by
  have e5 : nI i + 5 = nI (i + 5) := nI_add i 5
  have e1 : nI i + 1 = nI (i + 1) := nI_add i 1
  have e2 : nI i + 2 = nI (i + 2) := nI_add i 2
  have e3 : nI i + 3 = nI (i + 3) := nI_add i 3
  have e4 : nI i + 4 = nI (i + 4) := nI_add i 4
  have b0 : sm_ib (nI i) sc.1 = true := i_ib (by omega) (by omega)
  have b1 : sm_ib (nI (i + 1)) sc.1 = true := i_ib (by omega) (by omega)
  have b2 : sm_ib (nI (i + 2)) sc.1 = true := i_ib (by omega) (by omega)
  have b3 : sm_ib (nI (i + 3)) sc.1 = true := i_ib (by omega) (by omega)
  have b4 : sm_ib (nI (i + 4)) sc.1 = true := i_ib (by omega) (by omega)
  have c0 : (nI i).toNatClampNeg = i := i_cl (by omega)
  have c1 : (nI (i + 1)).toNatClampNeg = i + 1 := i_cl (by omega)
  have c2 : (nI (i + 2)).toNatClampNeg = i + 2 := i_cl (by omega)
  have c3 : (nI (i + 3)).toNatClampNeg = i + 3 := i_cl (by omega)
  have c4 : (nI (i + 4)).toNatClampNeg = i + 4 := i_cl (by omega)
  have lt : ¬ nI sc.1 - 5 < nI i := by
    have h5 : nI sc.1 - 5 = nI (sc.1 - 5) := (Int32.ofNat_sub sc.1 5 (by omega)).symm
    rw [h5, i_lt (by omega) (by omega)]
    omega
  rw [EJ_1, if_neg lt, b0, if_pos rfl, c0, hk, if_neg (show ¬ ((18 : Int32) = 0) by decide), if_neg (show ¬ ((18 : Int32) = 1) by decide), if_neg (show ¬ ((18 : Int32) = 2) by decide), if_neg (show ¬ ((18 : Int32) = 3) by decide), if_neg (show ¬ ((18 : Int32) = 4) by decide), if_neg (show ¬ ((18 : Int32) = 5) by decide), if_neg (show ¬ ((18 : Int32) = 6) by decide), if_neg (show ¬ ((18 : Int32) = 7) by decide), if_neg (show ¬ ((18 : Int32) = 8) by decide), if_neg (show ¬ ((18 : Int32) = 9) by decide), if_neg (show ¬ ((18 : Int32) = 10) by decide), if_neg (show ¬ ((18 : Int32) = 11) by decide), if_neg (show ¬ ((18 : Int32) = 12) by decide), if_neg (show ¬ ((18 : Int32) = 13) by decide), if_neg (show ¬ ((18 : Int32) = 14) by decide), if_neg (show ¬ ((18 : Int32) = 15) by decide), if_neg (show ¬ ((18 : Int32) = 16) by decide), if_neg (show ¬ ((18 : Int32) = 17) by decide), if_pos rfl, e1, e2, b1, if_pos rfl, b2, if_pos rfl, c1, c2]
theorem L1_made {sc : Nat × (Nat → Int32)} {i : Nat} (hsc : sc.1 ≤ 2560) (hi : i + 5 ≤ sc.1) {M : sm_M} {a : Nat → Nat → Int32} (g : GI a M (40 * i)) (hk : sc.2 i &&& 31 = 19) : ∃ N1 b, GI b N1 (40 * (i + 5)) ∧ ∀ J, LK sc J 1 [.inr (.inr (99, 0, 1)), .inr (.inr (9, 0, 0)), .inr (.inr (10, 0, 0)), .inr (.inr (30, 0, 1)), .inl (nI i)] [] M = J 1 [.inr (.inr (99, 0, 1)), .inr (.inr (9, 0, 0)), .inr (.inr (10, 0, 0)), .inr (.inr (30, 0, 1)), .inl (nI (i + 5))] [] N1 := by
  have hB : 40 * i ≤ 40 * (i + 5) := by omega
  have e5 : nI i + 5 = nI (i + 5) := nI_add i 5
  have e1 : nI i + 1 = nI (i + 1) := nI_add i 1
  have e2 : nI i + 2 = nI (i + 2) := nI_add i 2
  have e3 : nI i + 3 = nI (i + 3) := nI_add i 3
  have e4 : nI i + 4 = nI (i + 4) := nI_add i 4
  have b0 : sm_ib (nI i) sc.1 = true := i_ib (by omega) (by omega)
  have b1 : sm_ib (nI (i + 1)) sc.1 = true := i_ib (by omega) (by omega)
  have b2 : sm_ib (nI (i + 2)) sc.1 = true := i_ib (by omega) (by omega)
  have b3 : sm_ib (nI (i + 3)) sc.1 = true := i_ib (by omega) (by omega)
  have b4 : sm_ib (nI (i + 4)) sc.1 = true := i_ib (by omega) (by omega)
  have c0 : (nI i).toNatClampNeg = i := i_cl (by omega)
  have c1 : (nI (i + 1)).toNatClampNeg = i + 1 := i_cl (by omega)
  have c2 : (nI (i + 2)).toNatClampNeg = i + 2 := i_cl (by omega)
  have c3 : (nI (i + 3)).toNatClampNeg = i + 3 := i_cl (by omega)
  have c4 : (nI (i + 4)).toNatClampNeg = i + 4 := i_cl (by omega)
  have lt : ¬ nI sc.1 - 5 < nI i := by
    have h5 : nI sc.1 - 5 = nI (sc.1 - 5) := (Int32.ofNat_sub sc.1 5 (by omega)).symm
    rw [h5, i_lt (by omega) (by omega)]
    omega
  obtain ⟨e, x, Mc, h1, h2⟩ := GSM_m (SIR_G g (S_made (sc := sc) g.2.1)) hB
  obtain rfl : e = 0 := ex_made h1
  obtain ⟨y, N1, q1, q2, q3, b, q4⟩ := h2 Mc (fun _ _ => ⟨rfl, rfl⟩)
  dsimp only at q1
  refine ⟨N1, b, q4, fun J => ?_⟩
  rw [EJ_1, if_neg lt, b0, if_pos rfl, c0, hk, if_neg (show ¬ ((19 : Int32) = 0) by decide), if_neg (show ¬ ((19 : Int32) = 1) by decide), if_neg (show ¬ ((19 : Int32) = 2) by decide), if_neg (show ¬ ((19 : Int32) = 3) by decide), if_neg (show ¬ ((19 : Int32) = 4) by decide), if_neg (show ¬ ((19 : Int32) = 5) by decide), if_neg (show ¬ ((19 : Int32) = 6) by decide), if_neg (show ¬ ((19 : Int32) = 7) by decide), if_neg (show ¬ ((19 : Int32) = 8) by decide), if_neg (show ¬ ((19 : Int32) = 9) by decide), if_neg (show ¬ ((19 : Int32) = 10) by decide), if_neg (show ¬ ((19 : Int32) = 11) by decide), if_neg (show ¬ ((19 : Int32) = 12) by decide), if_neg (show ¬ ((19 : Int32) = 13) by decide), if_neg (show ¬ ((19 : Int32) = 14) by decide), if_neg (show ¬ ((19 : Int32) = 15) by decide), if_neg (show ¬ ((19 : Int32) = 16) by decide), if_neg (show ¬ ((19 : Int32) = 17) by decide), if_neg (show ¬ ((19 : Int32) = 18) by decide), if_pos rfl, h1, r1_s, q1, r1_s, if_pos (q3 rfl), e5]
theorem L1_drops {sc : Nat × (Nat → Int32)} {i : Nat} (hsc : sc.1 ≤ 2560) (hi : i + 5 ≤ sc.1) {M : sm_M} {a : Nat → Nat → Int32} (g : GI a M (40 * i)) (hk : sc.2 i &&& 31 = 20) : ∃ N1 b, GI b N1 (40 * (i + 5)) ∧ ∀ J, LK sc J 1 [.inr (.inr (99, 0, 1)), .inr (.inr (9, 0, 0)), .inr (.inr (10, 0, 0)), .inr (.inr (30, 0, 1)), .inl (nI i)] [] M = J 1 [.inr (.inr (99, 0, 1)), .inr (.inr (9, 0, 0)), .inr (.inr (10, 0, 0)), .inr (.inr (30, 0, 1)), .inl (nI (i + 5))] [] N1 := by
  have hB : 40 * i ≤ 40 * (i + 5) := by omega
  have e5 : nI i + 5 = nI (i + 5) := nI_add i 5
  have e1 : nI i + 1 = nI (i + 1) := nI_add i 1
  have e2 : nI i + 2 = nI (i + 2) := nI_add i 2
  have e3 : nI i + 3 = nI (i + 3) := nI_add i 3
  have e4 : nI i + 4 = nI (i + 4) := nI_add i 4
  have b0 : sm_ib (nI i) sc.1 = true := i_ib (by omega) (by omega)
  have b1 : sm_ib (nI (i + 1)) sc.1 = true := i_ib (by omega) (by omega)
  have b2 : sm_ib (nI (i + 2)) sc.1 = true := i_ib (by omega) (by omega)
  have b3 : sm_ib (nI (i + 3)) sc.1 = true := i_ib (by omega) (by omega)
  have b4 : sm_ib (nI (i + 4)) sc.1 = true := i_ib (by omega) (by omega)
  have c0 : (nI i).toNatClampNeg = i := i_cl (by omega)
  have c1 : (nI (i + 1)).toNatClampNeg = i + 1 := i_cl (by omega)
  have c2 : (nI (i + 2)).toNatClampNeg = i + 2 := i_cl (by omega)
  have c3 : (nI (i + 3)).toNatClampNeg = i + 3 := i_cl (by omega)
  have c4 : (nI (i + 4)).toNatClampNeg = i + 4 := i_cl (by omega)
  have lt : ¬ nI sc.1 - 5 < nI i := by
    have h5 : nI sc.1 - 5 = nI (sc.1 - 5) := (Int32.ofNat_sub sc.1 5 (by omega)).symm
    rw [h5, i_lt (by omega) (by omega)]
    omega
  obtain ⟨e, x, Mc, h1, h2⟩ := GSM_m (SIR_G g (S_drops (sc := sc) g.2.1)) hB
  obtain rfl : e = 0 := ex_drops h1
  obtain ⟨y, N1, q1, q2, q3, b, q4⟩ := h2 Mc (fun _ _ => ⟨rfl, rfl⟩)
  dsimp only at q1
  refine ⟨N1, b, q4, fun J => ?_⟩
  rw [EJ_1, if_neg lt, b0, if_pos rfl, c0, hk, if_neg (show ¬ ((20 : Int32) = 0) by decide), if_neg (show ¬ ((20 : Int32) = 1) by decide), if_neg (show ¬ ((20 : Int32) = 2) by decide), if_neg (show ¬ ((20 : Int32) = 3) by decide), if_neg (show ¬ ((20 : Int32) = 4) by decide), if_neg (show ¬ ((20 : Int32) = 5) by decide), if_neg (show ¬ ((20 : Int32) = 6) by decide), if_neg (show ¬ ((20 : Int32) = 7) by decide), if_neg (show ¬ ((20 : Int32) = 8) by decide), if_neg (show ¬ ((20 : Int32) = 9) by decide), if_neg (show ¬ ((20 : Int32) = 10) by decide), if_neg (show ¬ ((20 : Int32) = 11) by decide), if_neg (show ¬ ((20 : Int32) = 12) by decide), if_neg (show ¬ ((20 : Int32) = 13) by decide), if_neg (show ¬ ((20 : Int32) = 14) by decide), if_neg (show ¬ ((20 : Int32) = 15) by decide), if_neg (show ¬ ((20 : Int32) = 16) by decide), if_neg (show ¬ ((20 : Int32) = 17) by decide), if_neg (show ¬ ((20 : Int32) = 18) by decide), if_neg (show ¬ ((20 : Int32) = 19) by decide), if_pos rfl, h1, r1_s, q1, r1_s, if_pos (q3 rfl), e5]
theorem L1_dropped {sc : Nat × (Nat → Int32)} {i : Nat} (hsc : sc.1 ≤ 2560) (hi : i + 5 ≤ sc.1) (M : sm_M) (hk : sc.2 i &&& 31 = 21) (J : Nat → List sm_v → List sm_v → sm_M → Option sm_R) : LK sc J 1 [.inr (.inr (99, 0, 1)), .inr (.inr (9, 0, 0)), .inr (.inr (10, 0, 0)), .inr (.inr (30, 0, 1)), .inl (nI i)] [] M = J 144 [.inr (.inr (99, 0, 1)), .inr (.inr (9, 0, 0)), .inr (.inr (10, 0, 0)), .inr (.inr (30, 0, 1)), .inl (nI i)] [.inr (.inr (30, 0, 1)), .inl (sc.2 (i + 1)), .inr (.inr (9, 0, 0))] M := by
  have e5 : nI i + 5 = nI (i + 5) := nI_add i 5
  have e1 : nI i + 1 = nI (i + 1) := nI_add i 1
  have e2 : nI i + 2 = nI (i + 2) := nI_add i 2
  have e3 : nI i + 3 = nI (i + 3) := nI_add i 3
  have e4 : nI i + 4 = nI (i + 4) := nI_add i 4
  have b0 : sm_ib (nI i) sc.1 = true := i_ib (by omega) (by omega)
  have b1 : sm_ib (nI (i + 1)) sc.1 = true := i_ib (by omega) (by omega)
  have b2 : sm_ib (nI (i + 2)) sc.1 = true := i_ib (by omega) (by omega)
  have b3 : sm_ib (nI (i + 3)) sc.1 = true := i_ib (by omega) (by omega)
  have b4 : sm_ib (nI (i + 4)) sc.1 = true := i_ib (by omega) (by omega)
  have c0 : (nI i).toNatClampNeg = i := i_cl (by omega)
  have c1 : (nI (i + 1)).toNatClampNeg = i + 1 := i_cl (by omega)
  have c2 : (nI (i + 2)).toNatClampNeg = i + 2 := i_cl (by omega)
  have c3 : (nI (i + 3)).toNatClampNeg = i + 3 := i_cl (by omega)
  have c4 : (nI (i + 4)).toNatClampNeg = i + 4 := i_cl (by omega)
  have lt : ¬ nI sc.1 - 5 < nI i := by
    have h5 : nI sc.1 - 5 = nI (sc.1 - 5) := (Int32.ofNat_sub sc.1 5 (by omega)).symm
    rw [h5, i_lt (by omega) (by omega)]
    omega
  rw [EJ_1, if_neg lt, b0, if_pos rfl, c0, hk, if_neg (show ¬ ((21 : Int32) = 0) by decide), if_neg (show ¬ ((21 : Int32) = 1) by decide), if_neg (show ¬ ((21 : Int32) = 2) by decide), if_neg (show ¬ ((21 : Int32) = 3) by decide), if_neg (show ¬ ((21 : Int32) = 4) by decide), if_neg (show ¬ ((21 : Int32) = 5) by decide), if_neg (show ¬ ((21 : Int32) = 6) by decide), if_neg (show ¬ ((21 : Int32) = 7) by decide), if_neg (show ¬ ((21 : Int32) = 8) by decide), if_neg (show ¬ ((21 : Int32) = 9) by decide), if_neg (show ¬ ((21 : Int32) = 10) by decide), if_neg (show ¬ ((21 : Int32) = 11) by decide), if_neg (show ¬ ((21 : Int32) = 12) by decide), if_neg (show ¬ ((21 : Int32) = 13) by decide), if_neg (show ¬ ((21 : Int32) = 14) by decide), if_neg (show ¬ ((21 : Int32) = 15) by decide), if_neg (show ¬ ((21 : Int32) = 16) by decide), if_neg (show ¬ ((21 : Int32) = 17) by decide), if_neg (show ¬ ((21 : Int32) = 18) by decide), if_neg (show ¬ ((21 : Int32) = 19) by decide), if_neg (show ¬ ((21 : Int32) = 20) by decide), if_pos rfl, e1, b1, if_pos rfl, c1]
theorem L1_no {sc : Nat × (Nat → Int32)} {i : Nat} (hsc : sc.1 ≤ 2560) (hi : i + 5 ≤ sc.1) {M : sm_M} (k0 : ¬ sc.2 i &&& 31 = 0) (k1 : ¬ sc.2 i &&& 31 = 1) (k2 : ¬ sc.2 i &&& 31 = 2) (k3 : ¬ sc.2 i &&& 31 = 3) (k4 : ¬ sc.2 i &&& 31 = 4) (k5 : ¬ sc.2 i &&& 31 = 5) (k6 : ¬ sc.2 i &&& 31 = 6) (k7 : ¬ sc.2 i &&& 31 = 7) (k8 : ¬ sc.2 i &&& 31 = 8) (k9 : ¬ sc.2 i &&& 31 = 9) (k10 : ¬ sc.2 i &&& 31 = 10) (k11 : ¬ sc.2 i &&& 31 = 11) (k12 : ¬ sc.2 i &&& 31 = 12) (k13 : ¬ sc.2 i &&& 31 = 13) (k14 : ¬ sc.2 i &&& 31 = 14) (k15 : ¬ sc.2 i &&& 31 = 15) (k16 : ¬ sc.2 i &&& 31 = 16) (k17 : ¬ sc.2 i &&& 31 = 17) (k18 : ¬ sc.2 i &&& 31 = 18) (k19 : ¬ sc.2 i &&& 31 = 19) (k20 : ¬ sc.2 i &&& 31 = 20) (k21 : ¬ sc.2 i &&& 31 = 21) (J : Nat → List sm_v → List sm_v → sm_M → Option sm_R) : LK sc J 1 [.inr (.inr (99, 0, 1)), .inr (.inr (9, 0, 0)), .inr (.inr (10, 0, 0)), .inr (.inr (30, 0, 1)), .inl (nI i)] [] M = J 1 [.inr (.inr (99, 0, 1)), .inr (.inr (9, 0, 0)), .inr (.inr (10, 0, 0)), .inr (.inr (30, 0, 1)), .inl (nI (i + 5))] [] M := by
  have e5 : nI i + 5 = nI (i + 5) := nI_add i 5
  have e1 : nI i + 1 = nI (i + 1) := nI_add i 1
  have e2 : nI i + 2 = nI (i + 2) := nI_add i 2
  have e3 : nI i + 3 = nI (i + 3) := nI_add i 3
  have e4 : nI i + 4 = nI (i + 4) := nI_add i 4
  have b0 : sm_ib (nI i) sc.1 = true := i_ib (by omega) (by omega)
  have b1 : sm_ib (nI (i + 1)) sc.1 = true := i_ib (by omega) (by omega)
  have b2 : sm_ib (nI (i + 2)) sc.1 = true := i_ib (by omega) (by omega)
  have b3 : sm_ib (nI (i + 3)) sc.1 = true := i_ib (by omega) (by omega)
  have b4 : sm_ib (nI (i + 4)) sc.1 = true := i_ib (by omega) (by omega)
  have c0 : (nI i).toNatClampNeg = i := i_cl (by omega)
  have c1 : (nI (i + 1)).toNatClampNeg = i + 1 := i_cl (by omega)
  have c2 : (nI (i + 2)).toNatClampNeg = i + 2 := i_cl (by omega)
  have c3 : (nI (i + 3)).toNatClampNeg = i + 3 := i_cl (by omega)
  have c4 : (nI (i + 4)).toNatClampNeg = i + 4 := i_cl (by omega)
  have lt : ¬ nI sc.1 - 5 < nI i := by
    have h5 : nI sc.1 - 5 = nI (sc.1 - 5) := (Int32.ofNat_sub sc.1 5 (by omega)).symm
    rw [h5, i_lt (by omega) (by omega)]
    omega
  rw [EJ_1, if_neg lt, b0, if_pos rfl, c0, if_neg k0, if_neg k1, if_neg k2, if_neg k3, if_neg k4, if_neg k5, if_neg k6, if_neg k7, if_neg k8, if_neg k9, if_neg k10, if_neg k11, if_neg k12, if_neg k13, if_neg k14, if_neg k15, if_neg k16, if_neg k17, if_neg k18, if_neg k19, if_neg k20, if_neg k21, e5]
theorem L1_e {sc : Nat × (Nat → Int32)} {M : sm_M} {i : Nat} (hsc : sc.1 ≤ 2560) (hi : sc.1 < i + 5) (h3 : i < 3000) (J : Nat → List sm_v → List sm_v → sm_M → Option sm_R) : LK sc J 1 [.inr (.inr (99, 0, 1)), .inr (.inr (9, 0, 0)), .inr (.inr (10, 0, 0)), .inr (.inr (30, 0, 1)), .inl (nI i)] [] M = some (0, .inl 1, M) := by
  rw [EJ_1, if_pos]
  rw [Int32.lt_iff_toInt_lt, nI_toInt (by omega)]
  have : (nI sc.1 - 5).toInt = (sc.1 : Int) - 5 := by
    rw [Int32.toInt_sub, nI_toInt (by omega), show (5 : Int32).toInt = 5 from rfl, Int.bmod_eq_of_le (by omega) (by omega)]
  omega
