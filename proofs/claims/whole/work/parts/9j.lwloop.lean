/-! LEVEL B: the law's loop, call by call -/
theorem LB_step {sc : Nat × (Nat → Int32)} {M : sm_M} {a : Nat → Nat → Int32} {i : Nat} (hsc : sc.1 ≤ 2560) (hi : i + 5 ≤ sc.1) (g : GI a M (40 * i)) : ∃ N1 b, dn sc kLaw_law 4 [.inr (.inr (99, 0, 1)), .inr (.inr (9, 0, 0)), .inr (.inr (10, 0, 0)), .inr (.inr (30, 0, 1)), .inl (nI i)] [.inr (.inr (30, 0, 1)), .inl (sc.2 (i + 4)), .inl (sc.2 (i + 3)), .inl (sc.2 (i + 2)), .inl (sc.2 (i + 1)), .inr (.inr (9, 0, 0))] M = dn sc kLaw_law 1 [.inr (.inr (99, 0, 1)), .inr (.inr (9, 0, 0)), .inr (.inr (10, 0, 0)), .inr (.inr (30, 0, 1)), .inl (nI (i + 5))] [] N1 ∧ GI b N1 (40 * (i + 5)) := by
  have hB : 40 * i ≤ 40 * (i + 5) := by omega
  obtain ⟨x2, M1, y, N1, c1, c2, c3, c4, b, c5⟩ := LB_call (B := 40 * (i + 5)) (kTop_step, 0, [1, 2, 3]) (GS_step g hB (sc.2 (i + 1)) (sc.2 (i + 2)) (sc.2 (i + 3)) (sc.2 (i + 4))) (by decide) (fun e v M1 h => by
    have := ex_step h
    dsimp only at this
    have he : e = 0 ∨ e = 1 ∨ e = 2 := by omega
    rcases he with rfl | rfl | rfl <;> decide) (fun N r h => mod_30 (by decide) (by decide) (by simp only [fr_s_cons, fr_v_i, fr_v_r]; exact ⟨by decide, trivial, trivial, trivial, trivial, fr_s_nil⟩) h)
  refine ⟨N1, b, ?_, c5⟩

  rw [E_Law_law_4, E_Lw_step, c1, r1_s, nI_1, i_ib (show i + 1 < sc.1 by omega) (by omega), if_pos rfl, show (2 : Int32) = nI 2 from rfl, nI_add, i_ib (show i + 2 < sc.1 by omega) (by omega), if_pos rfl, show (3 : Int32) = nI 3 from rfl, nI_add, i_ib (show i + 3 < sc.1 by omega) (by omega), if_pos rfl, show (4 : Int32) = nI 4 from rfl, nI_add, i_ib (show i + 4 < sc.1 by omega) (by omega), if_pos rfl, i_cl (show i + 1 < 2147483648 by omega), i_cl (show i + 2 < 2147483648 by omega), i_cl (show i + 3 < 2147483648 by omega), i_cl (show i + 4 < 2147483648 by omega), c2, r1_s, E_Model_thrown_0, r1_s, c3, if_pos rfl]
  have e5 : nI i + 5 = nI (i + 5) := nI_add i 5
  by_cases z : x2 = 0
  · rw [if_pos z, show sm_ib 0 1 = true from rfl, if_pos rfl, show (0 : Int32).toNatClampNeg = 0 from rfl, c4 z, show foW (kTop_step, 0, [1, 2, 3]) y = y.toInt64 from rfl, if_pos ((lg_cmp_eq _ _).mpr rfl), e5]
  · rw [if_neg z, e5]
theorem LB_channel {sc : Nat × (Nat → Int32)} {M : sm_M} {a : Nat → Nat → Int32} {i : Nat} (hsc : sc.1 ≤ 2560) (hi : i + 5 ≤ sc.1) (g : GI a M (40 * i)) : ∃ N1 b, dn sc kLaw_law 11 [.inr (.inr (99, 0, 1)), .inr (.inr (9, 0, 0)), .inr (.inr (10, 0, 0)), .inr (.inr (30, 0, 1)), .inl (nI i)] [.inr (.inr (30, 0, 1)), .inl (sc.2 (i + 3)), .inl (sc.2 (i + 2)), .inl (sc.2 (i + 1)), .inr (.inr (9, 0, 0))] M = dn sc kLaw_law 1 [.inr (.inr (99, 0, 1)), .inr (.inr (9, 0, 0)), .inr (.inr (10, 0, 0)), .inr (.inr (30, 0, 1)), .inl (nI (i + 5))] [] N1 ∧ GI b N1 (40 * (i + 5)) := by
  have hB : 40 * i ≤ 40 * (i + 5) := by omega
  obtain ⟨x2, M1, y, N1, c1, c2, c3, c4, b, c5⟩ := LB_call (B := 40 * (i + 5)) (kTop_channel, 0, [1, 2, 3]) (GS_channel g hB (sc.2 (i + 1)) (sc.2 (i + 2)) (sc.2 (i + 3))) (by decide) (fun e v M1 h => by
    have := ex_channel h
    dsimp only at this
    have he : e = 0 ∨ e = 1 ∨ e = 2 := by omega
    rcases he with rfl | rfl | rfl <;> decide) (fun N r h => mod_30 (by decide) (by decide) (by simp only [fr_s_cons, fr_v_i, fr_v_r]; exact ⟨by decide, trivial, trivial, trivial, fr_s_nil⟩) h)
  refine ⟨N1, b, ?_, c5⟩

  rw [E_Law_law_11, E_Lw_channel, c1, r1_s, nI_1, i_ib (show i + 1 < sc.1 by omega) (by omega), if_pos rfl, show (2 : Int32) = nI 2 from rfl, nI_add, i_ib (show i + 2 < sc.1 by omega) (by omega), if_pos rfl, show (3 : Int32) = nI 3 from rfl, nI_add, i_ib (show i + 3 < sc.1 by omega) (by omega), if_pos rfl, i_cl (show i + 1 < 2147483648 by omega), i_cl (show i + 2 < 2147483648 by omega), i_cl (show i + 3 < 2147483648 by omega), c2, r1_s, E_Model_thrown_0, r1_s, c3, if_pos rfl]
  have e5 : nI i + 5 = nI (i + 5) := nI_add i 5
  by_cases z : x2 = 0
  · rw [if_pos z, show sm_ib 0 1 = true from rfl, if_pos rfl, show (0 : Int32).toNatClampNeg = 0 from rfl, c4 z, show foW (kTop_channel, 0, [1, 2, 3]) y = y.toInt64 from rfl, if_pos ((lg_cmp_eq _ _).mpr rfl), e5]
  · rw [if_neg z, e5]
theorem LB_op {sc : Nat × (Nat → Int32)} {M : sm_M} {a : Nat → Nat → Int32} {i : Nat} (hsc : sc.1 ≤ 2560) (hi : i + 5 ≤ sc.1) (g : GI a M (40 * i)) : ∃ N1 b, dn sc kLaw_law 18 [.inr (.inr (99, 0, 1)), .inr (.inr (9, 0, 0)), .inr (.inr (10, 0, 0)), .inr (.inr (30, 0, 1)), .inl (nI i)] [.inr (.inr (30, 0, 1)), .inl (sc.2 (i + 4)), .inl (sc.2 (i + 3)), .inl (sc.2 (i + 2)), .inl (sc.2 (i + 1)), .inr (.inr (9, 0, 0))] M = dn sc kLaw_law 1 [.inr (.inr (99, 0, 1)), .inr (.inr (9, 0, 0)), .inr (.inr (10, 0, 0)), .inr (.inr (30, 0, 1)), .inl (nI (i + 5))] [] N1 ∧ GI b N1 (40 * (i + 5)) := by
  have hB : 40 * i ≤ 40 * (i + 5) := by omega
  obtain ⟨x2, M1, y, N1, c1, c2, c3, c4, b, c5⟩ := LB_call (B := 40 * (i + 5)) (kTop_op, 0, [1, 2, 3]) (GS_op g hB (sc.2 (i + 1)) (sc.2 (i + 2)) (sc.2 (i + 3)) (sc.2 (i + 4))) (by decide) (fun e v M1 h => by
    have := ex_op h
    dsimp only at this
    have he : e = 0 ∨ e = 1 ∨ e = 2 := by omega
    rcases he with rfl | rfl | rfl <;> decide) (fun N r h => mod_30 (by decide) (by decide) (by simp only [fr_s_cons, fr_v_i, fr_v_r]; exact ⟨by decide, trivial, trivial, trivial, trivial, fr_s_nil⟩) h)
  refine ⟨N1, b, ?_, c5⟩

  rw [E_Law_law_18, E_Lw_op, c1, r1_s, nI_1, i_ib (show i + 1 < sc.1 by omega) (by omega), if_pos rfl, show (2 : Int32) = nI 2 from rfl, nI_add, i_ib (show i + 2 < sc.1 by omega) (by omega), if_pos rfl, show (3 : Int32) = nI 3 from rfl, nI_add, i_ib (show i + 3 < sc.1 by omega) (by omega), if_pos rfl, show (4 : Int32) = nI 4 from rfl, nI_add, i_ib (show i + 4 < sc.1 by omega) (by omega), if_pos rfl, i_cl (show i + 1 < 2147483648 by omega), i_cl (show i + 2 < 2147483648 by omega), i_cl (show i + 3 < 2147483648 by omega), i_cl (show i + 4 < 2147483648 by omega), c2, r1_s, E_Model_thrown_0, r1_s, c3, if_pos rfl]
  have e5 : nI i + 5 = nI (i + 5) := nI_add i 5
  by_cases z : x2 = 0
  · rw [if_pos z, show sm_ib 0 1 = true from rfl, if_pos rfl, show (0 : Int32).toNatClampNeg = 0 from rfl, c4 z, show foW (kTop_op, 0, [1, 2, 3]) y = y.toInt64 from rfl, if_pos ((lg_cmp_eq _ _).mpr rfl), e5]
  · rw [if_neg z, e5]
theorem LB_unop {sc : Nat × (Nat → Int32)} {M : sm_M} {a : Nat → Nat → Int32} {i : Nat} (hsc : sc.1 ≤ 2560) (hi : i + 5 ≤ sc.1) (g : GI a M (40 * i)) : ∃ N1 b, dn sc kLaw_law 25 [.inr (.inr (99, 0, 1)), .inr (.inr (9, 0, 0)), .inr (.inr (10, 0, 0)), .inr (.inr (30, 0, 1)), .inl (nI i)] [.inr (.inr (30, 0, 1)), .inl (sc.2 (i + 1)), .inr (.inr (9, 0, 0))] M = dn sc kLaw_law 1 [.inr (.inr (99, 0, 1)), .inr (.inr (9, 0, 0)), .inr (.inr (10, 0, 0)), .inr (.inr (30, 0, 1)), .inl (nI (i + 5))] [] N1 ∧ GI b N1 (40 * (i + 5)) := by
  have hB : 40 * i ≤ 40 * (i + 5) := by omega
  obtain ⟨x2, M1, y, N1, c1, c2, c3, c4, b, c5⟩ := LB_call (B := 40 * (i + 5)) (kTop_unop, 0, [1, 0, 2]) (GS_unop g hB (sc.2 (i + 1))) (by decide) (fun e v M1 h => by
    have := ex_unop h
    dsimp only at this
    have he : e = 0 ∨ e = 2 := by omega
    rcases he with rfl | rfl <;> decide) (fun N r h => mod_30 (by decide) (by decide) (by simp only [fr_s_cons, fr_v_i, fr_v_r]; exact ⟨by decide, trivial, fr_s_nil⟩) h)
  refine ⟨N1, b, ?_, c5⟩

  rw [E_Law_law_25, E_Lw_unop, c1, r1_s, nI_1, i_ib (show i + 1 < sc.1 by omega) (by omega), if_pos rfl, i_cl (show i + 1 < 2147483648 by omega), c2, r1_s, E_Model_thrown_0, r1_s, c3, if_pos rfl]
  have e5 : nI i + 5 = nI (i + 5) := nI_add i 5
  by_cases z : x2 = 0
  · rw [if_pos z, show sm_ib 0 1 = true from rfl, if_pos rfl, show (0 : Int32).toNatClampNeg = 0 from rfl, c4 z, show foW (kTop_unop, 0, [1, 0, 2]) y = y.toInt64 from rfl, if_pos ((lg_cmp_eq _ _).mpr rfl), e5]
  · rw [if_neg z, e5]
theorem LB_check {sc : Nat × (Nat → Int32)} {M : sm_M} {a : Nat → Nat → Int32} {i : Nat} (hsc : sc.1 ≤ 2560) (hi : i + 5 ≤ sc.1) (g : GI a M (40 * i)) : ∃ N1 b, dn sc kLaw_law 32 [.inr (.inr (99, 0, 1)), .inr (.inr (9, 0, 0)), .inr (.inr (10, 0, 0)), .inr (.inr (30, 0, 1)), .inl (nI i)] [.inr (.inr (30, 0, 1)), .inl (sc.2 (i + 1)), .inr (.inr (9, 0, 0))] M = dn sc kLaw_law 1 [.inr (.inr (99, 0, 1)), .inr (.inr (9, 0, 0)), .inr (.inr (10, 0, 0)), .inr (.inr (30, 0, 1)), .inl (nI (i + 5))] [] N1 ∧ GI b N1 (40 * (i + 5)) := by
  have hB : 40 * i ≤ 40 * (i + 5) := by omega
  obtain ⟨x2, M1, y, N1, c1, c2, c3, c4, b, c5⟩ := LB_call (B := 40 * (i + 5)) (kTop_check, 0, [1, 0, 0]) (SIM_G g hB (S_check g.1 (sc.2 (i + 1)))) (by decide) (fun e v M1 h => by
    have := ex_check h
    dsimp only at this
    have he : e = 0 := by omega
    subst he; decide) (fun N r h => mod_30 (by decide) (by decide) (by simp only [fr_s_cons, fr_v_i, fr_v_r]; exact ⟨by decide, trivial, fr_s_nil⟩) h)
  refine ⟨N1, b, ?_, c5⟩

  rw [E_Law_law_32, E_Lw_check, c1, r1_s, nI_1, i_ib (show i + 1 < sc.1 by omega) (by omega), if_pos rfl, i_cl (show i + 1 < 2147483648 by omega), c2, r1_s, E_Model_thrown_0, r1_s, c3, if_pos rfl]
  have e5 : nI i + 5 = nI (i + 5) := nI_add i 5
  by_cases z : x2 = 0
  · rw [if_pos z, show sm_ib 0 1 = true from rfl, if_pos rfl, show (0 : Int32).toNatClampNeg = 0 from rfl, c4 z, show foW (kTop_check, 0, [1, 0, 0]) y = y.toInt64 from rfl, if_pos ((lg_cmp_eq _ _).mpr rfl), e5]
  · rw [if_neg z, e5]
theorem LB_error {sc : Nat × (Nat → Int32)} {M : sm_M} {a : Nat → Nat → Int32} {i : Nat} (hsc : sc.1 ≤ 2560) (hi : i + 5 ≤ sc.1) (g : GI a M (40 * i)) : ∃ N1 b, dn sc kLaw_law 39 [.inr (.inr (99, 0, 1)), .inr (.inr (9, 0, 0)), .inr (.inr (10, 0, 0)), .inr (.inr (30, 0, 1)), .inl (nI i)] [.inr (.inr (30, 0, 1)), .inl (sc.2 (i + 1)), .inr (.inr (9, 0, 0))] M = dn sc kLaw_law 1 [.inr (.inr (99, 0, 1)), .inr (.inr (9, 0, 0)), .inr (.inr (10, 0, 0)), .inr (.inr (30, 0, 1)), .inl (nI (i + 5))] [] N1 ∧ GI b N1 (40 * (i + 5)) := by
  have hB : 40 * i ≤ 40 * (i + 5) := by omega
  obtain ⟨x2, M1, y, N1, c1, c2, c3, c4, b, c5⟩ := LB_call (B := 40 * (i + 5)) (kTop_error, 0, [1, 0, 0]) (SIM_G g hB (S_error g.1 (sc.2 (i + 1)))) (by decide) (fun e v M1 h => by
    have := ex_error h
    dsimp only at this
    have he : e = 0 := by omega
    subst he; decide) (fun N r h => mod_30 (by decide) (by decide) (by simp only [fr_s_cons, fr_v_i, fr_v_r]; exact ⟨by decide, trivial, fr_s_nil⟩) h)
  refine ⟨N1, b, ?_, c5⟩

  rw [E_Law_law_39, E_Lw_error, c1, r1_s, nI_1, i_ib (show i + 1 < sc.1 by omega) (by omega), if_pos rfl, i_cl (show i + 1 < 2147483648 by omega), c2, r1_s, E_Model_thrown_0, r1_s, c3, if_pos rfl]
  have e5 : nI i + 5 = nI (i + 5) := nI_add i 5
  by_cases z : x2 = 0
  · rw [if_pos z, show sm_ib 0 1 = true from rfl, if_pos rfl, show (0 : Int32).toNatClampNeg = 0 from rfl, c4 z, show foW (kTop_error, 0, [1, 0, 0]) y = y.toInt64 from rfl, if_pos ((lg_cmp_eq _ _).mpr rfl), e5]
  · rw [if_neg z, e5]
theorem LB_borrower {sc : Nat × (Nat → Int32)} {M : sm_M} {a : Nat → Nat → Int32} {i : Nat} (hsc : sc.1 ≤ 2560) (hi : i + 5 ≤ sc.1) (g : GI a M (40 * i)) : ∃ N1 b, dn sc kLaw_law 46 [.inr (.inr (99, 0, 1)), .inr (.inr (9, 0, 0)), .inr (.inr (10, 0, 0)), .inr (.inr (30, 0, 1)), .inl (nI i)] [.inr (.inr (30, 0, 1)), .inl (sc.2 (i + 1)), .inr (.inr (9, 0, 0))] M = dn sc kLaw_law 1 [.inr (.inr (99, 0, 1)), .inr (.inr (9, 0, 0)), .inr (.inr (10, 0, 0)), .inr (.inr (30, 0, 1)), .inl (nI (i + 5))] [] N1 ∧ GI b N1 (40 * (i + 5)) := by
  have hB : 40 * i ≤ 40 * (i + 5) := by omega
  obtain ⟨x2, M1, y, N1, c1, c2, c3, c4, b, c5⟩ := LB_call (B := 40 * (i + 5)) (kTop_borrower, 0, [1, 0, 2]) (SIM_G g hB (S_borrower g.1 (sc.2 (i + 1)))) (by decide) (fun e v M1 h => by
    have := ex_borrower h
    dsimp only at this
    have he : e = 0 ∨ e = 2 := by omega
    rcases he with rfl | rfl <;> decide) (fun N r h => mod_30 (by decide) (by decide) (by simp only [fr_s_cons, fr_v_i, fr_v_r]; exact ⟨by decide, trivial, fr_s_nil⟩) h)
  refine ⟨N1, b, ?_, c5⟩

  rw [E_Law_law_46, E_Lw_borrower, c1, r1_s, nI_1, i_ib (show i + 1 < sc.1 by omega) (by omega), if_pos rfl, i_cl (show i + 1 < 2147483648 by omega), c2, r1_s, E_Model_thrown_0, r1_s, c3, if_pos rfl]
  have e5 : nI i + 5 = nI (i + 5) := nI_add i 5
  by_cases z : x2 = 0
  · rw [if_pos z, show sm_ib 0 1 = true from rfl, if_pos rfl, show (0 : Int32).toNatClampNeg = 0 from rfl, c4 z, show foW (kTop_borrower, 0, [1, 0, 2]) y = y.toInt64 from rfl, if_pos ((lg_cmp_eq _ _).mpr rfl), e5]
  · rw [if_neg z, e5]
theorem LB_holds {sc : Nat × (Nat → Int32)} {M : sm_M} {a : Nat → Nat → Int32} {i : Nat} (hsc : sc.1 ≤ 2560) (hi : i + 5 ≤ sc.1) (g : GI a M (40 * i)) : ∃ N1 b, dn sc kLaw_law 53 [.inr (.inr (99, 0, 1)), .inr (.inr (9, 0, 0)), .inr (.inr (10, 0, 0)), .inr (.inr (30, 0, 1)), .inl (nI i)] [.inr (.inr (30, 0, 1)), .inl (sc.2 (i + 3)), .inl (sc.2 (i + 2)), .inl (sc.2 (i + 1)), .inr (.inr (9, 0, 0))] M = dn sc kLaw_law 1 [.inr (.inr (99, 0, 1)), .inr (.inr (9, 0, 0)), .inr (.inr (10, 0, 0)), .inr (.inr (30, 0, 1)), .inl (nI (i + 5))] [] N1 ∧ GI b N1 (40 * (i + 5)) := by
  have hB : 40 * i ≤ 40 * (i + 5) := by omega
  obtain ⟨x2, M1, y, N1, c1, c2, c3, c4, b, c5⟩ := LB_call (B := 40 * (i + 5)) (kTop_holds, 0, [1, 0, 0]) (SIM_G g hB (S_holds g.1 (sc.2 (i + 1)) (sc.2 (i + 2)) (sc.2 (i + 3)))) (by decide) (fun e v M1 h => by
    have := ex_holds h
    dsimp only at this
    have he : e = 0 := by omega
    subst he; decide) (fun N r h => mod_30 (by decide) (by decide) (by simp only [fr_s_cons, fr_v_i, fr_v_r]; exact ⟨by decide, trivial, trivial, trivial, fr_s_nil⟩) h)
  refine ⟨N1, b, ?_, c5⟩

  rw [E_Law_law_53, E_Lw_holds, c1, r1_s, nI_1, i_ib (show i + 1 < sc.1 by omega) (by omega), if_pos rfl, show (2 : Int32) = nI 2 from rfl, nI_add, i_ib (show i + 2 < sc.1 by omega) (by omega), if_pos rfl, show (3 : Int32) = nI 3 from rfl, nI_add, i_ib (show i + 3 < sc.1 by omega) (by omega), if_pos rfl, i_cl (show i + 1 < 2147483648 by omega), i_cl (show i + 2 < 2147483648 by omega), i_cl (show i + 3 < 2147483648 by omega), c2, r1_s, E_Model_thrown_0, r1_s, c3, if_pos rfl]
  have e5 : nI i + 5 = nI (i + 5) := nI_add i 5
  by_cases z : x2 = 0
  · rw [if_pos z, show sm_ib 0 1 = true from rfl, if_pos rfl, show (0 : Int32).toNatClampNeg = 0 from rfl, c4 z, show foW (kTop_holds, 0, [1, 0, 0]) y = y.toInt64 from rfl, if_pos ((lg_cmp_eq _ _).mpr rfl), e5]
  · rw [if_neg z, e5]
theorem LB_at {sc : Nat × (Nat → Int32)} {M : sm_M} {a : Nat → Nat → Int32} {i : Nat} (hsc : sc.1 ≤ 2560) (hi : i + 5 ≤ sc.1) (g : GI a M (40 * i)) : ∃ N1 b, dn sc kLaw_law 60 [.inr (.inr (99, 0, 1)), .inr (.inr (9, 0, 0)), .inr (.inr (10, 0, 0)), .inr (.inr (30, 0, 1)), .inl (nI i)] [.inr (.inr (30, 0, 1)), .inl (sc.2 (i + 3)), .inl (sc.2 (i + 2)), .inl (sc.2 (i + 1)), .inr (.inr (9, 0, 0))] M = dn sc kLaw_law 1 [.inr (.inr (99, 0, 1)), .inr (.inr (9, 0, 0)), .inr (.inr (10, 0, 0)), .inr (.inr (30, 0, 1)), .inl (nI (i + 5))] [] N1 ∧ GI b N1 (40 * (i + 5)) := by
  have hB : 40 * i ≤ 40 * (i + 5) := by omega
  obtain ⟨x2, M1, y, N1, c1, c2, c3, c4, b, c5⟩ := LB_call (B := 40 * (i + 5)) (kTop_at, 0, [1, 0, 0]) (SIM_G g hB (S_at g.1 (sc.2 (i + 1)) (sc.2 (i + 2)) (sc.2 (i + 3)))) (by decide) (fun e v M1 h => by
    have := ex_at h
    dsimp only at this
    have he : e = 0 := by omega
    subst he; decide) (fun N r h => mod_30 (by decide) (by decide) (by simp only [fr_s_cons, fr_v_i, fr_v_r]; exact ⟨by decide, trivial, trivial, trivial, fr_s_nil⟩) h)
  refine ⟨N1, b, ?_, c5⟩

  rw [E_Law_law_60, E_Lw_at, c1, r1_s, nI_1, i_ib (show i + 1 < sc.1 by omega) (by omega), if_pos rfl, show (2 : Int32) = nI 2 from rfl, nI_add, i_ib (show i + 2 < sc.1 by omega) (by omega), if_pos rfl, show (3 : Int32) = nI 3 from rfl, nI_add, i_ib (show i + 3 < sc.1 by omega) (by omega), if_pos rfl, i_cl (show i + 1 < 2147483648 by omega), i_cl (show i + 2 < 2147483648 by omega), i_cl (show i + 3 < 2147483648 by omega), c2, r1_s, E_Model_thrown_0, r1_s, c3, if_pos rfl]
  have e5 : nI i + 5 = nI (i + 5) := nI_add i 5
  by_cases z : x2 = 0
  · rw [if_pos z, show sm_ib 0 1 = true from rfl, if_pos rfl, show (0 : Int32).toNatClampNeg = 0 from rfl, c4 z, show foW (kTop_at, 0, [1, 0, 0]) y = y.toInt64 from rfl, if_pos ((lg_cmp_eq _ _).mpr rfl), e5]
  · rw [if_neg z, e5]
theorem LB_lives {sc : Nat × (Nat → Int32)} {M : sm_M} {a : Nat → Nat → Int32} {i : Nat} (hsc : sc.1 ≤ 2560) (hi : i + 5 ≤ sc.1) (g : GI a M (40 * i)) : ∃ N1 b, dn sc kLaw_law 67 [.inr (.inr (99, 0, 1)), .inr (.inr (9, 0, 0)), .inr (.inr (10, 0, 0)), .inr (.inr (30, 0, 1)), .inl (nI i)] [.inr (.inr (30, 0, 1)), .inl (sc.2 (i + 2)), .inl (sc.2 (i + 1)), .inr (.inr (9, 0, 0))] M = dn sc kLaw_law 1 [.inr (.inr (99, 0, 1)), .inr (.inr (9, 0, 0)), .inr (.inr (10, 0, 0)), .inr (.inr (30, 0, 1)), .inl (nI (i + 5))] [] N1 ∧ GI b N1 (40 * (i + 5)) := by
  have hB : 40 * i ≤ 40 * (i + 5) := by omega
  obtain ⟨x2, M1, y, N1, c1, c2, c3, c4, b, c5⟩ := LB_call (B := 40 * (i + 5)) (kTop_lives, 0, [1, 0, 0]) (SIM_G g hB (S_lives g.1 (sc.2 (i + 1)) (sc.2 (i + 2)))) (by decide) (fun e v M1 h => by
    have := ex_lives h
    dsimp only at this
    have he : e = 0 := by omega
    subst he; decide) (fun N r h => mod_30 (by decide) (by decide) (by simp only [fr_s_cons, fr_v_i, fr_v_r]; exact ⟨by decide, trivial, trivial, fr_s_nil⟩) h)
  refine ⟨N1, b, ?_, c5⟩

  rw [E_Law_law_67, E_Lw_lives, c1, r1_s, nI_1, i_ib (show i + 1 < sc.1 by omega) (by omega), if_pos rfl, show (2 : Int32) = nI 2 from rfl, nI_add, i_ib (show i + 2 < sc.1 by omega) (by omega), if_pos rfl, i_cl (show i + 1 < 2147483648 by omega), i_cl (show i + 2 < 2147483648 by omega), c2, r1_s, E_Model_thrown_0, r1_s, c3, if_pos rfl]
  have e5 : nI i + 5 = nI (i + 5) := nI_add i 5
  by_cases z : x2 = 0
  · rw [if_pos z, show sm_ib 0 1 = true from rfl, if_pos rfl, show (0 : Int32).toNatClampNeg = 0 from rfl, c4 z, show foW (kTop_lives, 0, [1, 0, 0]) y = y.toInt64 from rfl, if_pos ((lg_cmp_eq _ _).mpr rfl), e5]
  · rw [if_neg z, e5]
theorem LB_stuck {sc : Nat × (Nat → Int32)} {M : sm_M} {a : Nat → Nat → Int32} {i : Nat} (hsc : sc.1 ≤ 2560) (hi : i + 5 ≤ sc.1) (g : GI a M (40 * i)) : ∃ N1 b, dn sc kLaw_law 74 [.inr (.inr (99, 0, 1)), .inr (.inr (9, 0, 0)), .inr (.inr (10, 0, 0)), .inr (.inr (30, 0, 1)), .inl (nI i)] [.inr (.inr (30, 0, 1)), .inr (.inr (9, 0, 0))] M = dn sc kLaw_law 1 [.inr (.inr (99, 0, 1)), .inr (.inr (9, 0, 0)), .inr (.inr (10, 0, 0)), .inr (.inr (30, 0, 1)), .inl (nI (i + 5))] [] N1 ∧ GI b N1 (40 * (i + 5)) := by
  have hB : 40 * i ≤ 40 * (i + 5) := by omega
  obtain ⟨x2, M1, y, N1, c1, c2, c3, c4, b, c5⟩ := LB_call (B := 40 * (i + 5)) (kTop_stuck, 0, [0, 0, 1]) (S_stuck g hB) (by decide) (fun e v M1 h => by
    have := ex_stuck h
    dsimp only at this
    have he : e = 2 := by omega
    subst he; decide) (fun N r h => mod_30 (by decide) (by decide) (by simp only [fr_s_cons, fr_v_i, fr_v_r]; exact ⟨by decide, fr_s_nil⟩) h)
  refine ⟨N1, b, ?_, c5⟩

  rw [E_Law_law_74, E_Lw_stuck, c1, r1_s, c2, r1_s, E_Model_thrown_0, r1_s, c3, if_pos rfl]
  have e5 : nI i + 5 = nI (i + 5) := nI_add i 5
  by_cases z : x2 = 0
  · rw [if_pos z, show sm_ib 0 1 = true from rfl, if_pos rfl, show (0 : Int32).toNatClampNeg = 0 from rfl, c4 z, show foW (kTop_stuck, 0, [0, 0, 1]) y = y.toInt64 from rfl, if_pos ((lg_cmp_eq _ _).mpr rfl), e5]
  · rw [if_neg z, e5]
theorem LB_run {sc : Nat × (Nat → Int32)} {M : sm_M} {a : Nat → Nat → Int32} {i : Nat} (hsc : sc.1 ≤ 2560) (hi : i + 5 ≤ sc.1) (g : GI a M (40 * i)) : ∃ N1 b, dn sc kLaw_law 98 [.inr (.inr (99, 0, 1)), .inr (.inr (9, 0, 0)), .inr (.inr (10, 0, 0)), .inr (.inr (30, 0, 1)), .inl (nI i)] [.inr (.inr (30, 0, 1)), .inl (sc.2 (i + 2)), .inl (sc.2 (i + 1)), .inr (.inr (9, 0, 0))] M = dn sc kLaw_law 1 [.inr (.inr (99, 0, 1)), .inr (.inr (9, 0, 0)), .inr (.inr (10, 0, 0)), .inr (.inr (30, 0, 1)), .inl (nI (i + 5))] [] N1 ∧ GI b N1 (40 * (i + 5)) := by
  have hB : 40 * i ≤ 40 * (i + 5) := by omega
  obtain ⟨x2, M1, y, N1, c1, c2, c3, c4, b, c5⟩ := LB_call (B := 40 * (i + 5)) (kTop_run, 0, [0, 1, 2]) (GSM_m (SIR_G g (S_run g.1 g.2.1 (by omega) (sc.2 (i + 1)) (sc.2 (i + 2)))) (by omega)) (by decide) (fun e v M1 h => by
    have := ex_run h
    dsimp only at this
    have he : e = 1 ∨ e = 2 := by omega
    rcases he with rfl | rfl <;> decide) (fun N r h => mod_30 (by decide) (by decide) (by simp only [fr_s_cons, fr_v_i, fr_v_r]; exact ⟨by decide, trivial, trivial, fr_s_nil⟩) h)
  refine ⟨N1, b, ?_, c5⟩

  rw [E_Law_law_98, E_Lw_run, c1, r1_s, nI_1, i_ib (show i + 1 < sc.1 by omega) (by omega), if_pos rfl, show (2 : Int32) = nI 2 from rfl, nI_add, i_ib (show i + 2 < sc.1 by omega) (by omega), if_pos rfl, i_cl (show i + 1 < 2147483648 by omega), i_cl (show i + 2 < 2147483648 by omega), c2, r1_s, E_Model_thrown_0, r1_s, c3, if_pos rfl]
  have e5 : nI i + 5 = nI (i + 5) := nI_add i 5
  by_cases z : x2 = 0
  · rw [if_pos z, show sm_ib 0 1 = true from rfl, if_pos rfl, show (0 : Int32).toNatClampNeg = 0 from rfl, c4 z, show foW (kTop_run, 0, [0, 1, 2]) y = y.toInt64 from rfl, if_pos ((lg_cmp_eq _ _).mpr rfl), e5]
  · rw [if_neg z, e5]
theorem LB_state {sc : Nat × (Nat → Int32)} {M : sm_M} {a : Nat → Nat → Int32} {i : Nat} (hsc : sc.1 ≤ 2560) (hi : i + 5 ≤ sc.1) (g : GI a M (40 * i)) : ∃ N1 b, dn sc kLaw_law 105 [.inr (.inr (99, 0, 1)), .inr (.inr (9, 0, 0)), .inr (.inr (10, 0, 0)), .inr (.inr (30, 0, 1)), .inl (nI i)] [.inr (.inr (30, 0, 1)), .inl (sc.2 (i + 1)), .inr (.inr (9, 0, 0))] M = dn sc kLaw_law 1 [.inr (.inr (99, 0, 1)), .inr (.inr (9, 0, 0)), .inr (.inr (10, 0, 0)), .inr (.inr (30, 0, 1)), .inl (nI (i + 5))] [] N1 ∧ GI b N1 (40 * (i + 5)) := by
  have hB : 40 * i ≤ 40 * (i + 5) := by omega
  obtain ⟨x2, M1, y, N1, c1, c2, c3, c4, b, c5⟩ := LB_call (B := 40 * (i + 5)) (kTop_state, 0, [1, 0, 2]) (GSM_m (SIR_G g (S_state g.2.1 (sc.2 (i + 1)))) (by omega)) (by decide) (fun e v M1 h => by
    have := ex_state h
    dsimp only at this
    have he : e = 0 ∨ e = 2 := by omega
    rcases he with rfl | rfl <;> decide) (fun N r h => mod_30 (by decide) (by decide) (by simp only [fr_s_cons, fr_v_i, fr_v_r]; exact ⟨by decide, trivial, fr_s_nil⟩) h)
  refine ⟨N1, b, ?_, c5⟩

  rw [E_Law_law_105, E_Lw_state, c1, r1_s, nI_1, i_ib (show i + 1 < sc.1 by omega) (by omega), if_pos rfl, i_cl (show i + 1 < 2147483648 by omega), c2, r1_s, E_Model_thrown_0, r1_s, c3, if_pos rfl]
  have e5 : nI i + 5 = nI (i + 5) := nI_add i 5
  by_cases z : x2 = 0
  · rw [if_pos z, show sm_ib 0 1 = true from rfl, if_pos rfl, show (0 : Int32).toNatClampNeg = 0 from rfl, c4 z, show foW (kTop_state, 0, [1, 0, 2]) y = y.toInt64 from rfl, if_pos ((lg_cmp_eq _ _).mpr rfl), e5]
  · rw [if_neg z, e5]
theorem LB_fault {sc : Nat × (Nat → Int32)} {M : sm_M} {a : Nat → Nat → Int32} {i : Nat} (hsc : sc.1 ≤ 2560) (hi : i + 5 ≤ sc.1) (g : GI a M (40 * i)) : ∃ N1 b, dn sc kLaw_law 112 [.inr (.inr (99, 0, 1)), .inr (.inr (9, 0, 0)), .inr (.inr (10, 0, 0)), .inr (.inr (30, 0, 1)), .inl (nI i)] [.inr (.inr (30, 0, 1)), .inl (sc.2 (i + 1)), .inr (.inr (9, 0, 0))] M = dn sc kLaw_law 1 [.inr (.inr (99, 0, 1)), .inr (.inr (9, 0, 0)), .inr (.inr (10, 0, 0)), .inr (.inr (30, 0, 1)), .inl (nI (i + 5))] [] N1 ∧ GI b N1 (40 * (i + 5)) := by
  have hB : 40 * i ≤ 40 * (i + 5) := by omega
  obtain ⟨x2, M1, y, N1, c1, c2, c3, c4, b, c5⟩ := LB_call (B := 40 * (i + 5)) (kTop_fault, 0, [1, 0, 2]) (GSM_m (SIR_G g (S_fault g.2.1 (sc.2 (i + 1)))) (by omega)) (by decide) (fun e v M1 h => by
    have := ex_fault h
    dsimp only at this
    have he : e = 0 ∨ e = 2 := by omega
    rcases he with rfl | rfl <;> decide) (fun N r h => mod_30 (by decide) (by decide) (by simp only [fr_s_cons, fr_v_i, fr_v_r]; exact ⟨by decide, trivial, fr_s_nil⟩) h)
  refine ⟨N1, b, ?_, c5⟩

  rw [E_Law_law_112, E_Lw_fault, c1, r1_s, nI_1, i_ib (show i + 1 < sc.1 by omega) (by omega), if_pos rfl, i_cl (show i + 1 < 2147483648 by omega), c2, r1_s, E_Model_thrown_0, r1_s, c3, if_pos rfl]
  have e5 : nI i + 5 = nI (i + 5) := nI_add i 5
  by_cases z : x2 = 0
  · rw [if_pos z, show sm_ib 0 1 = true from rfl, if_pos rfl, show (0 : Int32).toNatClampNeg = 0 from rfl, c4 z, show foW (kTop_fault, 0, [1, 0, 2]) y = y.toInt64 from rfl, if_pos ((lg_cmp_eq _ _).mpr rfl), e5]
  · rw [if_neg z, e5]
theorem LB_place {sc : Nat × (Nat → Int32)} {M : sm_M} {a : Nat → Nat → Int32} {i : Nat} (hsc : sc.1 ≤ 2560) (hi : i + 5 ≤ sc.1) (g : GI a M (40 * i)) : ∃ N1 b, dn sc kLaw_law 119 [.inr (.inr (99, 0, 1)), .inr (.inr (9, 0, 0)), .inr (.inr (10, 0, 0)), .inr (.inr (30, 0, 1)), .inl (nI i)] [.inr (.inr (30, 0, 1)), .inl (sc.2 (i + 1)), .inr (.inr (9, 0, 0))] M = dn sc kLaw_law 1 [.inr (.inr (99, 0, 1)), .inr (.inr (9, 0, 0)), .inr (.inr (10, 0, 0)), .inr (.inr (30, 0, 1)), .inl (nI (i + 5))] [] N1 ∧ GI b N1 (40 * (i + 5)) := by
  have hB : 40 * i ≤ 40 * (i + 5) := by omega
  obtain ⟨x2, M1, y, N1, c1, c2, c3, c4, b, c5⟩ := LB_call (B := 40 * (i + 5)) (kTop_place, 0, [1, 0, 2]) (GSM_m (SIR_G g (S_place g.2.1 (sc.2 (i + 1)))) (by omega)) (by decide) (fun e v M1 h => by
    have := ex_place h
    dsimp only at this
    have he : e = 0 ∨ e = 2 := by omega
    rcases he with rfl | rfl <;> decide) (fun N r h => mod_30 (by decide) (by decide) (by simp only [fr_s_cons, fr_v_i, fr_v_r]; exact ⟨by decide, trivial, fr_s_nil⟩) h)
  refine ⟨N1, b, ?_, c5⟩

  rw [E_Law_law_119, E_Lw_place, c1, r1_s, nI_1, i_ib (show i + 1 < sc.1 by omega) (by omega), if_pos rfl, i_cl (show i + 1 < 2147483648 by omega), c2, r1_s, E_Model_thrown_0, r1_s, c3, if_pos rfl]
  have e5 : nI i + 5 = nI (i + 5) := nI_add i 5
  by_cases z : x2 = 0
  · rw [if_pos z, show sm_ib 0 1 = true from rfl, if_pos rfl, show (0 : Int32).toNatClampNeg = 0 from rfl, c4 z, show foW (kTop_place, 0, [1, 0, 2]) y = y.toInt64 from rfl, if_pos ((lg_cmp_eq _ _).mpr rfl), e5]
  · rw [if_neg z, e5]
theorem LB_value {sc : Nat × (Nat → Int32)} {M : sm_M} {a : Nat → Nat → Int32} {i : Nat} (hsc : sc.1 ≤ 2560) (hi : i + 5 ≤ sc.1) (g : GI a M (40 * i)) : ∃ N1 b, dn sc kLaw_law 126 [.inr (.inr (99, 0, 1)), .inr (.inr (9, 0, 0)), .inr (.inr (10, 0, 0)), .inr (.inr (30, 0, 1)), .inl (nI i)] [.inr (.inr (30, 0, 1)), .inl (sc.2 (i + 2)), .inl (sc.2 (i + 1)), .inr (.inr (9, 0, 0))] M = dn sc kLaw_law 1 [.inr (.inr (99, 0, 1)), .inr (.inr (9, 0, 0)), .inr (.inr (10, 0, 0)), .inr (.inr (30, 0, 1)), .inl (nI (i + 5))] [] N1 ∧ GI b N1 (40 * (i + 5)) := by
  have hB : 40 * i ≤ 40 * (i + 5) := by omega
  obtain ⟨x2, M1, y, N1, c1, c2, c3, c4, b, c5⟩ := LB_call (B := 40 * (i + 5)) (kTop_value, 0, [1, 0, 2]) (GSM_m (SIR_G g (S_value g.2.1 (sc.2 (i + 1)) (sc.2 (i + 2)))) (by omega)) (by decide) (fun e v M1 h => by
    have := ex_value h
    dsimp only at this
    have he : e = 0 ∨ e = 2 := by omega
    rcases he with rfl | rfl <;> decide) (fun N r h => mod_30 (by decide) (by decide) (by simp only [fr_s_cons, fr_v_i, fr_v_r]; exact ⟨by decide, trivial, trivial, fr_s_nil⟩) h)
  refine ⟨N1, b, ?_, c5⟩

  rw [E_Law_law_126, E_Lw_value, c1, r1_s, nI_1, i_ib (show i + 1 < sc.1 by omega) (by omega), if_pos rfl, show (2 : Int32) = nI 2 from rfl, nI_add, i_ib (show i + 2 < sc.1 by omega) (by omega), if_pos rfl, i_cl (show i + 1 < 2147483648 by omega), i_cl (show i + 2 < 2147483648 by omega), c2, r1_s, E_Model_thrown_0, r1_s, c3, if_pos rfl]
  have e5 : nI i + 5 = nI (i + 5) := nI_add i 5
  by_cases z : x2 = 0
  · rw [if_pos z, show sm_ib 0 1 = true from rfl, if_pos rfl, show (0 : Int32).toNatClampNeg = 0 from rfl, c4 z, show foW (kTop_value, 0, [1, 0, 2]) y = y.toInt64 from rfl, if_pos ((lg_cmp_eq _ _).mpr rfl), e5]
  · rw [if_neg z, e5]
theorem LB_waiting {sc : Nat × (Nat → Int32)} {M : sm_M} {a : Nat → Nat → Int32} {i : Nat} (hsc : sc.1 ≤ 2560) (hi : i + 5 ≤ sc.1) (g : GI a M (40 * i)) : ∃ N1 b, dn sc kLaw_law 133 [.inr (.inr (99, 0, 1)), .inr (.inr (9, 0, 0)), .inr (.inr (10, 0, 0)), .inr (.inr (30, 0, 1)), .inl (nI i)] [.inr (.inr (30, 0, 1)), .inl (sc.2 (i + 2)), .inl (sc.2 (i + 1)), .inr (.inr (9, 0, 0))] M = dn sc kLaw_law 1 [.inr (.inr (99, 0, 1)), .inr (.inr (9, 0, 0)), .inr (.inr (10, 0, 0)), .inr (.inr (30, 0, 1)), .inl (nI (i + 5))] [] N1 ∧ GI b N1 (40 * (i + 5)) := by
  have hB : 40 * i ≤ 40 * (i + 5) := by omega
  obtain ⟨x2, M1, y, N1, c1, c2, c3, c4, b, c5⟩ := LB_call (B := 40 * (i + 5)) (kTop_waiting, 0, [1, 0, 2]) (GSM_m (SIR_G g (S_waiting g.1 g.2.1 (sc.2 (i + 1)) (sc.2 (i + 2)))) (by omega)) (by decide) (fun e v M1 h => by
    have := ex_waiting h
    dsimp only at this
    have he : e = 0 ∨ e = 2 := by omega
    rcases he with rfl | rfl <;> decide) (fun N r h => mod_30 (by decide) (by decide) (by simp only [fr_s_cons, fr_v_i, fr_v_r]; exact ⟨by decide, trivial, trivial, fr_s_nil⟩) h)
  refine ⟨N1, b, ?_, c5⟩

  rw [E_Law_law_133, E_Lw_waiting, c1, r1_s, nI_1, i_ib (show i + 1 < sc.1 by omega) (by omega), if_pos rfl, show (2 : Int32) = nI 2 from rfl, nI_add, i_ib (show i + 2 < sc.1 by omega) (by omega), if_pos rfl, i_cl (show i + 1 < 2147483648 by omega), i_cl (show i + 2 < 2147483648 by omega), c2, r1_s, E_Model_thrown_0, r1_s, c3, if_pos rfl]
  have e5 : nI i + 5 = nI (i + 5) := nI_add i 5
  by_cases z : x2 = 0
  · rw [if_pos z, show sm_ib 0 1 = true from rfl, if_pos rfl, show (0 : Int32).toNatClampNeg = 0 from rfl, c4 z, show foW (kTop_waiting, 0, [1, 0, 2]) y = y.toInt64 from rfl, if_pos ((lg_cmp_eq _ _).mpr rfl), e5]
  · rw [if_neg z, e5]
theorem LB_dropped {sc : Nat × (Nat → Int32)} {M : sm_M} {a : Nat → Nat → Int32} {i : Nat} (hsc : sc.1 ≤ 2560) (hi : i + 5 ≤ sc.1) (g : GI a M (40 * i)) : ∃ N1 b, dn sc kLaw_law 144 [.inr (.inr (99, 0, 1)), .inr (.inr (9, 0, 0)), .inr (.inr (10, 0, 0)), .inr (.inr (30, 0, 1)), .inl (nI i)] [.inr (.inr (30, 0, 1)), .inl (sc.2 (i + 1)), .inr (.inr (9, 0, 0))] M = dn sc kLaw_law 1 [.inr (.inr (99, 0, 1)), .inr (.inr (9, 0, 0)), .inr (.inr (10, 0, 0)), .inr (.inr (30, 0, 1)), .inl (nI (i + 5))] [] N1 ∧ GI b N1 (40 * (i + 5)) := by
  have hB : 40 * i ≤ 40 * (i + 5) := by omega
  obtain ⟨x2, M1, y, N1, c1, c2, c3, c4, b, c5⟩ := LB_call (B := 40 * (i + 5)) (kTop_dropped, 0, [1, 0, 0]) (GSM_m (SIR_G g (S_dropped g.2.1 (sc.2 (i + 1)))) (by omega)) (by decide) (fun e v M1 h => by
    have := ex_dropped h
    dsimp only at this
    have he : e = 0 := by omega
    subst he; decide) (fun N r h => mod_30 (by decide) (by decide) (by simp only [fr_s_cons, fr_v_i, fr_v_r]; exact ⟨by decide, trivial, fr_s_nil⟩) h)
  refine ⟨N1, b, ?_, c5⟩

  rw [E_Law_law_144, E_Lw_dropped, c1, r1_s, nI_1, i_ib (show i + 1 < sc.1 by omega) (by omega), if_pos rfl, i_cl (show i + 1 < 2147483648 by omega), c2, r1_s, E_Model_thrown_0, r1_s, c3, if_pos rfl]
  have e5 : nI i + 5 = nI (i + 5) := nI_add i 5
  by_cases z : x2 = 0
  · rw [if_pos z, show sm_ib 0 1 = true from rfl, if_pos rfl, show (0 : Int32).toNatClampNeg = 0 from rfl, c4 z, show foW (kTop_dropped, 0, [1, 0, 0]) y = y.toInt64 from rfl, if_pos ((lg_cmp_eq _ _).mpr rfl), e5]
  · rw [if_neg z, e5]
theorem LB_go {sc : Nat × (Nat → Int32)} {M : sm_M} {a : Nat → Nat → Int32} {i : Nat} (hsc : sc.1 ≤ 2560) (hi : i + 5 ≤ sc.1) (g : GI a M (40 * i)) : ∃ N1 b, dn sc kLaw_law 85 [.inr (.inr (99, 0, 1)), .inr (.inr (9, 0, 0)), .inr (.inr (10, 0, 0)), .inr (.inr (30, 0, 1)), .inl (nI i)] [.inr (.inr (30, 0, 1)), .inl (bI (!decide (sc.2 (i + 2) = 0))), .inl (sc.2 (i + 1)), .inr (.inr (9, 0, 0))] M = dn sc kLaw_law 1 [.inr (.inr (99, 0, 1)), .inr (.inr (9, 0, 0)), .inr (.inr (10, 0, 0)), .inr (.inr (30, 0, 1)), .inl (nI (i + 5))] [] N1 ∧ GI b N1 (40 * (i + 5)) := by
  have hB : 40 * i ≤ 40 * (i + 5) := by omega
  obtain ⟨x2, M1, y, N1, c1, c2, c3, c4, b, c5⟩ := LB_call (B := 40 * (i + 5)) (kTop_go, 1, [1, 0, 2]) (GSM_m (SIR_G g (S_go g.1 g.2.1 (by omega) (sc.2 (i + 1)) (!decide (sc.2 (i + 2) = 0)))) (by omega)) (by decide) (fun e v M1 h => by
    have := ex_go h
    dsimp only at this
    have he : e = 0 ∨ e = 2 := by omega
    rcases he with rfl | rfl <;> decide) (fun N r h => mod_30 (by decide) (by decide) (by simp only [fr_s_cons, fr_v_i, fr_v_r]; exact ⟨by decide, trivial, trivial, fr_s_nil⟩) h)
  refine ⟨N1, b, ?_, c5⟩

  have e88 : ∀ v, v = bI (!decide (sc.2 (i + 2) = 0)) → dn sc kLaw_law 88 [.inr (.inr (99, 0, 1)), .inr (.inr (9, 0, 0)), .inr (.inr (10, 0, 0)), .inr (.inr (30, 0, 1)), .inl (nI i), .inl x2] [.inl v, .inl (sc.2 (i + 1)), .inr (.inr (10, 0, 0))] M1 = dn sc kLaw_law 1 [.inr (.inr (99, 0, 1)), .inr (.inr (9, 0, 0)), .inr (.inr (10, 0, 0)), .inr (.inr (30, 0, 1)), .inl (nI (i + 5))] [] N1 := by
    intro v hv
    have e5 : nI i + 5 = nI (i + 5) := nI_add i 5
    rw [hv, E_Law_law_88, c2, r1_s, E_Model_thrown_0, r1_s, c3, if_pos rfl]
    by_cases z : x2 = 0
    · rw [if_pos z, show sm_ib 0 1 = true from rfl, if_pos rfl, show (0 : Int32).toNatClampNeg = 0 from rfl, c4 z]
      by_cases zy : y = 0
      · rw [if_pos zy, E_Law_law_94, if_pos ((lg_cmp_eq _ _).mpr (show foW (kTop_go, 1, [1, 0, 2]) y = 0 from if_pos zy)), e5]
      · rw [if_neg zy, E_Law_law_94, if_pos ((lg_cmp_eq _ _).mpr (show foW (kTop_go, 1, [1, 0, 2]) y = 1 from if_neg zy)), e5]
    · rw [if_neg z, e5]
  rw [E_Law_law_85, E_Lw_go, c1, r1_s, nI_1, i_ib (show i + 1 < sc.1 by omega) (by omega), if_pos rfl, show (2 : Int32) = nI 2 from rfl, nI_add, i_ib (show i + 2 < sc.1 by omega) (by omega), if_pos rfl, i_cl (show i + 2 < 2147483648 by omega), i_cl (show i + 1 < 2147483648 by omega)]
  by_cases z : sc.2 (i + 2) = 0
  · rw [if_pos z]
    exact e88 0 (by rw [decide_eq_true z]; rfl)
  · rw [if_neg z]
    exact e88 1 (by rw [decide_eq_false z]; rfl)
theorem LB_1 {sc : Nat × (Nat → Int32)} {M : sm_M} {a : Nat → Nat → Int32} {i : Nat} (hsc : sc.1 ≤ 2560) (hi : i + 5 ≤ sc.1) (g : GI a M (40 * i)) : ∃ N1 b, dn sc kLaw_law 1 [.inr (.inr (99, 0, 1)), .inr (.inr (9, 0, 0)), .inr (.inr (10, 0, 0)), .inr (.inr (30, 0, 1)), .inl (nI i)] [] M = dn sc kLaw_law 1 [.inr (.inr (99, 0, 1)), .inr (.inr (9, 0, 0)), .inr (.inr (10, 0, 0)), .inr (.inr (30, 0, 1)), .inl (nI (i + 5))] [] N1 ∧ GI b N1 (40 * (i + 5)) := by
  have hB : 40 * i ≤ 40 * (i + 5) := by omega
  have e5 : nI i + 5 = nI (i + 5) := nI_add i 5
  have e1 : nI i + 1 = nI (i + 1) := nI_add i 1
  have e2 : nI i + 2 = nI (i + 2) := nI_add i 2
  have e3 : nI i + 3 = nI (i + 3) := nI_add i 3
  have e4 : nI i + 4 = nI (i + 4) := nI_add i 4
  have b0 : sm_ib (nI i) sc.1 = true := i_ib (by omega) (by omega)
  have b1 : sm_ib (nI (i + 1)) sc.1 = true := i_ib (by omega) (by omega)
  have b2 : sm_ib (nI (i + 2)) sc.1 = true := i_ib (by omega) (by omega)
  have b3 : sm_ib (nI (i + 3)) sc.1 = true := i_ib (by omega) (by omega)
  have b4 : sm_ib (nI (i + 4)) sc.1 = true := i_ib (by omega) (by omega)
  have c0 : (nI i).toNatClampNeg = i := i_cl (by omega)
  have c1 : (nI (i + 1)).toNatClampNeg = i + 1 := i_cl (by omega)
  have c2 : (nI (i + 2)).toNatClampNeg = i + 2 := i_cl (by omega)
  have c3 : (nI (i + 3)).toNatClampNeg = i + 3 := i_cl (by omega)
  have c4 : (nI (i + 4)).toNatClampNeg = i + 4 := i_cl (by omega)
  have lt : ¬ nI sc.1 - 5 < nI i := by
    have h5 : nI sc.1 - 5 = nI (sc.1 - 5) := (Int32.ofNat_sub sc.1 5 (by omega)).symm
    rw [h5, i_lt (by omega) (by omega)]
    omega
  rw [E_Law_law_1, if_neg lt, b0, if_pos rfl, c0]
  generalize hk : sc.2 i &&& 31 = k
  by_cases k0 : k = 0
  · rw [if_pos k0]
    rw [e1, e2, e3, e4, b1, if_pos rfl, b2, if_pos rfl, b3, if_pos rfl, b4, if_pos rfl, c1, c2, c3, c4]
    exact LB_step hsc hi g
  rw [if_neg k0]
  by_cases k1 : k = 1
  · rw [if_pos k1]
    rw [e1, e2, e3, b1, if_pos rfl, b2, if_pos rfl, b3, if_pos rfl, c1, c2, c3]
    exact LB_channel hsc hi g
  rw [if_neg k1]
  by_cases k2 : k = 2
  · rw [if_pos k2]
    rw [e1, e2, e3, e4, b1, if_pos rfl, b2, if_pos rfl, b3, if_pos rfl, b4, if_pos rfl, c1, c2, c3, c4]
    exact LB_op hsc hi g
  rw [if_neg k2]
  by_cases k3 : k = 3
  · rw [if_pos k3]
    rw [e1, b1, if_pos rfl, c1]
    exact LB_unop hsc hi g
  rw [if_neg k3]
  by_cases k4 : k = 4
  · rw [if_pos k4]
    rw [e1, b1, if_pos rfl, c1]
    exact LB_check hsc hi g
  rw [if_neg k4]
  by_cases k5 : k = 5
  · rw [if_pos k5]
    rw [e1, b1, if_pos rfl, c1]
    exact LB_error hsc hi g
  rw [if_neg k5]
  by_cases k6 : k = 6
  · rw [if_pos k6]
    rw [e1, b1, if_pos rfl, c1]
    exact LB_borrower hsc hi g
  rw [if_neg k6]
  by_cases k7 : k = 7
  · rw [if_pos k7]
    rw [e1, e2, e3, b1, if_pos rfl, b2, if_pos rfl, b3, if_pos rfl, c1, c2, c3]
    exact LB_holds hsc hi g
  rw [if_neg k7]
  by_cases k8 : k = 8
  · rw [if_pos k8]
    rw [e1, e2, e3, b1, if_pos rfl, b2, if_pos rfl, b3, if_pos rfl, c1, c2, c3]
    exact LB_at hsc hi g
  rw [if_neg k8]
  by_cases k9 : k = 9
  · rw [if_pos k9]
    rw [e1, e2, b1, if_pos rfl, b2, if_pos rfl, c1, c2]
    exact LB_lives hsc hi g
  rw [if_neg k9]
  by_cases k10 : k = 10
  · rw [if_pos k10]
    exact LB_stuck hsc hi g
  rw [if_neg k10]
  by_cases k11 : k = 11
  · rw [if_pos k11]
    obtain ⟨e, x, Mc, h1, h2⟩ := GSM_m (SIR_G g (S_begin (sc := sc) g.1 g.2.1)) hB
    obtain rfl : e = 0 := ex_begin h1
    obtain ⟨y, N1, q1, q2, q3, b, q4⟩ := h2 Mc (fun _ _ => ⟨rfl, rfl⟩)
    refine ⟨N1, b, ?_, q4⟩
    dsimp only at q1
    rw [h1, r0_s, q1, r0_s, e5]
  rw [if_neg k11]
  by_cases k12 : k = 12
  · rw [if_pos k12]
    rw [e1, e2, b1, if_pos rfl, b2, if_pos rfl, c2, c1]
    by_cases z : sc.2 (i + 2) = 0
    · rw [if_pos z]
      have h := LB_go hsc hi g
      rw [decide_eq_true z] at h
      exact h
    · rw [if_neg z]
      have h := LB_go hsc hi g
      rw [decide_eq_false z] at h
      exact h
  rw [if_neg k12]
  by_cases k13 : k = 13
  · rw [if_pos k13]
    rw [e1, e2, b1, if_pos rfl, b2, if_pos rfl, c1, c2]
    exact LB_run hsc hi g
  rw [if_neg k13]
  by_cases k14 : k = 14
  · rw [if_pos k14]
    rw [e1, b1, if_pos rfl, c1]
    exact LB_state hsc hi g
  rw [if_neg k14]
  by_cases k15 : k = 15
  · rw [if_pos k15]
    rw [e1, b1, if_pos rfl, c1]
    exact LB_fault hsc hi g
  rw [if_neg k15]
  by_cases k16 : k = 16
  · rw [if_pos k16]
    rw [e1, b1, if_pos rfl, c1]
    exact LB_place hsc hi g
  rw [if_neg k16]
  by_cases k17 : k = 17
  · rw [if_pos k17]
    rw [e1, e2, b1, if_pos rfl, b2, if_pos rfl, c1, c2]
    exact LB_value hsc hi g
  rw [if_neg k17]
  by_cases k18 : k = 18
  · rw [if_pos k18]
    rw [e1, e2, b1, if_pos rfl, b2, if_pos rfl, c1, c2]
    exact LB_waiting hsc hi g
  rw [if_neg k18]
  by_cases k19 : k = 19
  · rw [if_pos k19]
    obtain ⟨e, x, Mc, h1, h2⟩ := GSM_m (SIR_G g (S_made (sc := sc) g.2.1)) hB
    obtain rfl : e = 0 := ex_made h1
    obtain ⟨y, N1, q1, q2, q3, b, q4⟩ := h2 Mc (fun _ _ => ⟨rfl, rfl⟩)
    refine ⟨N1, b, ?_, q4⟩
    dsimp only at q1
    rw [h1, r1_s, q1, r1_s, if_pos (q3 rfl), e5]
  rw [if_neg k19]
  by_cases k20 : k = 20
  · rw [if_pos k20]
    obtain ⟨e, x, Mc, h1, h2⟩ := GSM_m (SIR_G g (S_drops (sc := sc) g.2.1)) hB
    obtain rfl : e = 0 := ex_drops h1
    obtain ⟨y, N1, q1, q2, q3, b, q4⟩ := h2 Mc (fun _ _ => ⟨rfl, rfl⟩)
    refine ⟨N1, b, ?_, q4⟩
    dsimp only at q1
    rw [h1, r1_s, q1, r1_s, if_pos (q3 rfl), e5]
  rw [if_neg k20]
  by_cases k21 : k = 21
  · rw [if_pos k21]
    rw [e1, b1, if_pos rfl, c1]
    exact LB_dropped hsc hi g
  rw [if_neg k21]
  exact ⟨M, a, by rw [e5], GI_m g hB⟩
theorem LB_e {sc : Nat × (Nat → Int32)} {M : sm_M} {i : Nat} (hsc : sc.1 ≤ 2560) (hi : sc.1 < i + 5) (h3 : i < 3000) : dn sc kLaw_law 1 [.inr (.inr (99, 0, 1)), .inr (.inr (9, 0, 0)), .inr (.inr (10, 0, 0)), .inr (.inr (30, 0, 1)), .inl (nI i)] [] M = some (0, .inl 1, M) := by
  rw [E_Law_law_1, if_pos]
  rw [Int32.lt_iff_toInt_lt, nI_toInt (by omega)]
  have : (nI sc.1 - 5).toInt = (sc.1 : Int) - 5 := by
    rw [Int32.toInt_sub, nI_toInt (by omega), show (5 : Int32).toInt = 5 from rfl, Int.bmod_eq_of_le (by omega) (by omega)]
  omega
/-- the law's loop answers 1 -/
theorem LB {sc : Nat × (Nat → Int32)} (hsc : sc.1 ≤ 2560) : ∀ n i (M : sm_M) (a : Nat → Nat → Int32), sc.1 < i + 5 * n → GI a M (40 * i) → i < 3000 → ∃ N, dn sc kLaw_law 1 [.inr (.inr (99, 0, 1)), .inr (.inr (9, 0, 0)), .inr (.inr (10, 0, 0)), .inr (.inr (30, 0, 1)), .inl (nI i)] [] M = some (0, .inl 1, N) := by
  intro n
  induction n with
  | zero =>
    intro i M a hi g h3
    exact ⟨M, LB_e hsc (by omega) h3⟩
  | succ n ih =>
    intro i M a hi g h3
    by_cases z : i + 5 ≤ sc.1
    · obtain ⟨N1, b, h1, h2⟩ := LB_1 hsc z g
      rw [h1]
      exact ih (i + 5) N1 b (by omega) h2 (by omega)
    · exact ⟨M, LB_e hsc (by omega) h3⟩
