/-! LEVEL B: the run: what ops make of a body of the class -/
/-- cells of a body behind writes elsewhere in it -/
theorem vac_h {M : sm_M} {p a : Nat} {L : Int32} {v : Nat} : hC (vacM M p a L) p v = upL (hC M p) a 0 v := by
  unfold vacM hC upL
  by_cases z : v = a
  · rw [if_pos z, z, u_hit]
  · rw [if_neg z, u_mis (by omega)]
    split
    · rw [dpC_c (by decide)]; exact u_mis (by omega)
    · exact u_mis (by omega)
theorem vac_x {M : sm_M} {p a : Nat} {L : Int32} {j i : Nat} (h : j = 3 ∨ j = 4 ∨ j = 5 ∨ j = 6 ∨ (j = 0 ∧ ¬ i = 6)) : (vacM M p a L).1 0 p j i = M.1 0 p j i := by
  unfold vacM
  rw [u_mis (by omega)]
  split
  · rw [dpC_c (by decide)]; exact u_mis (by omega)
  · exact u_mis (by omega)
theorem vac_l {M : sm_M} {p a : Nat} {L : Int32} : (vacM M p a L).1 0 p 0 6 = L := by
  unfold vacM
  rw [u_mis (by omega)]
  split
  · rw [dpC_c (by decide)]; exact u_hit
  · exact u_hit
theorem vac_q {M : sm_M} {p a : Nat} {L : Int32} {c q j i : Nat} (h : ¬ (c = 0 ∧ q = p)) (h6 : ¬ c = 6) : (vacM M p a L).1 c q j i = M.1 c q j i := by
  unfold vacM
  rw [u_mis (by omega)]
  split
  · rw [dpC_c h6]; exact u_mis (by omega)
  · exact u_mis (by omega)
theorem vac_6 {M : sm_M} {p a : Nat} {L : Int32} {i : Nat} (h : ¬ i = 1) : (vacM M p a L).1 6 0 0 i = M.1 6 0 0 i := by
  unfold vacM
  rw [u_mis (by omega)]
  split
  · rw [dpC_f h]; exact u_mis (by omega)
  · exact u_mis (by omega)
/-- a variable owns -/
def putM (M : sm_M) (p a : Nat) (val kd : Int32) : sm_M := sm_u (sm_u (sm_u (sm_u (sm_u M 0 p 2 a 1) 0 p 3 a val) 0 p 4 a kd) 6 0 0 3 (M.1 6 0 0 3 + 1)) 0 p 5 a (M.1 6 0 0 3 + 1)
theorem P_own {sc : Nat × (Nat → Int32)} {M : sm_M} {p a d : Nat} {val kd : Int32} (ha : a < 6) (hd : M.1 6 0 0 1 = nI d) (hd2 : d ≤ 200) : ∃ L, dn sc kBody_own 0 [.inr (.inr (0, p, 0)), .inl (nI a), .inl val, .inl kd] [] M = some (0, .inl 0, putM (vacM M p a L) p a val kd) ∧ ∀ v, v < 6 → ¬ v = a → (bt L v = false ↔ (lpC M p v = false ∧ ¬ (hC M p a = 1 ∧ xC M p v = xC M p a ∧ (hC M p v = 2 ∨ hC M p v = 3)))) := by
  obtain ⟨L, l1, l2⟩ := P_vacate (sc := sc) (p := p) ha hd hd2
  refine ⟨L, ?_, l2⟩
  have e : ∀ X : sm_M, (sm_u (sm_u (sm_u X 0 p 2 a 1) 0 p 3 a val) 0 p 4 a kd).1 6 0 0 3 = X.1 6 0 0 3 := fun X => by rw [u_mis (by omega), u_mis (by omega), u_mis (by omega)]
  rw [E_Body_own_0, l1, r0_s, P_within, r1_s, show (6 : Int32) = nI 6 from rfl, within_nI (by omega) (by decide), decide_eq_true ha, if_neg (show ¬ bI true = 0 by decide), i_ib ha (by decide)]
  simp only [if_true]
  rw [i_cl (by omega), E_Ledger_newTime_0, r1_s, u_hit, e]
  rfl
/-- a variable shares, or has lent -/
def borM (M : sm_M) (p a u : Nat) (w K : Int32) : sm_M := lpM (sm_u (sm_u M 0 p 2 a w) 0 p 3 a (xC M p u)) p K
theorem P_borrow {sc : Nat × (Nat → Int32)} {M : sm_M} {p a u d : Nat} {w : Int32} (ha : a < 6) (hu : u < 6) (hau : ¬ a = u) (hd : M.1 6 0 0 1 = nI d) (hd2 : d ≤ 200) : ∃ L K, dn sc kBody_borrow 0 [.inr (.inr (0, p, 0)), .inl (nI a), .inl (nI u), .inl w] [] M = some (0, .inl 0, borM (vacM M p a L) p a u w K) ∧
    (∀ v, v < 6 → ¬ v = a → (bt L v = false ↔ (lpC M p v = false ∧ ¬ (hC M p a = 1 ∧ xC M p v = xC M p a ∧ (hC M p v = 2 ∨ hC M p v = 3))))) ∧ (∀ v, v < 6 → ¬ v = a → bt K v = bt L v) ∧ bt K a = ((decide (hC M p u = 2) || decide (hC M p u = 3)) && bt L u) := by
  obtain ⟨L, l1, l2⟩ := P_vacate (sc := sc) (p := p) ha hd hd2
  have eh : hC (sm_u (sm_u (vacM M p a L) 0 p 2 a w) 0 p 3 a (xC (vacM M p a L) p u)) p u = hC M p u := by
    unfold hC
    rw [u_mis (by omega), u_mis (by omega)]
    have := vac_h (M := M) (p := p) (a := a) (L := L) (v := u)
    rw [up_o (fun z => hau z.symm)] at this
    exact this
  have el : lpC (sm_u (sm_u (vacM M p a L) 0 p 2 a w) 0 p 3 a (xC (vacM M p a L) p u)) p u = bt L u := by
    unfold lpC
    rw [u_mis (by omega), u_mis (by omega), vac_l]
  have e6 : (sm_u (sm_u (vacM M p a L) 0 p 2 a w) 0 p 3 a (xC (vacM M p a L) p u)).1 0 p 0 6 = L := by rw [u_mis (by omega), u_mis (by omega), vac_l]
  have ex : (sm_u (vacM M p a L) 0 p 2 a w).1 0 p 3 u = xC (vacM M p a L) p u := u_mis (by omega)
  refine ⟨L, if ((decide (hC M p u = 2) || decide (hC M p u = 3)) && bt L u) = true then L ||| (1 <<< (nI a &&& 31)) else L &&& ((1 <<< (nI a &&& 31)) ^^^ (-1)), ?_, l2, fun v hv hva => ?_, ?_⟩
  · rw [E_Body_borrow_0, l1, r0_s, P_within, r1_s, show (6 : Int32) = nI 6 from rfl, within_nI (by omega) (by decide), decide_eq_true ha, if_neg (show ¬ bI true = 0 by decide), P_within, r1_s, within_nI (by omega) (by decide), decide_eq_true hu, if_neg (show ¬ bI true = 0 by decide), i_ib ha (by decide), i_ib hu (by decide)]
    simp only [if_true]
    rw [i_cl (show a < 2147483648 by omega), i_cl (show u < 2147483648 by omega), ex, P_bLapsed hu, r1_s, eh, el, e6]
    unfold borM lpM
    cases ((decide (hC M p u = 2) || decide (hC M p u = 3)) && bt L u) with
    | true => rw [if_neg (show ¬ bI true = 0 by decide), if_pos rfl]
    | false => rw [if_pos (show bI false = 0 from rfl), if_neg (show ¬ false = true by decide)]
  · split
    · rw [b_set a (by omega) _ (by omega), decide_eq_false hva, Bool.or_false]
    · rw [b_clr a (by omega) _ (by omega), decide_eq_false hva, Bool.not_false, Bool.and_true]
  · split
    · next z => rw [b_set a (by omega) _ (by omega), decide_eq_true rfl, Bool.or_true, z]
    · next z =>
      rw [b_clr a (by omega) _ (by omega), decide_eq_true rfl, Bool.not_true, Bool.and_false]
      cases y : ((decide (hC M p u = 2) || decide (hC M p u = 3)) && bt L u) with
      | false => rfl
      | true => exact absurd y z
/-- a value is numbered -/
def numM (M : sm_M) : sm_M := sm_u M 6 0 0 2 (M.1 6 0 0 2 + 1)
theorem add1_sub (x : Int32) : x + 1 - 1 = x := by
  apply Int32.toBitVec_inj.mp
  show x.toBitVec + 1#32 - 1#32 = x.toBitVec
  rw [BitVec.add_sub_cancel]
theorem P_newValue {sc : Nat × (Nat → Int32)} {M : sm_M} : dn sc kLedger_newValue 0 [.inr (.inr (6, 0, 0))] [] M = some (0, .inl (M.1 6 0 0 2), numM M) := by
  rw [E_Ledger_newValue_0, u_hit, add1_sub]; rfl
/-- what leaves a variable that owns: a copy -/
theorem P_hand0 {sc : Nat × (Nat → Int32)} {M : sm_M} {p u : Nat} (hu : u < 6) (h1 : hC M p u = 1) (hk : kC M p u = 0) : ∃ L, dn sc kBody_handOver 0 [.inr (.inr (0, p, 0)), .inl (nI u)] [] M = some (0, .inl (M.1 6 0 0 2), numM (lpM M p L)) ∧ ∀ v, v < 6 → (bt L v = false ↔ (lpC M p v = false ∧ ¬ (¬ v = u ∧ hC M p v = 3 ∧ xC M p v = xC M p u))) := by
  obtain ⟨L, l1, l2⟩ := P_eLo (sc := sc) M p hu (xC M p u)
  refine ⟨L, ?_, l2⟩
  have e : kC (lpM M p L) p u = 0 := lpM_h.2.2.1.trans hk
  rw [E_Body_handOver_0, P_bValue hu, r1_s, if_neg (by rw [h1]; decide), l1, r0_s, P_bKind hu, r1_s, if_pos e, P_newValue, r1_s]
  rw [show (lpM M p L).1 6 0 0 2 = M.1 6 0 0 2 from u_mis (by omega)]
/-- what leaves a variable that owns: the value itself -/
theorem P_hand1 {sc : Nat × (Nat → Int32)} {M : sm_M} {p u : Nat} (hu : u < 6) (h1 : hC M p u = 1) (hk : ¬ kC M p u = 0) : ∃ L, dn sc kBody_handOver 0 [.inr (.inr (0, p, 0)), .inl (nI u)] [] M = some (0, .inl (xC M p u), sm_u (lpM M p L) 0 p 2 u 0) ∧ ∀ v, v < 6 → ¬ v = u → (bt L v = false ↔ (lpC M p v = false ∧ ¬ (hC M p u = 1 ∧ xC M p v = xC M p u ∧ (hC M p v = 2 ∨ hC M p v = 3)))) := by
  obtain ⟨L, l1, l2⟩ := P_eLo (sc := sc) M p hu (xC M p u)
  obtain ⟨K, k1, k2⟩ := P_eSh (sc := sc) (lpM M p L) p (xC M p u)
  refine ⟨K, ?_, fun v hv hvu => ?_⟩
  · have e : ¬ kC (lpM M p L) p u = 0 := by rw [lpM_h.2.2.1]; exact hk
    rw [E_Body_handOver_0, P_bValue hu, r1_s, if_neg (by rw [h1]; decide), l1, r0_s, P_bKind hu, r1_s, if_neg e, k1, r0_s, lpM_u, P_bClear hu, r0_s]
  · have e1 : lpC (lpM M p L) p v = bt L v := by unfold lpC; rw [lpM_l]
    rw [k2 v hv, e1, l2 v hv, lpM_h.1, lpM_h.2.1]
    refine ⟨fun ⟨⟨a1, a2⟩, a3⟩ => ⟨a1, fun ⟨_, b1, b2⟩ => b2.elim (fun y => a3 ⟨y, b1⟩) (fun y => a2 ⟨hvu, y, b1⟩)⟩, fun ⟨a1, a2⟩ => ⟨⟨a1, fun y => a2 ⟨h1, y.2.2, Or.inr y.2.1⟩⟩, fun y => a2 ⟨h1, y.2, Or.inl y.1⟩⟩⟩
theorem P_free {sc : Nat × (Nat → Int32)} {M : sm_M} {p u d : Nat} (hu : u < 6) (h1 : hC M p u = 1) (hd : M.1 6 0 0 1 = nI d) (hd2 : d ≤ 200) : ∃ L, dn sc kBody_free 0 [.inr (.inr (0, p, 0)), .inl (nI u)] [] M = some (0, .inl 0, sm_u (lpM (dpC M (xC M p u)) p L) 0 p 2 u 0) ∧ ∀ v, v < 6 → ¬ v = u → (bt L v = false ↔ (lpC M p v = false ∧ ¬ (hC M p u = 1 ∧ xC M p v = xC M p u ∧ (hC M p v = 2 ∨ hC M p v = 3)))) := by
  have h0 : ¬ hC M p u = 0 := by rw [h1]; decide
  have e2 : ∀ v, hC (dpC M (xC M p u)) p v = hC M p v ∧ xC (dpC M (xC M p u)) p v = xC M p v ∧ lpC (dpC M (xC M p u)) p v = lpC M p v := fun v => ⟨dpC_c (by decide), dpC_c (by decide), by unfold lpC; rw [dpC_c (by decide)]⟩
  obtain ⟨L, l1, l2⟩ := P_eAll (sc := sc) (dpC M (xC M p u)) p hu (by rw [(e2 u).1]; exact h0)
  refine ⟨L, ?_, fun v hv hvu => ?_⟩
  · rw [E_Body_free_0, P_bValue hu, r1_s, if_neg h0, P_drop hd hd2, r0_s, l1, r0_s, P_bClear hu, r0_s]
  · rw [l2 v hv, (e2 v).1, (e2 v).2.1, (e2 v).2.2, (e2 u).2.1]
    exact ⟨fun ⟨a1, a2⟩ => ⟨a1, fun ⟨_, b1, b2⟩ => a2 ⟨b1, b2.imp id (fun y => ⟨hvu, y⟩)⟩⟩, fun ⟨a1, a2⟩ => ⟨a1, fun ⟨b1, b2⟩ => a2 ⟨h1, b1, b2.imp id (fun y => y.2)⟩⟩⟩
theorem P_read {sc : Nat × (Nat → Int32)} {M : sm_M} {p u : Nat} (hu : u < 6) (h0 : ¬ hC M p u = 0) : ∃ L, dn sc kBody_read 0 [.inr (.inr (0, p, 0)), .inl (nI u)] [] M = some (0, .inl 0, lpM M p L) ∧ ∀ v, v < 6 → (bt L v = false ↔ (lpC M p v = false ∧ ¬ (¬ v = u ∧ hC M p v = 3 ∧ xC M p v = xC M p u))) := by
  obtain ⟨L, l1, l2⟩ := P_eLo (sc := sc) M p hu (xC M p u)
  exact ⟨L, by rw [E_Body_read_0, P_bValue hu, r1_s, if_neg h0, l1, r0_s], l2⟩
theorem P_write {sc : Nat × (Nat → Int32)} {M : sm_M} {p u : Nat} (hu : u < 6) (h0 : ¬ hC M p u = 0) : ∃ L, dn sc kBody_write 0 [.inr (.inr (0, p, 0)), .inl (nI u)] [] M = some (0, .inl 0, lpM M p L) ∧ ∀ v, v < 6 → (bt L v = false ↔ (lpC M p v = false ∧ ¬ (xC M p v = xC M p u ∧ (hC M p v = 2 ∨ (¬ v = u ∧ hC M p v = 3))))) := by
  obtain ⟨L, l1, l2⟩ := P_eAll (sc := sc) M p hu h0
  exact ⟨L, by rw [E_Body_write_0, l1, r0_s], l2⟩
