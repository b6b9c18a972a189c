/-! LEVEL B: the run: messages that wait, sides of channels -/
theorem i_m2 {k : Nat} : nI k * 2 = nI (2 * k) := by rw [show (2 : Int32) = nI 2 from rfl, i_mul, Nat.mul_comm]
theorem i_2m {k : Nat} : 2 * nI k = nI (2 * k) := by rw [show (2 : Int32) = nI 2 from rfl, i_mul]
theorem P_gSize {sc : Nat × (Nat → Int32)} {M : sm_M} {k : Nat} (hk : k < 6) : dn sc kMessages_size 0 [.inr (.inr (7, 0, 0)), .inl (nI k)] [] M = some (0, .inl (M.1 7 0 1 k), M) := by
  rw [E_Messages_size_0, P_within, r1_s, show (6 : Int32) = nI 6 from rfl, within_nI (by omega) (by decide), decide_eq_true hk, if_neg (show ¬ bI true = 0 by decide), i_ib hk (by decide), if_pos rfl, i_cl (by omega)]
theorem P_gSize_n {sc : Nat × (Nat → Int32)} {M : sm_M} : dn sc kMessages_size 0 [.inr (.inr (7, 0, 0)), .inl (-1)] [] M = some (0, .inl 0, M) := by
  rw [E_Messages_size_0, P_within, r1_s, show (!decide ((-1 : Int32) < 0) && decide ((-1 : Int32) < 6)) = false by decide, if_pos (show bI false = 0 from rfl)]
theorem P_gVal {sc : Nat × (Nat → Int32)} {M : sm_M} {k i m : Nat} (hk : k < 6) (hm : M.1 7 0 1 k = nI m) (h2 : m ≤ 2) (hi : i < 100) : dn sc kMessages_valueAt 0 [.inr (.inr (7, 0, 0)), .inl (nI k), .inl (nI i)] [] M = some (0, .inl (if i < m then M.1 7 0 2 (2 * k + i) else -1), M) := by
  rw [E_Messages_valueAt_0, P_gSize hk, r1_s, hm, P_within, r1_s, within_nI (by omega) (by omega)]
  by_cases q : i < m
  · rw [decide_eq_true q, if_neg (show ¬ bI true = 0 by decide), i_m2, nI_add, i_ib (show 2 * k + i < 12 by omega) (by decide), if_pos rfl, i_cl (by omega), if_pos q]
  · rw [decide_eq_false q, if_pos (show bI false = 0 from rfl), if_neg q]
theorem P_gMark {sc : Nat × (Nat → Int32)} {M : sm_M} {k m : Nat} (hk : k < 6) (hm : M.1 7 0 1 k = nI m) (h0 : 0 < m) (h2 : m ≤ 2) : dn sc kMessages_firstMark 0 [.inr (.inr (7, 0, 0)), .inl (nI k)] [] M = some (0, .inl (M.1 7 0 3 (2 * k)), M) := by
  rw [E_Messages_firstMark_0, P_gSize hk, r1_s, hm, if_pos (show (0 : Int32) < nI m from by rw [show (0 : Int32) = nI 0 from rfl, i_lt (by decide) (by omega)]; exact h0), i_m2, i_ib (show 2 * k < 12 by omega) (by decide), if_pos rfl, i_cl (by omega)]
def adC (M : sm_M) (k m : Nat) (v d : Int32) : sm_M := sm_u (sm_u (sm_u M 7 0 2 (2 * k + m) v) 7 0 3 (2 * k + m) d) 7 0 1 k (nI (m + 1))
theorem P_gAdd {sc : Nat × (Nat → Int32)} {M : sm_M} {k m : Nat} {v d : Int32} (hk : k < 6) (hm : M.1 7 0 1 k = nI m) (h2 : m < 2) : dn sc kMessages_add 0 [.inr (.inr (7, 0, 0)), .inl (nI k), .inl v, .inl d] [] M = some (0, .inl 0, adC M k m v d) := by
  rw [E_Messages_add_0, P_gSize hk, r1_s, hm, P_within, r1_s, show (6 : Int32) = nI 6 from rfl, within_nI (by omega) (by decide), decide_eq_true hk, if_neg (show ¬ bI true = 0 by decide), if_pos (show nI m < (2 : Int32) from by rw [show (2 : Int32) = nI 2 from rfl, i_lt (by omega) (by decide)]; exact h2), i_m2, nI_add, i_ib (show 2 * k + m < 12 by omega) (by decide), i_ib hk (by decide)]
  simp only [if_true]
  rw [i_cl (show 2 * k + m < 2147483648 by omega), i_cl (show k < 2147483648 by omega), u_mis (by omega), u_mis (by omega), hm, nI_1]
  rfl
def rmC (M : sm_M) (k m : Nat) : sm_M := if m = 2 then sm_u (sm_u (sm_u M 7 0 2 (2 * k) (M.1 7 0 2 (2 * k + 1))) 7 0 3 (2 * k) (M.1 7 0 3 (2 * k + 1))) 7 0 1 k 1 else sm_u M 7 0 1 k 0
theorem P_gRm {sc : Nat × (Nat → Int32)} {M : sm_M} {k m : Nat} (hk : k < 6) (hm : M.1 7 0 1 k = nI m) (h0 : 0 < m) (h2 : m ≤ 2) : dn sc kMessages_removeFirst 0 [.inr (.inr (7, 0, 0)), .inl (nI k)] [] M = some (0, .inl 0, rmC M k m) := by
  rw [E_Messages_removeFirst_0, P_gSize hk, r1_s, hm]
  unfold rmC
  by_cases q : m = 2
  · subst q
    rw [if_pos rfl, E_Messages_removeFirst_1, if_pos (by decide), if_pos (by decide), i_m2, nI_1, show nI (2 * k + 1) - 1 = nI (2 * k) from by rw [← nI_1, add1_sub], i_ib (show 2 * k + 1 < 12 by omega) (by decide), i_ib (show 2 * k < 12 by omega) (by decide)]
    simp only [if_true]
    rw [E_Messages_removeFirst_1, if_neg (by decide), E_Messages_removeFirst_4, if_pos (by decide), i_ib hk (by decide)]
    simp only [if_true]
    rw [i_cl (show 2 * k + 1 < 2147483648 by omega), i_cl (show 2 * k < 2147483648 by omega), i_cl (show k < 2147483648 by omega), u_mis (by omega), u_mis (by omega), u_mis (by omega), hm]
    rfl
  · obtain rfl : m = 1 := by omega
    rw [if_neg (by omega), E_Messages_removeFirst_1, if_neg (by decide), E_Messages_removeFirst_4, if_pos (by decide), i_ib hk (by decide)]
    simp only [if_true]
    rw [i_cl (show k < 2147483648 by omega), hm]
    rfl
theorem P_gEmpty {sc : Nat × (Nat → Int32)} {M : sm_M} {k : Nat} (hk : k < 6) : dn sc kMessages_empty 0 [.inr (.inr (7, 0, 0)), .inl (nI k)] [] M = some (0, .inl 0, sm_u M 7 0 1 k 0) := by
  rw [E_Messages_empty_0, P_within, r1_s, show (6 : Int32) = nI 6 from rfl, within_nI (by omega) (by decide), decide_eq_true hk, if_neg (show ¬ bI true = 0 by decide), i_ib hk (by decide), if_pos rfl, i_cl (by omega)]
theorem P_gEmpty_n {sc : Nat × (Nat → Int32)} {M : sm_M} : dn sc kMessages_empty 0 [.inr (.inr (7, 0, 0)), .inl (-1)] [] M = some (0, .inl 0, M) := by
  rw [E_Messages_empty_0, P_within, r1_s, show (!decide ((-1 : Int32) < 0) && decide ((-1 : Int32) < 6)) = false by decide, if_pos (show bI false = 0 from rfl)]
/-- the side of a process, and who is beyond -/
def qN (a : Nat → Nat → Int32) (c p : Nat) : Nat := 2 * c + (if lA a c = p then 0 else 1)
def oN (a : Nat → Nat → Int32) (c p : Nat) : Nat := if lA a c = p then rA a c else lA a c
theorem of_c {a : Nat → Nat → Int32} {c p : Nat} (wf : wfA a) (h : ofA a c p = true) : c < cnA a ∧ c < 3 ∧ p < 3 ∧ oN a c p < 3 ∧ ¬ oN a c p = p ∧ ofA a c (oN a c p) = true ∧ oN a c (oN a c p) = p ∧ (lA a c = p ∨ (¬ lA a c = p ∧ rA a c = p)) := by
  unfold ofA at h
  rw [Bool.and_eq_true, Bool.or_eq_true, decide_eq_true_eq, decide_eq_true_eq, decide_eq_true_eq] at h
  obtain ⟨w7, w8, w9, w10, w11, w12, w13, _⟩ := wf.2.2.2.2 c h.1
  have hn := wf.2.2.2.1
  unfold oN ofA
  by_cases l : lA a c = p
  · rw [if_pos l, if_neg (fun z => w13 z)]
    refine ⟨h.1, by omega, by omega, w12, by omega, ?_, l, Or.inl l⟩
    rw [decide_eq_true h.1, decide_eq_true (show rA a c = rA a c from rfl), Bool.or_true]; rfl
  · have rr := h.2.resolve_left l
    rw [if_neg l, if_pos rfl]
    refine ⟨h.1, by omega, by omega, w11, by omega, ?_, rr, Or.inr ⟨l, rr⟩⟩
    rw [decide_eq_true h.1, decide_eq_true (show lA a c = lA a c from rfl), Bool.true_or]; rfl
theorem qN_6 {a : Nat → Nat → Int32} {c p : Nat} (hc : c < 3) : qN a c p < 6 := by unfold qN; split <;> omega
theorem of_n {a : Nat → Nat → Int32} {c p : Nat} (h : ofA a c p = false) : sdA a c p = -1 ∧ bdA a c p = -1 := by
  unfold ofA at h
  unfold sdA bdA
  by_cases q : c < cnA a
  · rw [decide_eq_true q, Bool.true_and, Bool.or_eq_false_iff, decide_eq_false_iff_not, decide_eq_false_iff_not] at h
    rw [if_pos q, if_neg h.1, if_neg h.2, if_pos q, if_neg h.1, if_neg h.2]
    exact ⟨rfl, rfl⟩
  · rw [if_neg q, if_neg q]; exact ⟨rfl, rfl⟩
theorem of_y {a : Nat → Nat → Int32} {c p : Nat} (wf : wfA a) (h : ofA a c p = true) : sdA a c p = nI (if lA a c = p then 0 else 1) ∧ bdA a c p = nI (oN a c p) := by
  obtain ⟨h1, h2, h3, h4, h5, h6, h7, h8⟩ := of_c wf h
  unfold sdA bdA oN
  rw [if_pos h1, if_pos h1]
  rcases h8 with l | ⟨l, r⟩
  · rw [if_pos l, if_pos l, if_pos l, if_pos l]; exact ⟨rfl, rfl⟩
  · rw [if_neg l, if_neg l, if_neg l, if_neg l, if_pos r, if_pos r]; exact ⟨rfl, rfl⟩
theorem P_qOf {sc : Nat × (Nat → Int32)} {a : Nat → Nat → Int32} {M : sm_M} {c p : Nat} (wf : wfA a) (r : rCh a M) (hc : c < 3) (hp : p < 3) : dn sc kCourse_queueOf 0 [.inr (.inr (3, 0, 0)), .inl (nI c), .inl (nI p)] [] M = some (0, .inl (if ofA a c p = true then nI (qN a c p) else -1), M) := by
  rw [E_Course_queueOf_0, P_side r hc hp, r1_s]
  cases h : ofA a c p with
  | false => rw [(of_n h).1, if_pos rfl, if_neg (show ¬ false = true by decide)]
  | true =>
    rw [(of_y wf h).1, if_neg (by split <;> decide), if_pos rfl, i_2m, nI_add]; rfl
theorem P_mSide {sc : Nat × (Nat → Int32)} {a : Nat → Nat → Int32} {N : sm_M} {c p : Nat} (wf : wfA a) (r : cr a N) (ho : ofA a c p = true) (b : Bool) : dn sc kModel_sideOf 0 [.inr (.inr (10, 0, 0)), .inl (nI c), .inl (nI p), .inl (bI b)] [] N = some (0, .inl (nI (if b = true then qN a c (oN a c p) else qN a c p)), N) := by
  obtain ⟨h1, h2, h3, h4, h5, h6, h7, h8⟩ := of_c wf ho
  obtain ⟨w7, w8, w9, w10, w11, w12, w13, _⟩ := wf.2.2.2.2 c h1
  rw [E_Model_sideOf_0, i_ib h2 (by decide), if_pos rfl, i_cl (by omega), cr_c r 8 c (by decide) (by decide), w8]
  unfold qN
  by_cases l : lA a c = p
  · have l2 : ¬ lA a c = oN a c p := fun z => h5 (z.symm.trans l)
    rw [if_pos (show nI (lA a c) = nI p by rw [l]), E_Model_sideOf_3, if_pos l, if_neg l2, i_2m]
    cases b with
    | false => rw [if_neg (by decide), if_neg (by decide)]; show some (0, Sum.inl (nI (2 * c) + nI 0), N) = _; rw [nI_add]
    | true => rw [if_pos (by decide), if_pos rfl, nI_1]
  · have l2 : lA a c = oN a c p := by unfold oN; rw [if_neg l]
    rw [if_neg (show ¬ nI (lA a c) = nI p by rw [i_eq (by omega) (by omega)]; exact l), E_Model_sideOf_3, if_neg l, if_pos l2, i_2m]
    cases b with
    | false => rw [if_pos (by decide), if_neg (by decide), nI_1]
    | true => rw [if_neg (by decide), if_pos rfl]; show some (0, Sum.inl (nI (2 * c) + nI 0), N) = _; rw [nI_add]
theorem P_mBey {sc : Nat × (Nat → Int32)} {a : Nat → Nat → Int32} {N : sm_M} {c p : Nat} (wf : wfA a) (r : cr a N) (ho : ofA a c p = true) : dn sc kModel_otherOf 0 [.inr (.inr (10, 0, 0)), .inl (nI c), .inl (nI p)] [] N = some (0, .inl (nI (oN a c p)), N) := by
  obtain ⟨h1, h2, h3, h4, h5, h6, h7, h8⟩ := of_c wf ho
  obtain ⟨w7, w8, w9, w10, w11, w12, w13, _⟩ := wf.2.2.2.2 c h1
  rw [E_Model_otherOf_0, i_ib h2 (by decide)]
  simp only [if_true]
  rw [i_cl (by omega), cr_c r 8 c (by decide) (by decide), cr_c r 9 c (by decide) (by decide), w8, w9]
  unfold oN
  by_cases l : lA a c = p
  · rw [if_pos (show nI (lA a c) = nI p by rw [l]), if_pos l]
  · rw [if_neg (show ¬ nI (lA a c) = nI p by rw [i_eq (by omega) (by omega)]; exact l), if_neg l]
