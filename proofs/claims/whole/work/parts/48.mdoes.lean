/-! LEVEL B: flows: the reference's ops: what is behind an op -/
theorem u_hit {M : sm_M} {c p j i : Nat} {x : Int32} : (sm_u M c p j i x).1 c p j i = x := if_pos ⟨rfl, rfl, rfl, rfl⟩
theorem u_mis {M : sm_M} {c p j i c' p' j' i' : Nat} {x : Int32} (h : ¬ (c' = c ∧ p' = p ∧ j' = j ∧ i' = i)) : (sm_u M c p j i x).1 c' p' j' i' = M.1 c' p' j' i' := if_neg h
theorem u_sme {M : sm_M} {c p j i : Nat} {x : Int32} (h : M.1 c p j i = x) : sm_u M c p j i x = M := by
  refine Prod.ext ?_ rfl
  funext c' p' j' i'
  rw [u_1]
  split
  · next z => obtain ⟨rfl, rfl, rfl, rfl⟩ := z; exact h.symm
  · rfl
theorem u_over {M : sm_M} {c p j i : Nat} {x y : Int32} : sm_u (sm_u M c p j i x) c p j i y = sm_u M c p j i y := by
  refine Prod.ext ?_ rfl
  funext c' p' j' i'
  rw [u_1, u_1, u_1]
  split <;> rfl
theorem u_comm {M : sm_M} {c p j i c2 p2 j2 i2 : Nat} {x y : Int32} (h : ¬ (c = c2 ∧ p = p2 ∧ j = j2 ∧ i = i2)) : sm_u (sm_u M c p j i x) c2 p2 j2 i2 y = sm_u (sm_u M c2 p2 j2 i2 y) c p j i x := by
  refine Prod.ext ?_ rfl
  funext c' p' j' i'
  rw [u_1, u_1, u_1, u_1]
  by_cases q : c' = c ∧ p' = p ∧ j' = j ∧ i' = i
  · rw [if_pos q, if_pos q, if_neg (fun z => h ⟨q.1.symm.trans z.1, q.2.1.symm.trans z.2.1, q.2.2.1.symm.trans z.2.2.1, q.2.2.2.symm.trans z.2.2.2⟩)]
  · rw [if_neg q, if_neg q]
/-- what the reference rests on while it finds -/
def cr (a : Nat → Nat → Int32) (N : sm_M) : Prop := telE a (mA N)
theorem cr_fr {S : Nat → Nat → Nat → Nat → Prop} {a : Nat → Nat → Int32} {M N : sm_M} (h : frS S M N) (hS : ∀ j i, S 10 0 j i → ¬ (2 ≤ j ∧ j ≤ 13) ∧ ¬ (j = 0 ∧ i = 5)) (r : cr a M) : cr a N := by
  refine ⟨(h.2 10 0 0 5 (fun z => (hS 0 5 z).2 ⟨rfl, rfl⟩)).trans r.1, fun j h2 h13 => ?_⟩
  rw [← r.2 j h2 h13]
  funext i
  exact h.2 10 0 j i (fun z => (hS j i z).1 ⟨h2, h13⟩)
/-- the cells that finding changes in the reference -/
def s10f (c p j i : Nat) : Prop := c = 10 ∧ p = 0 ∧ (j = 15 ∨ j = 16 ∨ j = 17 ∨ j = 18 ∨ (j = 0 ∧ (i = 18 ∨ i = 13)))
def s10n (c p j _i : Nat) : Prop := c = 10 ∧ p = 0 ∧ j = 18
theorem s10n_f : ∀ c p j i, s10n c p j i → s10f c p j i := fun c p j i h => by unfold s10n at h; unfold s10f; omega
theorem s10f_o : ∀ j i, s10f 10 0 j i → ¬ (2 ≤ j ∧ j ≤ 13) ∧ ¬ (j = 0 ∧ i = 5) := fun j i h => by unfold s10f at h; omega
theorem cr_f {a : Nat → Nat → Int32} {M N : sm_M} (h : frS s10f M N) (r : cr a M) : cr a N := cr_fr h s10f_o r
theorem in_sh (u : Int32) : (!decide (u < 10) && !decide ((19 : Int32) < u)) = shB u := by
  unfold shB
  have : (!decide ((19 : Int32) < u)) = decide (u < 20) := by
    rw [← decide_not]
    refine decide_eq_decide.mpr ?_
    rw [Int32.lt_iff_toInt_lt, Int32.lt_iff_toInt_lt, show (19 : Int32).toInt = 19 from rfl, show (20 : Int32).toInt = 20 from rfl]
    omega
  rw [this]
theorem in_ow (u : Int32) : (!decide (u < 1) && !decide ((3 : Int32) < u)) = owB u := by
  unfold owB
  have : (!decide ((3 : Int32) < u)) = decide (u < 4) := by
    rw [← decide_not]
    refine decide_eq_decide.mpr ?_
    rw [Int32.lt_iff_toInt_lt, Int32.lt_iff_toInt_lt, show (3 : Int32).toInt = 3 from rfl, show (4 : Int32).toInt = 4 from rfl]
    omega
  rw [this]
theorem P_mSh (sc : Nat × (Nat → Int32)) (M : sm_M) (u : Int32) : dn sc kModel_in 0 [.inl u, .inl 10, .inl 19] [] M = some (0, .inl (bI (shB u)), M) := by rw [P_in, in_sh]
theorem P_mOwner (sc : Nat × (Nat → Int32)) (M : sm_M) (u : Int32) : dn sc kModel_isOwner 0 [.inl u] [] M = some (0, .inl (bI (owB u)), M) := by rw [E_Model_isOwner_0, P_in, r1_s, bI_K, in_ow]
theorem P_mNeeds (sc : Nat × (Nat → Int32)) (M : sm_M) (w : Int32) : dn sc kModel_needs 0 [.inl w] [] M = some (0, .inl (ndK w), M) := by
  rw [E_Model_needs_0]
  unfold ndK
  repeat' split
  all_goals rfl
theorem cr_c {a : Nat → Nat → Int32} {N : sm_M} (r : cr a N) (j i : Nat) (h : 2 ≤ j) (h2 : j ≤ 13) : N.1 10 0 j i = a j i := congrFun (r.2 j h h2) i
theorem P_mIsOf {sc : Nat × (Nat → Int32)} {a : Nat → Nat → Int32} {N : sm_M} {c p : Nat} (wf : wfA a) (r : cr a N) (hc : c < 3) (hp : p < 3) : dn sc kModel_isOf 0 [.inr (.inr (10, 0, 0)), .inl (nI c), .inl (nI p)] [] N = some (0, .inl (bI (ofA a c p)), N) := by
  have h5 : N.1 10 0 0 5 = nI (cnA a) := r.1.trans wf.2.2.1
  have hn := wf.2.2.2.1
  rw [E_Model_isOf_0, h5]
  unfold ofA
  by_cases q : c < cnA a
  · obtain ⟨_, w8, w9, _, w11, w12, _⟩ := wf.2.2.2.2 c q
    rw [if_pos (by rw [i_lt (by omega) (by omega)]; exact q), i_ib hc (by decide), if_pos rfl, if_pos rfl, i_cl (by omega), cr_c r 8 c (by decide) (by decide), cr_c r 9 c (by decide) (by decide), w8, w9, decide_eq_true q, Bool.true_and]
    by_cases l : lA a c = p
    · rw [if_pos (by rw [l]), decide_eq_true l]; rfl
    · rw [if_neg (by rw [i_eq (by omega) (by omega)]; exact l), decide_eq_false l, ite_1, Bool.false_or]
      have e : decide (nI (rA a c) = nI p) = decide (rA a c = p) := decide_eq_decide.mpr (by rw [i_eq (by omega) (by omega)])
      rw [e]
  · rw [if_neg (by rw [i_lt (by omega) (by omega)]; exact q), decide_eq_false q]; rfl
theorem okS_wn {w x y : Int32} (h : okS w x y = true) : ∃ k, k < 5 ∧ w = nI k := by
  unfold okS at h
  by_cases q0 : w = 0 ∨ w = 1
  · rcases q0 with q | q
    · exact ⟨0, by decide, q⟩
    · exact ⟨1, by decide, q⟩
  rw [if_neg q0] at h
  by_cases q2 : w = 2 ∨ w = 3
  · rcases q2 with q | q
    · exact ⟨2, by decide, q⟩
    · exact ⟨3, by decide, q⟩
  rw [if_neg q2, decide_eq_true_eq] at h
  exact ⟨4, by decide, h⟩
theorem xor_trn : ∀ k, k < 5 → (if nI k = 4 then nI k else nI k ^^^ 1) = trn (nI k) := by decide
theorem P_mStepFor {sc : Nat × (Nat → Int32)} {a : Nat → Nat → Int32} {N : sm_M} {c p s : Nat} (wf : wfA a) (r : cr a N) (hp : p < 3) (ho : ofA a c p = true) (hs : s < pnA a (prA a c)) : dn sc kModel_stepFor 0 [.inr (.inr (10, 0, 0)), .inl (nI c), .inl (nI p), .inl (nI s)] [] N = some (0, .inl (askA a c p s), N) := by
  unfold ofA at ho
  rw [Bool.and_eq_true, Bool.or_eq_true, decide_eq_true_eq, decide_eq_true_eq, decide_eq_true_eq] at ho
  obtain ⟨w7, w8, w9, w10, w11, w12, w13, _⟩ := wf.2.2.2.2 c ho.1
  have hn := wf.2.2.2.1
  obtain ⟨_, h8, hok⟩ := wf.1 _ w10
  obtain ⟨k, hk, ek⟩ := okS_wn (hok s hs)
  have e7 : N.1 10 0 7 c = nI (prA a c) := (cr_c r 7 c (by decide) (by decide)).trans w7
  have e8 : N.1 10 0 8 c = nI (lA a c) := (cr_c r 8 c (by decide) (by decide)).trans w8
  have e3 : N.1 10 0 3 (8 * prA a c + s) = nI k := (cr_c r 3 _ (by decide) (by decide)).trans ek
  rw [E_Model_stepFor_0, i_ib (show c < 3 by omega) (by decide), if_pos rfl, if_pos rfl, i_cl (show c < 2147483648 by omega), e7, e8, show (8 : Int32) = nI 8 from rfl, i_mul, nI_add, i_ib (show 8 * prA a c + s < 24 by omega) (by decide), if_pos rfl, i_cl (by omega), e3]
  have hx := xor_trn k hk
  unfold askA
  rw [if_pos hs, ek]
  by_cases l : p = lA a c
  · rw [if_pos l, if_pos (show nI p = nI (lA a c) by rw [l])]
    split <;> rfl
  · rw [if_neg l, if_pos (ho.2.resolve_left (fun z => l z.symm)).symm, if_neg (show ¬ nI p = nI (lA a c) by rw [i_eq (by omega) (by omega)]; exact l), ← hx]
    split <;> rfl
theorem P_mStepKind {sc : Nat × (Nat → Int32)} {a : Nat → Nat → Int32} {N : sm_M} {c s : Nat} (wf : wfA a) (r : cr a N) (hc : c < cnA a) (hs : s < pnA a (prA a c)) : dn sc kModel_stepKind 0 [.inr (.inr (10, 0, 0)), .inl (nI c), .inl (nI s)] [] N = some (0, .inl (kA a (prA a c) s), N) := by
  obtain ⟨w7, w8, w9, w10, w11, w12, w13, _⟩ := wf.2.2.2.2 c hc
  have hn := wf.2.2.2.1
  obtain ⟨_, h8, hok⟩ := wf.1 _ w10
  have e7 : N.1 10 0 7 c = nI (prA a c) := (cr_c r 7 c (by decide) (by decide)).trans w7
  rw [E_Model_stepKind_0, i_ib (show c < 3 by omega) (by decide), if_pos rfl, i_cl (show c < 2147483648 by omega), e7, show (8 : Int32) = nI 8 from rfl, i_mul, nI_add, i_ib (show 8 * prA a c + s < 24 by omega) (by decide), if_pos rfl, i_cl (by omega), cr_c r 4 _ (by decide) (by decide)]
  rfl
/-- the step that comes next, at a step that isn't the end -/
theorem P_mStepThen {sc : Nat × (Nat → Int32)} {a : Nat → Nat → Int32} {N : sm_M} {c s w : Nat} (wf : wfA a) (r : cr a N) (hc : c < cnA a) (hs : s < pnA a (prA a c)) (h4 : ¬ wA a (prA a c) s = 4) (hw : w < 2) : dn sc kModel_stepThen 0 [.inr (.inr (10, 0, 0)), .inl (nI c), .inl (nI s), .inl (nI w)] [] N = some (0, .inl (nxS (wA a (prA a c)) (kA a (prA a c)) (bA a (prA a c)) s w), N) := by
  obtain ⟨w7, w8, w9, w10, w11, w12, w13, _⟩ := wf.2.2.2.2 c hc
  have hn := wf.2.2.2.1
  obtain ⟨_, h8, hok⟩ := wf.1 _ w10
  obtain ⟨k, hk, ek⟩ := okS_wn (hok s hs)
  have e7 : N.1 10 0 7 c = nI (prA a c) := (cr_c r 7 c (by decide) (by decide)).trans w7
  have e3 : N.1 10 0 3 (8 * prA a c + s) = wA a (prA a c) s := cr_c r 3 _ (by decide) (by decide)
  have e4 : N.1 10 0 4 (8 * prA a c + s) = kA a (prA a c) s := cr_c r 4 _ (by decide) (by decide)
  have e5 : N.1 10 0 5 (8 * prA a c + s) = bA a (prA a c) s := cr_c r 5 _ (by decide) (by decide)
  rw [E_Model_stepThen_0, i_ib (show c < 3 by omega) (by decide), if_pos rfl, i_cl (show c < 2147483648 by omega), e7, show (8 : Int32) = nI 8 from rfl, i_mul, nI_add, i_ib (show 8 * prA a c + s < 24 by omega) (by decide), if_pos rfl, if_pos rfl, if_pos rfl, i_cl (by omega), e3, e4, e5]
  unfold nxS
  rw [if_neg h4]
  have ew : (nI w = 0) = (w = 0) := by rw [show (0 : Int32) = nI 0 from rfl, i_eq (by omega) (by decide)]
  rw [ek] at h4 ⊢
  have h2 : (nI k < 2) = ¬ (nI k = 2 ∨ nI k = 3) := by
    have : ∀ k, k < 5 → ¬ nI k = 4 → ((nI k < 2) ↔ ¬ (nI k = 2 ∨ nI k = 3)) := by decide
    exact propext (this k hk h4)
  by_cases z : nI k = 2 ∨ nI k = 3
  · rw [if_neg (show ¬ nI k < 2 from fun y => (h2 ▸ y) z)]
    by_cases z2 : w = 0
    · rw [if_pos (ew ▸ z2), if_pos ⟨z, z2⟩]
    · rw [if_neg (ew ▸ z2), if_neg (fun y => z2 y.2)]
  · rw [if_pos (show nI k < 2 from h2 ▸ z), if_neg (fun y => z y.1)]
