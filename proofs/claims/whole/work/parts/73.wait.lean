/-! LEVEL B: the run: what stands of processes and messages; waiting -/
def mgR (v d s : Int32) (mk : Nat) : Prop := (∃ y n, y < mk ∧ n < 3 ∧ v = nI y ∧ d = nI n ∧ s = nI n) ∨ (∃ n, n < 2 ∧ v = -1 ∧ d = nI n ∧ s = nI (10 + n))
def RM (M N : sm_M) (mk : Nat) : Prop := ∀ k, k < 6 → ∃ m, m ≤ 2 ∧ M.1 7 0 1 k = nI m ∧ N.1 10 0 36 k = nI m ∧ ∀ i, i < m → M.1 7 0 2 (2 * k + i) = N.1 10 0 37 (2 * k + i) ∧ mgR (M.1 7 0 2 (2 * k + i)) (M.1 7 0 3 (2 * k + i)) (N.1 10 0 38 (2 * k + i)) mk
def RS (a : Nat → Nat → Int32) (M N : sm_M) : Prop := ∀ p, p < 3 → (∃ l, l < 3 ∧ M.1 0 p 0 7 = nI l ∧ N.1 10 0 26 p = nI l) ∧ M.1 0 p 0 8 = N.1 10 0 27 p ∧ (∃ o, o ≤ onA a p ∧ M.1 0 p 0 9 = nI o ∧ N.1 10 0 28 p = nI o) ∧ (∀ c, c < 3 → ∃ s, s < 8 ∧ M.1 0 p 6 c = nI s) ∧ ∀ c, ofA a c p = true → ∃ s, s < pnA a (prA a c) ∧ M.1 0 p 6 c = nI s ∧ N.1 10 0 35 (qN a c p) = nI s
theorem P_mSide0 {sc : Nat × (Nat → Int32)} {a : Nat → Nat → Int32} {N : sm_M} {c p : Nat} (wf : wfA a) (r : cr a N) (ho : ofA a c p = true) : dn sc kModel_sideOf 0 [.inr (.inr (10, 0, 0)), .inl (nI c), .inl (nI p), .inl 0] [] N = some (0, .inl (nI (qN a c p)), N) := P_mSide wf r ho false
theorem P_mSide1 {sc : Nat × (Nat → Int32)} {a : Nat → Nat → Int32} {N : sm_M} {c p : Nat} (wf : wfA a) (r : cr a N) (ho : ofA a c p = true) : dn sc kModel_sideOf 0 [.inr (.inr (10, 0, 0)), .inl (nI c), .inl (nI p), .inl 1] [] N = some (0, .inl (nI (qN a c (oN a c p))), N) := P_mSide wf r ho true
theorem q_cl {a : Nat → Nat → Int32} {c p : Nat} (hc : c < 3) : (nI (qN a c p)).toNatClampNeg = qN a c p := i_cl (Nat.lt_of_lt_of_le (qN_6 hc) (by decide))
/-- the op of a process is at the step it needs -/
def suT (a : Nat → Nat → Int32) (M : sm_M) (p o : Nat) : Bool := atF a p (opW a p o) (xN a p o) (M.1 0 p 6 (xN a p o))
def wtB (a : Nat → Nat → Int32) (M : sm_M) (p o : Nat) : Bool := suT a M p o && (!decide (M.1 0 (oN a (xN a p o) p) 0 7 = 2) && (if opW a p o = 7 ∨ opW a p o = 9 then !decide (M.1 7 0 1 (qN a (xN a p o) (oN a (xN a p o) p)) < 2) else decide (M.1 7 0 1 (qN a (xN a p o) p) = 0)))
theorem P_stepOf {sc : Nat × (Nat → Int32)} {M : sm_M} {p c : Nat} (hc : c < 3) : dn sc kBody_stepOf 0 [.inr (.inr (0, p, 0)), .inl (nI c)] [] M = some (0, .inl (M.1 0 p 6 c), M) := by
  rw [E_Body_stepOf_0, P_within, r1_s, show (3 : Int32) = nI 3 from rfl, within_nI (by omega) (by decide), decide_eq_true hc, if_neg (show ¬ bI true = 0 by decide), i_ib hc (by decide), if_pos rfl, i_cl (by omega)]
theorem P_stepOf_n {sc : Nat × (Nat → Int32)} {M : sm_M} {p : Nat} : dn sc kBody_stepOf 0 [.inr (.inr (0, p, 0)), .inl (-1)] [] M = some (0, .inl (-1), M) := by
  rw [E_Body_stepOf_0, P_within, r1_s, show (!decide ((-1 : Int32) < 0) && decide ((-1 : Int32) < 3)) = false by decide, if_pos (show bI false = 0 from rfl)]
theorem chK_n {w x : Int32} (h : ndK w = -1) : chK w x = -1 := if_pos h
theorem chK_y {w x : Int32} (h : ¬ ndK w = -1) : chK w x = x := if_neg h
theorem P_cSu_n {sc : Nat × (Nat → Int32)} {M : sm_M} {p : Nat} {w : Int32} (hp : p < 3) (h : ndK w = -1) : dn sc kCourse_suits 0 [.inr (.inr (3, 0, 0)), .inl (nI p), .inl w, .inl (-1)] [] M = some (0, .inl 0, M) := by
  rw [E_Course_suits_0, i_ib hp (by decide), if_pos rfl, i_cl (by omega), P_stepOf_n, r1_s, P_suit_n h, r1_s, if_pos rfl]
theorem okA {a : Nat → Nat → Int32} (wf : wfA a) {p o : Nat} (hp : p < 3) (ho : o < onA a p) : okO (opW a p o) (opX a p o) (opY a p o) = true := (wf.2.1 p hp).2.2 o ho
theorem on16 {a : Nat → Nat → Int32} (wf : wfA a) {p : Nat} (hp : p < 3) : onA a p ≤ 16 := (wf.2.1 p hp).2.1
theorem P_cSu {sc : Nat × (Nat → Int32)} {a : Nat → Nat → Int32} {M N : sm_M} {p o : Nat} (wf : wfA a) (t : rTel a M) (rs : RS a M N) (hp : p < 3) (ho : o < onA a p) : dn sc kCourse_suits 0 [.inr (.inr (3, 0, 0)), .inl (nI p), .inl (opW a p o), .inl (chK (opW a p o) (opX a p o))] [] M = some (0, .inl (bI (suT a M p o)), M) := by
  by_cases h : ndK (opW a p o) = -1
  · rw [chK_n h, P_cSu_n hp h]
    unfold suT atF
    rw [decide_eq_false (fun z => z h)]; rfl
  · obtain ⟨x1, x2⟩ := xN_nd (okA wf hp ho) h
    obtain ⟨s, s1, s2⟩ := (rs p hp).2.2.2.1 _ x1
    rw [chK_y h, x2, E_Course_suits_0, i_ib hp (by decide), if_pos rfl, i_cl (by omega), P_stepOf x1, r1_s, P_suit t.2.2 x1 hp (Or.inr ⟨s, s1, s2⟩), r1_s, bI_K]
    rfl
theorem suT_of {a : Nat → Nat → Int32} {M : sm_M} {p o : Nat} (h : suT a M p o = true) : ¬ ndK (opW a p o) = -1 ∧ ofA a (xN a p o) p = true ∧ askA a (xN a p o) p (M.1 0 p 6 (xN a p o)).toNatClampNeg = ndK (opW a p o) := by
  unfold suT atF at h
  rw [Bool.and_eq_true, decide_eq_true_eq, decide_eq_true_eq] at h
  obtain ⟨h1, h2⟩ := h
  have h3 : ¬ aF a p (xN a p o) (M.1 0 p 6 (xN a p o)) = -1 := fun z => h1 (h2.symm.trans z)
  unfold aF at h2 h3
  by_cases q : xN a p o < cnA a ∧ ¬ M.1 0 p 6 (xN a p o) < 0
  · rw [if_pos q] at h2 h3
    refine ⟨h1, ?_, h2⟩
    unfold askA at h3
    unfold ofA
    rw [decide_eq_true q.1, Bool.true_and]
    by_cases q1 : p = lA a (xN a p o)
    · rw [decide_eq_true q1.symm]; rfl
    · by_cases q2 : p = rA a (xN a p o)
      · rw [decide_eq_true q2.symm, Bool.or_true]
      · rw [if_neg q1, if_neg q2] at h3
        split at h3 <;> exact absurd rfl h3
  · rw [if_neg q] at h3; exact absurd rfl h3
theorem P_cDead {sc : Nat × (Nat → Int32)} {a : Nat → Nat → Int32} {M : sm_M} {c p : Nat} (wf : wfA a) (r : rCh a M) (hc : c < 3) (hp : p < 3) : dn sc kCourse_isBeyondDead 0 [.inr (.inr (3, 0, 0)), .inl (nI c), .inl (nI p)] [] M = some (0, .inl (bI (ofA a c p && decide (M.1 0 (oN a c p) 0 7 = 2))), M) := by
  rw [E_Course_isBeyondDead_0, P_beyond r hc hp, r1_s]
  cases h : ofA a c p with
  | false => rw [(of_n h).2, if_pos rfl]; rfl
  | true =>
    obtain ⟨h1, h2, h3, h4, _⟩ := of_c wf h
    rw [(of_y wf h).2, if_neg ((by decide : ∀ n, n < 3 → ¬ nI n = -1) _ h4), i_ib h4 (by decide), if_pos rfl, i_cl (by omega), E_Body_life_0, r1_s, ite_1, Bool.true_and]
theorem P_cCount {sc : Nat × (Nat → Int32)} {a : Nat → Nat → Int32} {M : sm_M} {c p : Nat} (wf : wfA a) (r : rCh a M) (hc : c < 3) (hp : p < 3) : dn sc kCourse_countFor 0 [.inr (.inr (3, 0, 0)), .inl (nI p), .inl (nI c)] [] M = some (0, .inl (if ofA a c p = true then M.1 7 0 1 (qN a c p) else 0), M) := by
  rw [E_Course_countFor_0, P_qOf wf r hc hp, r1_s]
  cases h : ofA a c p with
  | false => rw [if_neg (show ¬ false = true by decide), P_gSize_n, r1_s, if_neg (show ¬ false = true by decide)]
  | true => rw [if_pos rfl, P_gSize (qN_6 hc), r1_s, if_pos rfl]
theorem P_kWh {sc : Nat × (Nat → Int32)} {a : Nat → Nat → Int32} {M : sm_M} {p o : Nat} (wf : wfA a) (t : rTel a M) (hp : p < 3) (ho : o < onA a p) : dn sc kCode_whatAt 0 [.inr (.inr (2, p, 0)), .inl (nI o)] [] M = some (0, .inl (opW a p o), M) := by
  have := on16 wf hp
  rw [P_kWhat (t.2.1 p hp) (by omega), whK_i ho]
theorem P_kCh {sc : Nat × (Nat → Int32)} {a : Nat → Nat → Int32} {M : sm_M} {p o : Nat} (wf : wfA a) (t : rTel a M) (hp : p < 3) (ho : o < onA a p) : dn sc kCode_channelAt 0 [.inr (.inr (2, p, 0)), .inl (nI o)] [] M = some (0, .inl (chK (opW a p o) (opX a p o)), M) := by
  have := on16 wf hp
  rw [P_kChannel (t.2.1 p hp) (by omega), whK_i ho, abK_i ho]
theorem P_kWh_e {sc : Nat × (Nat → Int32)} {a : Nat → Nat → Int32} {M : sm_M} {p : Nat} (wf : wfA a) (t : rTel a M) (hp : p < 3) : dn sc kCode_whatAt 0 [.inr (.inr (2, p, 0)), .inl (nI (onA a p))] [] M = some (0, .inl 13, M) := by
  have := on16 wf hp
  rw [P_kWhat (t.2.1 p hp) (by omega)]
  unfold whK
  rw [if_neg (by omega)]
theorem P_kCh_e {sc : Nat × (Nat → Int32)} {a : Nat → Nat → Int32} {M : sm_M} {p : Nat} (wf : wfA a) (t : rTel a M) (hp : p < 3) : dn sc kCode_channelAt 0 [.inr (.inr (2, p, 0)), .inl (nI (onA a p))] [] M = some (0, .inl (-1), M) := by
  have := on16 wf hp
  rw [P_kChannel (t.2.1 p hp) (by omega)]
  unfold whK
  rw [if_neg (by omega)]
  rfl
theorem P_cWait_e {sc : Nat × (Nat → Int32)} {a : Nat → Nat → Int32} {M : sm_M} {p : Nat} (wf : wfA a) (t : rTel a M) (hp : p < 3) (h9 : M.1 0 p 0 9 = nI (onA a p)) : dn sc kCourse_mustWait 0 [.inr (.inr (3, 0, 0)), .inl (nI p)] [] M = some (0, .inl 0, M) := by
  rw [E_Course_mustWait_0, i_ib hp (by decide), if_pos rfl, i_cl (by omega), E_Body_spot_0, h9, r1_s, if_pos rfl, P_kWh_e wf t hp, r1_s, if_pos rfl, P_kCh_e wf t hp, r1_s, P_cSu_n hp (by decide), r1_s, if_pos rfl]
theorem P_cWait {sc : Nat × (Nat → Int32)} {a : Nat → Nat → Int32} {M N : sm_M} {p o : Nat} (wf : wfA a) (t : rTel a M) (rs : RS a M N) (hp : p < 3) (ho : o < onA a p) (h9 : M.1 0 p 0 9 = nI o) : dn sc kCourse_mustWait 0 [.inr (.inr (3, 0, 0)), .inl (nI p)] [] M = some (0, .inl (bI (wtB a M p o)), M) := by
  rw [E_Course_mustWait_0, i_ib hp (by decide), if_pos rfl, i_cl (by omega), E_Body_spot_0, h9, r1_s, if_pos rfl, P_kWh wf t hp ho, r1_s, if_pos rfl, P_kCh wf t hp ho, r1_s, P_cSu wf t rs hp ho, r1_s]
  unfold wtB
  cases hs : suT a M p o with
  | false => rw [if_pos (show bI false = 0 from rfl)]; rfl
  | true =>
    obtain ⟨s1, s2, _⟩ := suT_of hs
    obtain ⟨x1, x2⟩ := xN_nd (okA wf hp ho) s1
    obtain ⟨h1, h2, h3, h4, h5, h6, h7, _⟩ := of_c wf s2
    rw [if_neg (show ¬ bI true = 0 by decide), chK_y s1, x2, P_cDead wf t.2.2 x1 hp, r1_s, s2, Bool.true_and, Bool.true_and]
    by_cases d : M.1 0 (oN a (xN a p o) p) 0 7 = 2
    · rw [decide_eq_true d, if_neg (show ¬ bI true = 0 by decide)]; rfl
    · have e5 : dn sc kCourse_mustWait 5 [.inr (.inr (3, 0, 0)), .inl (nI p), .inl (nI (xN a p o))] [] M = some (0, .inl (bI (!decide (M.1 7 0 1 (qN a (xN a p o) (oN a (xN a p o) p)) < 2))), M) := by
        rw [E_Course_mustWait_5, P_beyond t.2.2 x1 hp, (of_y wf s2).2, r1_s, P_cCount wf t.2.2 x1 h4, if_pos h6, r1_s, ite_0]
      rw [decide_eq_false d, if_pos (show bI false = 0 from rfl)]
      by_cases q7 : opW a p o = 7
      · rw [if_pos q7, e5, if_pos (Or.inl q7)]; rfl
      · by_cases q9 : opW a p o = 9
        · rw [if_neg q7, if_pos q9, e5, if_pos (Or.inr q9)]; rfl
        · rw [if_neg q7, if_neg q9, if_neg (fun z => z.elim q7 q9), P_cCount wf t.2.2 x1 hp, if_pos s2, r1_s, ite_1]; rfl
theorem P_mNeed {sc : Nat × (Nat → Int32)} {a : Nat → Nat → Int32} {M N : sm_M} {p o : Nat} (wf : wfA a) (r : cr a N) (rs : RS a M N) (hp : p < 3) (ho : o < onA a p) : dn sc kModel_isAtNeeded 0 [.inr (.inr (10, 0, 0)), .inl (nI p), .inl (nI (16 * p + o))] [] N = some (0, .inl (bI (suT a M p o)), N) := by
  have h16 := on16 wf hp
  have i48 : sm_ib (nI (16 * p + o)) 48 = true := i_ib (show 16 * p + o < 48 by omega) (by decide)
  have e11 : N.1 10 0 11 (16 * p + o) = opW a p o := cr_c r 11 _ (by decide) (by decide)
  have e12 : N.1 10 0 12 (16 * p + o) = opX a p o := cr_c r 12 _ (by decide) (by decide)
  rw [E_Model_isAtNeeded_0, i48, if_pos rfl, i_cl (by omega), e11, P_mNeeds, r1_s, if_pos rfl]
  by_cases h : ndK (opW a p o) = -1
  · rw [if_pos h]
    unfold suT atF
    rw [decide_eq_false (fun z => z h)]; rfl
  · obtain ⟨x1, x2⟩ := xN_nd (okA wf hp ho) h
    rw [if_neg h, e12, x2, P_mIsOf wf r x1 hp, r1_s]
    cases hf : ofA a (xN a p o) p with
    | false =>
      rw [if_pos (show bI false = 0 from rfl)]
      cases hs : suT a M p o with
      | false => rfl
      | true => exact absurd ((suT_of hs).2.1.symm.trans hf) (by decide)
    | true =>
      obtain ⟨h1, _⟩ := of_c wf hf
      obtain ⟨s, s1, s2, s3⟩ := (rs p hp).2.2.2.2 _ hf
      have h8 := (wf.1 _ (wf.2.2.2.2 _ h1).2.2.2.1).2.1
      rw [if_neg (show ¬ bI true = 0 by decide), P_mSide0 wf r hf, r1_s, i_ib (qN_6 x1) (by decide), if_pos rfl, q_cl x1, s3, P_mStepFor wf r hp hf s1, r1_s]
      rw [ite_1]
      unfold suT atF aF
      rw [s2, i_cl (by omega), decide_eq_true (show ¬ ndK (opW a p o) = -1 from h), Bool.true_and, if_pos (show xN a p o < cnA a ∧ ¬ nI s < 0 from ⟨h1, by rw [i_neg (by omega)]; exact id⟩)]
theorem P_mWait {sc : Nat × (Nat → Int32)} {a : Nat → Nat → Int32} {M N : sm_M} {p o mk : Nat} (wf : wfA a) (r : cr a N) (rs : RS a M N) (rm : RM M N mk) (hp : p < 3) (ho : o < onA a p) (h9 : N.1 10 0 28 p = nI o) : dn sc kModel_isWaiting 0 [.inr (.inr (10, 0, 0)), .inl (nI p)] [] N = some (0, .inl (bI (wtB a M p o)), N) := by
  have h16 := on16 wf hp
  have i48 : sm_ib (nI (16 * p + o)) 48 = true := i_ib (show 16 * p + o < 48 by omega) (by decide)
  have e10 : N.1 10 0 10 p = nI (onA a p) := (cr_c r 10 p (by decide) (by decide)).trans (wf.2.1 p hp).1
  have e11 : N.1 10 0 11 (16 * p + o) = opW a p o := cr_c r 11 _ (by decide) (by decide)
  have e12 : N.1 10 0 12 (16 * p + o) = opX a p o := cr_c r 12 _ (by decide) (by decide)
  rw [E_Model_isWaiting_0, i_ib hp (by decide), if_pos rfl, if_pos rfl, i_cl (by omega), e10, h9, if_neg (show ¬ nI o = nI (onA a p) by rw [i_eq (by omega) (by omega)]; omega), if_pos rfl, show (16 : Int32) = nI 16 from rfl, i_mul, nI_add, P_mNeed wf r rs hp ho, r1_s, h9, nI_add]
  unfold wtB
  cases hs : suT a M p o with
  | false => rw [if_pos (show bI false = 0 from rfl)]; rfl
  | true =>
    obtain ⟨s1, s2, _⟩ := suT_of hs
    obtain ⟨x1, x2⟩ := xN_nd (okA wf hp ho) s1
    obtain ⟨h1, h2, h3, h4, h5, h6, h7, _⟩ := of_c wf s2
    obtain ⟨l, l1, l2, l3⟩ := (rs _ h4).1
    have e7 : ∀ b : Bool, dn sc kModel_isWaiting 7 [.inr (.inr (10, 0, 0)), .inl (nI p), .inl (nI (16 * p + o))] [.inl (bI b)] N = some (0, .inl (bI (!decide (M.1 0 (oN a (xN a p o) p) 0 7 = 2) && (if b = true then !decide (M.1 7 0 1 (qN a (xN a p o) (oN a (xN a p o) p)) < 2) else decide (M.1 7 0 1 (qN a (xN a p o) p) = 0)))), N) := by
      intro b
      have qb : (if b = true then qN a (xN a p o) (oN a (xN a p o) p) else qN a (xN a p o) p) < 6 := by split <;> exact qN_6 x1
      rw [E_Model_isWaiting_7, i48, if_pos rfl, i_cl (by omega), e12, x2, P_mSide wf r s2, r1_s, i_ib qb (by decide), if_pos rfl, if_pos rfl, e12, x2, P_mBey wf r s2, r1_s, i_ib h4 (by decide), if_pos rfl, i_cl (show oN a (xN a p o) p < 2147483648 by omega), l3, l2, i_cl (show (if b = true then qN a (xN a p o) (oN a (xN a p o) p) else qN a (xN a p o) p) < 2147483648 from Nat.lt_of_lt_of_le qb (by decide))]
      by_cases d : nI l = 2
      · rw [if_pos d, decide_eq_true d]; rfl
      · rw [if_neg d, decide_eq_false d]
        cases b with
        | false =>
          obtain ⟨m, m1, m2, m3, _⟩ := rm _ (qN_6 (p := p) x1)
          rw [if_pos (show bI false = 0 from rfl), if_neg (show ¬ false = true by decide), m3, m2, ite_1, if_neg (show ¬ false = true by decide)]; rfl
        | true =>
          obtain ⟨m, m1, m2, m3, _⟩ := rm _ (qN_6 (p := oN a (xN a p o) p) x1)
          rw [if_neg (show ¬ bI true = 0 by decide), if_pos rfl, m3, m2, ite_1, if_pos rfl]
          have : decide (nI m = 2) = !decide (nI m < 2) := (by decide : ∀ m, m ≤ 2 → decide (nI m = 2) = !decide (nI m < 2)) m m1
          rw [this]; rfl
    have et : dn sc kModel_isWaiting 7 [.inr (.inr (10, 0, 0)), .inl (nI p), .inl (nI (16 * p + o))] [.inl 1] N = _ := e7 true
    have ef : dn sc kModel_isWaiting 7 [.inr (.inr (10, 0, 0)), .inl (nI p), .inl (nI (16 * p + o))] [.inl 0] N = _ := e7 false
    rw [if_neg (show ¬ bI true = 0 by decide), if_pos rfl, i48, if_pos rfl, i_cl (by omega), e11, Bool.true_and]
    by_cases q7 : opW a p o = 7
    · rw [if_pos q7, et, if_pos (show opW a p o = 7 ∨ opW a p o = 9 from Or.inl q7)]; rfl
    · rw [if_neg q7, if_pos rfl]
      by_cases q9 : opW a p o = 9
      · rw [if_pos q9, et, if_pos (show opW a p o = 7 ∨ opW a p o = 9 from Or.inr q9)]; rfl
      · rw [if_neg q9, ef, if_neg (show ¬ (opW a p o = 7 ∨ opW a p o = 9) from fun z => z.elim q7 q9)]; rfl
theorem P_mWait_e {sc : Nat × (Nat → Int32)} {a : Nat → Nat → Int32} {N : sm_M} {p : Nat} (wf : wfA a) (r : cr a N) (hp : p < 3) (h9 : N.1 10 0 28 p = nI (onA a p)) : dn sc kModel_isWaiting 0 [.inr (.inr (10, 0, 0)), .inl (nI p)] [] N = some (0, .inl 0, N) := by
  have e10 : N.1 10 0 10 p = nI (onA a p) := (cr_c r 10 p (by decide) (by decide)).trans (wf.2.1 p hp).1
  rw [E_Model_isWaiting_0, i_ib hp (by decide), if_pos rfl, if_pos rfl, i_cl (by omega), e10, h9, if_pos rfl]
