/-! LEVEL B: the error of an op in the reference -/
theorem P_mEn1 {sc : Nat × (Nat → Int32)} {N : sm_M} {p o : Nat} {v : Nat → Int32} (hp : p < 3) (ho : o < 17) (hv : hvR N p o v) : ∀ k i, i + k = 6 → dn sc kModel_errorOfEnd 1 [.inr (.inr (10, 0, 0)), .inl (nI p), .inl (nI o), .inl (nI i)] [] N = if anR k i (fun i => decide (v i = 3)) = true then some (0, .inl 7, N) else dn sc kModel_errorOfEnd 6 [.inr (.inr (10, 0, 0)), .inl (nI p), .inl (nI o), .inl 0] [] N := by
  intro k
  induction k with
  | zero =>
    intro i hi
    obtain rfl : i = 6 := by omega
    rw [E_Model_errorOfEnd_1, if_neg (by decide), show anR 0 6 (fun i => decide (v i = 3)) = false from rfl, if_neg (show ¬ false = true by decide)]
  | succ k ih =>
    intro i hi
    rw [E_Model_errorOfEnd_1, show (6 : Int32) = nI 6 from rfl, if_pos (by rw [i_lt (by omega) (by decide)]; omega), P_mFound hp ho hv (by omega), r1_s, nI_1, ih (i + 1) (by omega), anR_s]
    by_cases z : v i = 3
    · rw [if_pos z, decide_eq_true z, Bool.true_or, if_pos rfl]
    · rw [if_neg z, decide_eq_false z, Bool.false_or]
theorem P_mEn6 {sc : Nat × (Nat → Int32)} {a : Nat → Nat → Int32} {N : sm_M} {p o : Nat} {v : Nat → Int32} (wf : wfA a) (r : cr a N) (hp : p < 3) (ho : o < 17) (hv : hvR N p o v) (okv : okV a p v) (hu : unB v = false) : ∀ k i, i + k = 3 → dn sc kModel_errorOfEnd 6 [.inr (.inr (10, 0, 0)), .inl (nI p), .inl (nI o), .inl (nI i)] [] N = some (0, .inl (if anR k i (opB a p v) = true then 8 else 0), N) := by
  have hn := wf.2.2.2.1
  have h5 : N.1 10 0 0 5 = nI (cnA a) := r.1.trans wf.2.2.1
  -- behind the last channel nothing is wanting
  have no : ∀ k i, cnA a ≤ i → anR k i (opB a p v) = false := by
    intro k
    induction k with
    | zero => intro i _; rfl
    | succ k ih =>
      intro i hi
      rw [anR_s, ih (i + 1) (by omega)]
      unfold opB ofA
      rw [decide_eq_false (show ¬ i < cnA a by omega)]; rfl
  intro k
  induction k with
  | zero =>
    intro i hi
    obtain rfl : i = 3 := by omega
    rw [E_Model_errorOfEnd_6, h5, if_neg (by rw [i_lt (by decide) (by omega)]; omega)]; rfl
  | succ k ih =>
    intro i hi
    rw [E_Model_errorOfEnd_6, h5]
    by_cases q : i < cnA a
    · rw [if_pos (by rw [i_lt (by omega) (by omega)]; exact q), P_mIsOf wf r (show i < 3 by omega) hp, r1_s, nI_1, ih (i + 1) (by omega), anR_s]
      have eo : opB a p v i = (ofA a i p && !decide (askA a i p (v (6 + i)).toNatClampNeg = 4)) := rfl
      cases e : ofA a i p with
      | false => rw [if_pos (show bI false = 0 from rfl), eo, e, Bool.false_and, Bool.false_or]
      | true =>
        obtain ⟨s, hs, es⟩ := un_ch okv hu (show i < 3 by omega) e
        obtain ⟨_, _, _, w10, _⟩ := wf.2.2.2.2 _ q
        have h8 := (wf.1 _ w10).2.1
        rw [if_neg (show ¬ bI true = 0 by decide), show (6 : Int32) = nI 6 from rfl, nI_add, P_mFound hp ho hv (show 6 + i < 9 by omega), r1_s, es, P_mStepFor wf r hp e hs, r1_s, ih (i + 1) (by omega), eo, e, es, i_cl (by omega), Bool.true_and]
        by_cases z : askA a i p s = 4
        · rw [if_pos z, decide_eq_true z, Bool.not_true, Bool.false_or]
        · rw [if_neg z, decide_eq_false z, Bool.not_false, Bool.true_or, if_pos rfl]
    · rw [if_neg (by rw [i_lt (by omega) (by omega)]; exact q), no (k + 1) i (by omega)]; rfl
theorem P_mEnd {sc : Nat × (Nat → Int32)} {a : Nat → Nat → Int32} {N : sm_M} {p o : Nat} {v : Nat → Int32} (wf : wfA a) (r : cr a N) (hp : p < 3) (ho : o < 17) (hv : hvR N p o v) (okv : okV a p v) (hu : unB v = false) : dn sc kModel_errorOfEnd 0 [.inr (.inr (10, 0, 0)), .inl (nI p), .inl (nI o)] [] N = some (0, .inl (kpE a p v), N) := by
  have h6 := P_mEn6 (sc := sc) wf r hp ho hv okv hu 3 0 rfl
  have h1 := P_mEn1 (sc := sc) hp ho hv 6 0 rfl
  refine (E_Model_errorOfEnd_0 sc N (nI p) (nI o)).trans (h1.trans ?_)
  unfold kpE
  cases anR 6 0 (fun i => decide (v i = 3)) with
  | true => rw [if_pos rfl, if_pos rfl]
  | false => rw [if_neg (show ¬ false = true by decide), if_neg (show ¬ false = true by decide)]; exact h6
/-- where an op's channel is, asked as the reference does -/
theorem P_mEr14 {sc : Nat × (Nat → Int32)} {a : Nat → Nat → Int32} {N : sm_M} {p o : Nat} {v : Nat → Int32} (wf : wfA a) (r : cr a N) (hp : p < 3) (ho : o < onA a p) (hv : hvR N p o v) (okv : okV a p v) (hu : unB v = false) (us tg its : Int32) :
    ∃ st, (tF a p o v = true → st = sF0 a p o v) ∧ dn sc kModel_errorOf 14 [.inr (.inr (10, 0, 0)), .inl (nI p), .inl (nI o), .inl (nI (16 * p + o)), .inl us, .inl tg] [.inl its] N = dn sc kModel_errorOf 25 [.inr (.inr (10, 0, 0)), .inl (nI p), .inl (nI o), .inl (nI (16 * p + o)), .inl us, .inl tg, .inl its, .inl (ndK (opW a p o)), .inl st] [.inl (bI (tF a p o v))] N := by
  have h16 := (wf.2.1 p hp).2.1
  have ok := (wf.2.1 p hp).2.2 o ho
  obtain ⟨g1, g2, g3⟩ := cr_op r p o
  have hib : sm_ib (nI (16 * p + o)) 48 = true := i_ib (show 16 * p + o < 48 by omega) (by decide)
  have no : ∀ nd, tF a p o v = false → dn sc kModel_errorOf 18 [.inr (.inr (10, 0, 0)), .inl (nI p), .inl (nI o), .inl (nI (16 * p + o)), .inl us, .inl tg, .inl its, .inl nd] [.inl 0] N = dn sc kModel_errorOf 25 [.inr (.inr (10, 0, 0)), .inl (nI p), .inl (nI o), .inl (nI (16 * p + o)), .inl us, .inl tg, .inl its, .inl nd, .inl 0] [.inl (bI (tF a p o v))] N := by
    intro nd ht
    rw [E_Model_errorOf_18, if_pos rfl, E_Model_errorOf_21, if_pos rfl, ht]; rfl
  rw [E_Model_errorOf_14, hib, if_pos rfl, i_cl (by omega), g1, P_mNeeds, r1_s]
  by_cases q : ndK (opW a p o) = -1
  · rw [if_pos q]
    have ht := tF_f (v := v) q
    exact ⟨0, fun z => absurd (ht.symm.trans z) (by decide), no _ ht⟩
  · obtain ⟨x1, x2⟩ := xN_nd ok q
    have e0 : sF0 a p o v = v (6 + xN a p o) := by unfold sF0; rw [if_neg q]
    have okc := okv.2 _ x1
    rw [if_neg q, if_pos rfl, g2, x2, P_mIsOf wf r x1 hp, r1_s]
    cases hof : ofA a (xN a p o) p with
    | false =>
      have e1 : sF0 a p o v = -1 := e0.trans (okc.2 hof)
      have ht : tF a p o v = false := by unfold tF; rw [e1]; exact atF_n (by decide)
      rw [if_pos (show bI false = 0 from rfl)]
      exact ⟨0, fun z => absurd (ht.symm.trans z) (by decide), no _ ht⟩
    | true =>
      obtain ⟨s, hs, es⟩ := un_ch okv hu x1 hof
      have hc : xN a p o < cnA a := by unfold ofA at hof; rw [Bool.and_eq_true, decide_eq_true_eq] at hof; exact hof.1
      obtain ⟨_, _, _, w10, _⟩ := wf.2.2.2.2 _ hc
      have h8 := (wf.1 _ w10).2.1
      have ht : tF a p o v = decide (askA a (xN a p o) p s = ndK (opW a p o)) := by
        unfold tF atF aF
        rw [e0, es, decide_eq_true q, Bool.true_and, if_pos ⟨hc, nI_pos (by omega)⟩, i_cl (by omega)]
      refine ⟨nI s, fun _ => (e0.trans es).symm, ?_⟩
      rw [if_neg (show ¬ bI true = 0 by decide), E_Model_errorOf_18, if_neg (by decide), hib, if_pos rfl, i_cl (by omega), g2, x2, show (6 : Int32) = nI 6 from rfl, nI_add, P_mFound hp (by omega) hv (show 6 + xN a p o < 9 by omega), r1_s, es, E_Model_errorOf_21, if_neg (by decide), hib, if_pos rfl, i_cl (by omega), g2, x2, P_mStepFor wf r hp hof hs, r1_s, ht]
      by_cases z : askA a (xN a p o) p s = ndK (opW a p o)
      · rw [if_pos z, decide_eq_true z]; rfl
      · rw [if_neg z, decide_eq_false z]; rfl
theorem sub_1 (x k : Int32) : (x - 1 = k) = (x = 1 + k) := by
  refine propext ⟨fun h => ?_, fun h => ?_⟩
  · rw [← h]
    apply Int32.toBitVec_inj.mp
    show x.toBitVec = 1#32 + (x.toBitVec - 1#32)
    rw [BitVec.add_comm, BitVec.sub_add_cancel]
  · rw [h]
    apply Int32.toBitVec_inj.mp
    show 1#32 + k.toBitVec - 1#32 = k.toBitVec
    rw [BitVec.add_comm, BitVec.add_sub_cancel]
theorem lt_20 (u : Int32) : (if u < 20 then (0 : Int32) else 1) = bI (ltB u) := by
  unfold ltB
  by_cases z : u < 20
  · rw [if_pos z, decide_eq_true z]; rfl
  · rw [if_neg z, decide_eq_false z]; rfl
theorem P_mErr {sc : Nat × (Nat → Int32)} {a : Nat → Nat → Int32} {N : sm_M} {p o : Nat} {v : Nat → Int32} (wf : wfA a) (r : cr a N) (hp : p < 3) (ho : o ≤ onA a p) (hv : hvR N p o v) (okv : okV a p v) {lb : Int32} (hlb : o < onA a p → lbA a p (LvR N p) o = lb) : dn sc kModel_errorOf 0 [.inr (.inr (10, 0, 0)), .inl (nI p), .inl (nI o)] [] N = some (0, .inl (erE a p o v lb), N) := by
  have h16 := (wf.2.1 p hp).2.1
  -- what follows when nothing is unlike
  have rest : unB v = false → dn sc kModel_errorOf 1 [.inr (.inr (10, 0, 0)), .inl (nI p), .inl (nI o), .inl (nI 9)] [] N = some (0, .inl (erE a p o v lb), N) := by
    intro hu
    unfold erE
    rw [if_neg (show ¬ unB v = true by rw [hu]; decide), E_Model_errorOf_1, if_neg (by decide), i_ib hp (by decide), if_pos rfl, i_cl (show p < 2147483648 by omega), cr_n wf r hp]
    by_cases hoe : o = onA a p
    · rw [if_pos (by rw [hoe]), P_mEnd wf r hp (by omega) hv okv hu, r1_s, if_pos (Or.inl hoe)]
    have ho' : o < onA a p := by omega
    have ok := (wf.2.1 p hp).2.2 o ho'
    obtain ⟨vt, vu⟩ := tg_vA ok
    obtain ⟨g1, g2, g3⟩ := cr_op r p o
    have hib : sm_ib (nI (16 * p + o)) 48 = true := i_ib (show 16 * p + o < 48 by omega) (by decide)
    rw [if_neg (by rw [i_eq (by omega) (by omega)]; exact hoe), P_mStop wf r hp (by omega), r1_s, decide_eq_true ho', Bool.true_and]
    by_cases h13 : opW a p o = 13
    · rw [decide_eq_true h13, if_neg (show ¬ bI true = 0 by decide), P_mEnd wf r hp (by omega) hv okv hu, r1_s, if_pos (Or.inr h13)]
    rw [decide_eq_false h13, if_pos (show bI false = 0 from rfl), if_neg (show ¬(o = onA a p ∨ opW a p o = 13) from fun z => z.elim hoe h13), k16, P_mUsed r hp (by omega), r1_s, P_mTarget r hp (by omega), r1_s]
    have e43 : dn sc kModel_errorOf 43 [.inr (.inr (10, 0, 0)), .inl (nI p), .inl (nI o), .inl (ndK (opW a p o)), .inl (bI (tF a p o v))] [] N = some (0, .inl (if ¬ bwE a p o v lb = -1 then 5 else if ¬ ndK (opW a p o) = -1 ∧ tF a p o v = false then 6 else 0), N) := by
      rw [E_Model_errorOf_43, P_mBw wf r hp ho' hv okv (hlb ho'), r1_s]
      by_cases z : bwE a p o v lb = -1
      · rw [if_pos z, if_neg (show ¬ ¬ bwE a p o v lb = -1 from fun y => y z)]
        by_cases z2 : ndK (opW a p o) = -1
        · rw [if_pos z2, if_neg (show ¬(¬ ndK (opW a p o) = -1 ∧ tF a p o v = false) from fun y => y.1 z2)]
        · rw [if_neg z2]
          cases ht : tF a p o v with
          | true => rw [if_neg (show ¬ bI true = 0 by decide), if_neg (show ¬(¬ ndK (opW a p o) = -1 ∧ true = false) from fun y => by cases y.2)]
          | false => rw [if_pos (show bI false = 0 from rfl), if_pos (show ¬ ndK (opW a p o) = -1 ∧ false = false from ⟨z2, rfl⟩)]
      · rw [if_neg z, if_pos z]
    have e36 : ∀ its k, dn sc kModel_errorOf 33 [.inr (.inr (10, 0, 0)), .inl (nI p), .inl (nI o), .inl (nI (16 * p + o)), .inl (usA a p o), .inl (tgA a p o), .inl its, .inl (ndK (opW a p o)), .inl (bI (tF a p o v))] [.inl (bI k)] N = some (0, .inl (if wwB (opW a p o) (shB its) (ltB its) = true ∨ k = true then 3 else if ¬ tgA a p o = -1 ∧ ¬ tgA a p o = usA a p o ∧ vvI v (tgA a p o) = 3 then 4 else if ¬ bwE a p o v lb = -1 then 5 else if ¬ ndK (opW a p o) = -1 ∧ tF a p o v = false then 6 else 0), N) := by
      intro its k
      have e : ∀ l, dn sc kModel_errorOf 36 [.inr (.inr (10, 0, 0)), .inl (nI p), .inl (nI o), .inl (usA a p o), .inl (tgA a p o), .inl (ndK (opW a p o)), .inl (bI (tF a p o v)), .inl (bI k)] [.inl (bI l), .inl (bI (shB its)), .inl (opW a p o)] N = some (0, .inl (if wwB (opW a p o) (shB its) l = true ∨ k = true then 3 else if ¬ tgA a p o = -1 ∧ ¬ tgA a p o = usA a p o ∧ vvI v (tgA a p o) = 3 then 4 else if ¬ bwE a p o v lb = -1 then 5 else if ¬ ndK (opW a p o) = -1 ∧ tF a p o v = false then 6 else 0), N) := by
        intro l
        rw [E_Model_errorOf_36, P_mWrong, r1_s, e43]
        cases wwB (opW a p o) (shB its) l with
        | true => rw [if_neg (show ¬ bI true = 0 by decide), if_pos (Or.inl rfl)]
        | false =>
          rw [if_pos (show bI false = 0 from rfl)]
          cases k with
          | true => rw [if_neg (show ¬ bI true = 0 by decide), if_pos (show false = true ∨ true = true from Or.inr rfl)]
          | false =>
            rw [if_pos (show bI false = 0 from rfl), if_neg (show ¬(false = true ∨ false = true) by decide)]
            by_cases z2 : tgA a p o = -1
            · rw [if_pos z2, if_neg (show ¬(¬ tgA a p o = -1 ∧ ¬ tgA a p o = usA a p o ∧ vvI v (tgA a p o) = 3) from fun y => y.1 z2)]
            · rw [if_neg z2]
              by_cases z : tgA a p o = usA a p o
              · rw [if_pos z, if_neg (show ¬(¬ tgA a p o = -1 ∧ ¬ tgA a p o = usA a p o ∧ vvI v (tgA a p o) = 3) from fun y => y.2.1 z)]
              · rw [if_neg z, P_mFoundV hp (by omega) hv vt z2, r1_s, e43]
                by_cases z3 : vvI v (tgA a p o) = 3
                · rw [if_pos z3, if_pos ⟨z2, z, z3⟩]
                · rw [if_neg z3, if_neg (show ¬(¬ tgA a p o = -1 ∧ ¬ tgA a p o = usA a p o ∧ vvI v (tgA a p o) = 3) from fun y => z3 y.2.2)]
      have et := e true
      have ef := e false
      rw [show bI true = 1 from rfl] at et
      rw [show bI false = 0 from rfl] at ef
      rw [E_Model_errorOf_33, hib, if_pos rfl, i_cl (by omega), g1, P_mSh, r1_s, et, ef]
      unfold ltB
      by_cases z : its < 20
      · rw [if_pos z, decide_eq_true z]; rfl
      · rw [if_neg z, decide_eq_false z]; rfl
    have e25 : ∀ its st, (tF a p o v = true → st = sF0 a p o v) → (opW a p o = 7 → its = vvI v (usA a p o)) → dn sc kModel_errorOf 25 [.inr (.inr (10, 0, 0)), .inl (nI p), .inl (nI o), .inl (nI (16 * p + o)), .inl (usA a p o), .inl (tgA a p o), .inl its, .inl (ndK (opW a p o)), .inl st] [.inl (bI (tF a p o v))] N = some (0, .inl (if its = 0 ∨ its = 4 then 2 else if wwB (opW a p o) (shB its) (ltB its) = true ∨ okB a p o v = true then 3 else if ¬ tgA a p o = -1 ∧ ¬ tgA a p o = usA a p o ∧ vvI v (tgA a p o) = 3 then 4 else if ¬ bwE a p o v lb = -1 then 5 else if ¬ ndK (opW a p o) = -1 ∧ tF a p o v = false then 6 else 0), N) := by
      intro its st hst his
      have e36t := e36 its true
      have e36f := e36 its false
      rw [show (bI true : Int32) = 1 from rfl] at e36t
      rw [show (bI false : Int32) = 0 from rfl] at e36f
      rw [E_Model_errorOf_25]
      by_cases z0 : its = 0
      · rw [if_pos z0, if_pos (Or.inl z0)]
      rw [if_neg z0]
      by_cases z4 : its = 4
      · rw [if_pos z4, if_pos (Or.inr z4)]
      rw [if_neg z4, if_neg (show ¬(its = 0 ∨ its = 4) from fun y => y.elim z0 z4), hib, if_pos rfl, i_cl (by omega), g1, e36f]
      by_cases z7 : opW a p o = 7
      · rw [if_pos z7]
        cases ht : tF a p o v with
        | false =>
          have : okB a p o v = false := by unfold okB; rw [ht, Bool.and_false, Bool.false_and]
          rw [if_pos (show bI false = 0 from rfl), this]
        | true =>
          obtain ⟨t1, t2, t3, t4, t5, t6, t7⟩ := tF_t ht
          obtain ⟨x1, x2⟩ := xN_nd ok t1
          obtain ⟨s, hs, es⟩ := un_ch okv hu x1 t3
          have hs8 : s < pnA a (prA a (xN a p o)) := hs
          obtain ⟨_, _, _, w10, _⟩ := wf.2.2.2.2 _ t2
          have h8 := (wf.1 _ w10).2.1
          have es' : sF0 a p o v = nI s := t5.trans es
          have ek : kF a p o v = kA a (prA a (xN a p o)) s := by unfold kF; rw [es', i_cl (by omega)]
          have eok : okB a p o v = !decide (its = 1 + kA a (prA a (xN a p o)) s) := by
            unfold okB
            rw [decide_eq_true z7, ht, ek, his z7]; rfl
          rw [ht] at e36t e36f
          rw [if_neg (show ¬ bI true = 0 by decide), if_pos rfl, g2, x2, hst ht, es', P_mStepKind wf r t2 hs8, r1_s, e36t, e36f, eok]
          by_cases z : its = 1 + kA a (prA a (xN a p o)) s
          · rw [if_pos (sub_1 _ _ ▸ z), decide_eq_true z]; rfl
          · rw [if_neg (sub_1 _ _ ▸ z), decide_eq_false z]; rfl
      · have : okB a p o v = false := by unfold okB; rw [decide_eq_false z7, Bool.false_and, Bool.false_and]
        rw [if_neg z7, this]
    unfold usE
    by_cases z : usA a p o = -1
    · have h7 : opW a p o = 7 → (1 : Int32) = vvI v (usA a p o) := by
        intro h7
        have : usA a p o = opY a p o := by unfold usA; rw [h7]; rfl
        obtain ⟨_, _, _, c7, _, _, _, _, _, cY, _⟩ := okO_c ok
        have y2 := cY (by simp only [h7]; decide)
        have y1 := (c7 (Or.inl h7)).2
        rw [this, y2] at z
        exact absurd z ((by decide : ∀ k, k < 6 → ¬ nI k = -1) _ y1)
      obtain ⟨st, hst, h14⟩ := P_mEr14 (sc := sc) wf r hp ho' hv okv hu (usA a p o) (tgA a p o) 1
      rw [if_pos z, h14, e25 1 st hst h7, if_pos z]
    · obtain ⟨st, hst, h14⟩ := P_mEr14 (sc := sc) wf r hp ho' hv okv hu (usA a p o) (tgA a p o) (vvI v (usA a p o))
      rw [if_neg z, P_mFoundV hp (by omega) hv vu z, r1_s, h14, e25 _ st hst (fun _ => rfl), if_neg z]
  -- whether anything is unlike
  have loop : ∀ k i, i + k = 9 → (anR k i (fun i => decide (v i = if i < 6 then 5 else -2)) = false → unB v = false) → dn sc kModel_errorOf 1 [.inr (.inr (10, 0, 0)), .inl (nI p), .inl (nI o), .inl (nI i)] [] N = if anR k i (fun i => decide (v i = if i < 6 then 5 else -2)) = true then some (0, .inl 1, N) else some (0, .inl (erE a p o v lb), N) := by
    intro k
    induction k with
    | zero =>
      intro i hi hh
      obtain rfl : i = 9 := by omega
      rw [show anR 0 9 (fun i => decide (v i = if i < 6 then 5 else -2)) = false from rfl, if_neg (show ¬ false = true by decide)]
      exact rest (hh rfl)
    | succ k ih =>
      intro i hi hh
      rw [E_Model_errorOf_1, show (9 : Int32) = nI 9 from rfl, if_pos (by rw [i_lt (by omega) (by decide)]; omega), P_mFound hp (by omega) hv (show i < 9 by omega), r1_s, nI_1, anR_s]
      rw [anR_s] at hh
      by_cases q : i < 6
      · rw [if_pos q] at hh ⊢
        rw [show (6 : Int32) = nI 6 from rfl, if_pos (show nI i < nI 6 by rw [i_lt (by omega) (by decide)]; exact q)]
        by_cases z : v i = 5
        · rw [if_pos z, decide_eq_true z, Bool.true_or, if_pos rfl]
        · rw [decide_eq_false z, Bool.false_or] at hh
          rw [if_neg z, decide_eq_false z, Bool.false_or, ih (i + 1) (by omega) hh]
      · rw [if_neg q] at hh ⊢
        rw [show (6 : Int32) = nI 6 from rfl, if_neg (show ¬ nI i < nI 6 by rw [i_lt (by omega) (by decide)]; exact q)]
        by_cases z : v i = -2
        · rw [if_pos z, decide_eq_true z, Bool.true_or, if_pos rfl]
        · rw [decide_eq_false z, Bool.false_or] at hh
          rw [if_neg z, decide_eq_false z, Bool.false_or, ih (i + 1) (by omega) hh]
  refine (E_Model_errorOf_0 sc N (nI p) (nI o)).trans ((loop 9 0 rfl (fun h => h)).trans ?_)
  show (if unB v = true then _ else _) = _
  by_cases hu : unB v = true
  · rw [if_pos hu]
    unfold erE
    rw [if_pos hu]
  · rw [if_neg hu]
