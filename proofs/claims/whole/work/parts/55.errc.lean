/-! LEVEL B: errors in the class: borrowers, the first error -/
theorem tg_vA {a : Nat → Nat → Int32} {p o : Nat} (h : okO (opW a p o) (opX a p o) (opY a p o) = true) : vrI (tgA a p o) ∧ vrI (usA a p o) := tg_vr h
theorem P_kTg {sc : Nat × (Nat → Int32)} {a : Nat → Nat → Int32} {M : sm_M} {q o : Nat} (h16 : onA a q ≤ 16) (rk : rK M q (onA a q) (opW a q) (opX a q) (opY a q)) (ho : o < onA a q) : dn sc kCode_targetAt 0 [.inr (.inr (2, q, 0)), .inl (nI o)] [] M = some (0, .inl (tgA a q o), M) := by
  rw [P_kTarget rk (by omega), whK_i ho, abK_i ho, abK_i ho]; rfl
theorem P_kUs {sc : Nat × (Nat → Int32)} {a : Nat → Nat → Int32} {M : sm_M} {q o : Nat} (h16 : onA a q ≤ 16) (rk : rK M q (onA a q) (opW a q) (opX a q) (opY a q)) (ho : o < onA a q) : dn sc kCode_usedAt 0 [.inr (.inr (2, q, 0)), .inl (nI o)] [] M = some (0, .inl (usA a q o), M) := by
  rw [P_kUsed rk (by omega), whK_i ho, abK_i ho, abK_i ho]; rfl
theorem lb_bit {l : Int32} {t : Int32} (ht : vrI t) {i : Nat} (hi : i < 6) : bt (l &&& (btI t ^^^ (-1))) i = (bt l i && !decide (nI i = t)) := by
  rw [b_and, b_xor, b_m1 i (by omega), Bool.xor_true]
  have h := btI_b ht (show i < 32 by omega)
  have e : bt (btI t) i = decide (nI i = t) := by
    rcases ht with e | ⟨k, hk, e⟩
    · subst e
      rw [decide_eq_false ((by decide : ∀ i, i < 6 → ¬ nI i = -1) i hi)]
      exact b_0 i
    · cases hb : bt (btI t) i with
      | true =>
        obtain ⟨k', hk', e1, e2⟩ := h.mp hb
        rw [decide_eq_true (by rw [e1, e2])]
      | false =>
        rw [decide_eq_false]
        intro z
        rw [h.mpr ⟨i, hi, z.symm, rfl⟩] at hb
        cases hb
  rw [e]
theorem bit_t {t : Int32} (ht : vrI t) {i : Nat} (hi : i < 6) : bt (btI t) i = decide (nI i = t) := by
  have h := lb_bit (l := -1) ht hi
  rw [b_and, b_xor, b_m1 i (by omega), Bool.xor_true, Bool.true_and, Bool.true_and] at h
  cases a : bt (btI t) i <;> cases b : decide (nI i = t) <;> rw [a, b] at h <;> first | rfl | cases h
theorem P_fLow1 {sc : Nat × (Nat → Int32)} {M : sm_M} {q o : Nat} {v : Nat → Int32} (ho : o < 17) (hv : hvC M q o v) {am ow : Int32} {sh : Bool} {P : Nat → Bool} (hP : ∀ i, i < 6 → P i = ((decide (v i = 20 + ow) || (sh && decide (v i = 10 + ow))) && bt am i)) : ∀ k i, i + k = 6 → dn sc kFlow_lowestBorrower 1 [.inr (.inr (4, q, 0)), .inl (nI o), .inl am, .inl ow, .inl (bI sh), .inl (nI i)] [] M = some (0, .inl (fsR k i P), M) := by
  intro k
  induction k with
  | zero =>
    intro i hi
    obtain rfl : i = 6 := by omega
    rw [E_Flow_lowestBorrower_1, if_neg (by decide)]; rfl
  | succ k ih =>
    intro i hi
    have e7 : ∀ b, dn sc kFlow_lowestBorrower 7 [.inr (.inr (4, q, 0)), .inl (nI o), .inl am, .inl ow, .inl (bI sh), .inl (nI i)] [.inl (bI b)] M = some (0, .inl (if (b && bt am i) = true then nI i else fsR k (i + 1) P), M) := by
      intro b
      have hb : (am &&& btI (nI i) = 0) = (bt am i = false) := by
        refine propext ⟨fun h => ?_, fun h => b_ext (fun j hj => ?_)⟩
        · have := b_and am (btI (nI i)) i
          rw [h, b_0, bit_t (Or.inr ⟨i, by omega, rfl⟩) (by omega), decide_eq_true rfl, Bool.and_true] at this
          exact this.symm
        · rw [b_and, b_0]
          by_cases z : j = i
          · rw [z, h, Bool.false_and]
          · have : bt (btI (nI i)) j = false := by
              cases hh : bt (btI (nI i)) j with
              | false => rfl
              | true =>
                obtain ⟨k', hk', e1, e2⟩ := (btI_b (Or.inr ⟨i, by omega, rfl⟩) hj).mp hh
                rw [i_eq (by omega) (by omega)] at e1
                omega
            rw [this, Bool.and_false]
      rw [E_Flow_lowestBorrower_7, P_fBit (Or.inr ⟨i, by omega, rfl⟩), r1_s, nI_1, ih (i + 1) (by omega)]
      cases b with
      | false => rw [if_pos (show bI false = 0 from rfl), Bool.false_and, if_neg (show ¬ false = true by decide)]
      | true =>
        rw [if_neg (show ¬ bI true = 0 by decide), Bool.true_and]
        by_cases z : bt am i = false
        · rw [if_pos (hb ▸ z), z, if_neg (show ¬ false = true by decide)]
        · rw [if_neg (hb ▸ z), if_pos (show bt am i = true from by cases y : bt am i <;> first | rfl | exact absurd y z)]
    rw [E_Flow_lowestBorrower_1, show (6 : Int32) = nI 6 from rfl, if_pos (by rw [i_lt (by omega) (by decide)]; omega), P_fName ho (by omega), r1_s, hv.1 i (by omega), show (1 : Int32) = bI true from rfl, show (0 : Int32) = bI false from rfl, e7, e7, fsR_s, hP i (by omega)]
    by_cases z : v i = 20 + ow
    · rw [if_pos z, decide_eq_true z, Bool.true_or]
    · rw [if_neg z, decide_eq_false z, Bool.false_or]
      cases sh with
      | false => rw [if_pos rfl, Bool.false_and]; rfl
      | true =>
        rw [if_neg (show ¬ bI true = bI false by decide), Bool.true_and]
        by_cases z2 : v i = 10 + ow
        · rw [if_pos z2, decide_eq_true z2]; rfl
        · rw [if_neg z2, decide_eq_false z2]; rfl
theorem P_fLow {sc : Nat × (Nat → Int32)} {M : sm_M} {q o : Nat} {v : Nat → Int32} (ho : o < 17) (hv : hvC M q o v) {am ow : Int32} {sh : Bool} {P : Nat → Bool} (hP : ∀ i, i < 6 → P i = ((decide (v i = 20 + ow) || (sh && decide (v i = 10 + ow))) && bt am i)) : dn sc kFlow_lowestBorrower 0 [.inr (.inr (4, q, 0)), .inl (nI o), .inl am, .inl ow, .inl (bI sh)] [] M = some (0, .inl (fsR 6 0 P), M) :=
  (E_Flow_lowestBorrower_0 sc M q (nI o) am ow (bI sh)).trans (P_fLow1 ho hv hP 6 0 rfl)
theorem P_fLeaves (sc : Nat × (Nat → Int32)) (M : sm_M) (w u : Int32) : dn sc kFlow_leavesShares 0 [.inl w, .inl u] [] M = some (0, .inl (bI (lvB w u)), M) := by
  have e4 : dn sc kFlow_leavesShares 4 [.inl u] [] M = some (0, .inl (bI (decide (u = 1))), M) := by rw [E_Flow_leavesShares_4, ite_1]
  rw [E_Flow_leavesShares_0, e4]
  unfold lvB
  by_cases q3 : w = 3
  · rw [if_pos q3, decide_eq_true q3]; rfl
  rw [if_neg q3, decide_eq_false q3]
  by_cases q5 : w = 5
  · rw [if_pos q5, decide_eq_true q5]; rfl
  rw [if_neg q5, decide_eq_false q5]
  by_cases q1 : w = 1
  · rw [if_pos q1, decide_eq_true q1]; rfl
  rw [if_neg q1, decide_eq_false q1]
  by_cases q7 : w = 7
  · rw [if_pos q7, decide_eq_true q7]; rfl
  · rw [if_neg q7, decide_eq_false q7]; rfl
theorem vrI_n {x : Int32} (h : vrI x) {i : Nat} (hi : i < 6) (e : x = -1) : decide (nI i = x) = false := by
  rw [e, decide_eq_false ((by decide : ∀ i, i < 6 → ¬ nI i = -1) i hi)]
theorem P_fBor5 {sc : Nat × (Nat → Int32)} {a : Nat → Nat → Int32} {M : sm_M} {q o : Nat} {v : Nat → Int32} (wf : wfA a) (r : cx a M q) (hq : q < 3) (ho : o < onA a q) (hv : hvC M q o v) {lb : Int32} : dn sc kFlow_borrowerAt 5 [.inr (.inr (4, q, 0)), .inl (nI o), .inl (usA a q o), .inl (lb &&& (btI (tgA a q o) ^^^ (-1)))] [] M = some (0, .inl (bw2 a q o v lb), M) := by
  have h16 := (wf.2.1 q hq).2.1
  have rk := r.1.2.1 q hq
  have ok := (wf.2.1 q hq).2.2 o ho
  obtain ⟨vt, vu⟩ := tg_vA ok
  rw [E_Flow_borrowerAt_5, P_fUse (by omega) hv vu, r1_s]
  unfold bw2
  by_cases z : usA a q o = -1
  · rw [if_pos (show usA a q o = -1 from z), if_pos z]
  rw [if_neg (show ¬ usA a q o = -1 from z), if_neg z, if_neg (show ¬ usA a q o = -1 from z), P_fShared, r1_s, P_fLent, r1_s, P_kWhat rk (by omega), r1_s, whK_i ho, P_fLeaves, r1_s]
  have hL : ∀ sh, dn sc kFlow_lowestBorrower 0 [.inr (.inr (4, q, 0)), .inl (nI o), .inl (lb &&& (btI (tgA a q o) ^^^ (-1))), .inl (usA a q o), .inl (bI sh)] [] M = some (0, .inl (fsR 6 0 (bwP v lb (tgA a q o) (-1) (usA a q o) sh)), M) := by
    intro sh
    refine P_fLow (by omega) hv (fun i hi => ?_)
    unfold bwP
    rw [lb_bit vt hi, vrI_n (x := -1) (Or.inl rfl) hi rfl, Bool.or_false]
  show (if bI (shB (vvI v (usA a q o))) = 0 then (if bI (ltB (vvI v (usA a q o))) = 0 then (if bI (lvB (opW a q o) (vvI v (usA a q o))) = 0 then (sm_r1 (dn sc kFlow_lowestBorrower 0 [.inr (.inr (4, q, 0)), .inl (nI o), .inl (lb &&& (btI (tgA a q o) ^^^ (-1))), .inl (usA a q o), .inl (bI true)] [] M) (fun x14 M13 => some (0, .inl x14, M13))) else (sm_r1 (dn sc kFlow_lowestBorrower 0 [.inr (.inr (4, q, 0)), .inl (nI o), .inl (lb &&& (btI (tgA a q o) ^^^ (-1))), .inl (usA a q o), .inl (bI false)] [] M) (fun x12 M11 => some (0, .inl x12, M11)))) else some (0, .inl (-1), M)) else some (0, .inl (-1), M)) = _
  rw [hL, hL, r1_s, r1_s]
  cases shB (vvI v (usA a q o)) with
  | true => rw [if_neg (show ¬ bI true = 0 by decide), if_pos (Or.inl rfl)]
  | false =>
    rw [if_pos (show bI false = 0 from rfl)]
    cases ltB (vvI v (usA a q o)) with
    | true => rw [if_neg (show ¬ bI true = 0 by decide), if_pos (Or.inr rfl)]
    | false =>
      rw [if_pos (show bI false = 0 from rfl), if_neg (show ¬(false = true ∨ false = true) by decide)]
      cases lvB (opW a q o) (vvI v (usA a q o)) with
      | true => rw [if_neg (show ¬ bI true = 0 by decide)]; rfl
      | false => rw [if_pos (show bI false = 0 from rfl)]; rfl
theorem P_fBor {sc : Nat × (Nat → Int32)} {a : Nat → Nat → Int32} {M : sm_M} {q o : Nat} {v : Nat → Int32} (wf : wfA a) (r : cx a M q) (hq : q < 3) (ho : o < onA a q) (hv : hvC M q o v) {lb : Int32} (hlb : lbA a q (LvC M q) o = lb) : dn sc kFlow_borrowerAt 0 [.inr (.inr (4, q, 0)), .inl (nI o)] [] M = some (0, .inl (bwE a q o v lb), M) := by
  have h16 := (wf.2.1 q hq).2.1
  have rk := r.1.2.1 q hq
  have ok := (wf.2.1 q hq).2.2 o ho
  obtain ⟨vt, vu⟩ := tg_vA ok
  have h5 := P_fBor5 (sc := sc) wf r hq ho hv (lb := lb)
  rw [E_Flow_borrowerAt_0, P_kTg h16 rk ho, r1_s, P_kUs h16 rk ho, r1_s, P_fBehind wf r hq ho, r1_s, P_fBit vt, r1_s, hlb, P_fUse (by omega) hv vt, r1_s, P_fBit vu, r1_s]
  have hL : dn sc kFlow_lowestBorrower 0 [.inr (.inr (4, q, 0)), .inl (nI o), .inl ((lb &&& (btI (tgA a q o) ^^^ (-1))) ||| btI (usA a q o)), .inl (tgA a q o), .inl (bI true)] [] M = some (0, .inl (fsR 6 0 (fun i => (decide (v i = 20 + tgA a q o) || (true && decide (v i = 10 + tgA a q o))) && bt ((lb &&& (btI (tgA a q o) ^^^ (-1))) ||| btI (usA a q o)) i)), M) := P_fLow (by omega) hv (fun i hi => rfl)
  unfold bwE
  by_cases z1 : tgA a q o = -1
  · rw [if_pos (show tgA a q o = -1 from z1), if_pos (Or.inl z1)]
    exact h5
  rw [if_neg (show ¬ tgA a q o = -1 from z1)]
  by_cases z2 : tgA a q o = usA a q o
  · rw [if_pos (show tgA a q o = usA a q o from z2), if_pos (Or.inr (Or.inl z2))]
    exact h5
  rw [if_neg (show ¬ tgA a q o = usA a q o from z2), if_neg (show ¬ tgA a q o = -1 from z1)]
  by_cases z3 : vvI v (tgA a q o) = 0
  · rw [if_pos (show vvI v (tgA a q o) = 0 from z3), if_pos (Or.inr (Or.inr z3))]
    exact h5
  rw [if_neg (show ¬ vvI v (tgA a q o) = 0 from z3), if_neg (show ¬(tgA a q o = -1 ∨ tgA a q o = usA a q o ∨ vvI v (tgA a q o) = 0) from fun z => z.elim z1 (fun z => z.elim z2 z3))]
  have eP : fsR 6 0 (fun i => (decide (v i = 20 + tgA a q o) || (true && decide (v i = 10 + tgA a q o))) && bt ((lb &&& (btI (tgA a q o) ^^^ (-1))) ||| btI (usA a q o)) i) = fsR 6 0 (bwP v lb (tgA a q o) (usA a q o) (tgA a q o) true) := by
    refine fsR_e (fun i _ hi => ?_)
    unfold bwP
    rw [b_or, lb_bit vt (by omega), bit_t vu (by omega)]
    congr 1
    by_cases y : nI i = usA a q o
    · have : ¬ nI i = tgA a q o := fun h => z2 (h.symm.trans y)
      rw [decide_eq_true y, decide_eq_false this, Bool.or_true, Bool.or_true]; rfl
    · rw [decide_eq_false y, Bool.or_false, Bool.or_false]
  rw [eP] at hL
  show sm_r1 (dn sc kFlow_lowestBorrower 0 [.inr (.inr (4, q, 0)), .inl (nI o), .inl ((lb &&& (btI (tgA a q o) ^^^ (-1))) ||| btI (usA a q o)), .inl (tgA a q o), .inl (bI true)] [] M) _ = _
  rw [hL, r1_s]
  by_cases z4 : fsR 6 0 (bwP v lb (tgA a q o) (usA a q o) (tgA a q o) true) = -1
  · rw [if_pos z4, if_pos z4]
    exact h5
  · rw [if_neg z4, if_neg z4]
theorem P_fErr {sc : Nat × (Nat → Int32)} {a : Nat → Nat → Int32} {M : sm_M} {q o : Nat} {v : Nat → Int32} (wf : wfA a) (r : cx a M q) (hq : q < 3) (ho : o ≤ onA a q) (hv : hvC M q o v) (okv : okV a q v) {lb : Int32} (hlb : o < onA a q → lbA a q (LvC M q) o = lb) : dn sc kFlow_errorAt 0 [.inr (.inr (4, q, 0)), .inl (nI o)] [] M = some (0, .inl (erE a q o v lb), M) := by
  have h16 := (wf.2.1 q hq).2.1
  have rk := r.1.2.1 q hq
  rw [E_Flow_errorAt_0, P_fUnlike (by omega) hv, r1_s]
  unfold erE
  cases hu : unB v with
  | true => rw [if_neg (show ¬ bI true = 0 by decide), if_pos rfl]
  | false =>
    rw [if_pos (show bI false = 0 from rfl), if_neg (show ¬ false = true by decide), P_kWhat rk (by omega), r1_s]
    by_cases hoe : o = onA a q
    · have : whK (onA a q) (opW a q) o = 13 := by unfold whK; rw [if_neg (by omega)]
      rw [this, if_pos rfl, P_fEnd wf r hq (by omega) hv okv hu, r1_s, if_pos (Or.inl hoe)]
    have ho' : o < onA a q := by omega
    have ok := (wf.2.1 q hq).2.2 o ho'
    obtain ⟨vt, vu⟩ := tg_vA ok
    rw [whK_i ho']
    by_cases h13 : opW a q o = 13
    · rw [if_pos h13, P_fEnd wf r hq (by omega) hv okv hu, r1_s, if_pos (Or.inr h13)]
    rw [if_neg h13, if_neg (show ¬(o = onA a q ∨ opW a q o = 13) from fun z => z.elim hoe h13), P_kUs h16 rk ho', r1_s, P_fUse (by omega) hv vu, r1_s]
    -- behind the used variable
    have e13 : dn sc kFlow_errorAt 13 [.inr (.inr (4, q, 0)), .inl (nI o)] [] M = some (0, .inl (if ¬ bwE a q o v lb = -1 then 5 else if ¬ ndK (opW a q o) = -1 ∧ tF a q o v = false then 6 else 0), M) := by
      rw [E_Flow_errorAt_13, P_fBor wf r hq ho' hv (hlb ho'), r1_s, P_fOut wf r hq ho' hv okv, r1_s]
      by_cases z : bwE a q o v lb = -1
      · rw [if_pos z, if_neg (show ¬ ¬ bwE a q o v lb = -1 from fun y => y z)]
        by_cases z2 : ndK (opW a q o) = -1
        · rw [decide_eq_true z2, if_neg (show ¬(¬ ndK (opW a q o) = -1 ∧ tF a q o v = false) from fun y => y.1 z2)]; rfl
        · rw [decide_eq_false z2]
          cases ht : tF a q o v with
          | true => rw [if_neg (show ¬(¬ ndK (opW a q o) = -1 ∧ true = false) from fun y => by cases y.2)]; rfl
          | false => rw [if_pos (show ¬ ndK (opW a q o) = -1 ∧ false = false from ⟨z2, rfl⟩)]; rfl
      · rw [if_neg z, if_pos z]
    have e8 : ∀ is, (opW a q o = 7 → is = vvI v (usA a q o)) → dn sc kFlow_errorAt 8 [.inr (.inr (4, q, 0)), .inl (nI o), .inl (usA a q o), .inl is] [] M = some (0, .inl (if wwB (opW a q o) (shB is) (ltB is) = true ∨ okB a q o v = true then 3 else if ¬ tgA a q o = -1 ∧ ¬ tgA a q o = usA a q o ∧ vvI v (tgA a q o) = 3 then 4 else if ¬ bwE a q o v lb = -1 then 5 else if ¬ ndK (opW a q o) = -1 ∧ tF a q o v = false then 6 else 0), M) := by
      intro is his
      rw [E_Flow_errorAt_8, P_fWrong wf r hq ho' hv okv his, r1_s, P_kTg h16 rk ho', r1_s, P_fUse (by omega) hv vt, r1_s, e13]
      have eb : (wwB (opW a q o) (shB is) (ltB is) = true ∨ okB a q o v = true) = ((wwB (opW a q o) (shB is) (ltB is) || okB a q o v) = true) := by rw [Bool.or_eq_true]
      cases hb : (wwB (opW a q o) (shB is) (ltB is) || okB a q o v) with
      | true => rw [if_neg (show ¬ bI true = 0 by decide), if_pos (eb ▸ hb)]
      | false =>
        rw [if_pos (show bI false = 0 from rfl), if_neg (show ¬(wwB (opW a q o) (shB is) (ltB is) = true ∨ okB a q o v = true) from fun z => by rw [eb, hb] at z; cases z)]
        by_cases z : tgA a q o = usA a q o
        · rw [if_pos (show tgA a q o = usA a q o from z), if_neg (show ¬(¬ tgA a q o = -1 ∧ ¬ tgA a q o = usA a q o ∧ vvI v (tgA a q o) = 3) from fun y => y.2.1 z)]
        · rw [if_neg (show ¬ tgA a q o = usA a q o from z)]
          by_cases z2 : tgA a q o = -1
          · rw [if_pos (show tgA a q o = -1 from z2), if_neg (show ¬ (0 : Int32) = 3 by decide), if_neg (show ¬(¬ tgA a q o = -1 ∧ ¬ tgA a q o = usA a q o ∧ vvI v (tgA a q o) = 3) from fun y => y.1 z2)]
          · rw [if_neg (show ¬ tgA a q o = -1 from z2)]
            by_cases z3 : vvI v (tgA a q o) = 3
            · rw [if_pos (show vvI v (tgA a q o) = 3 from z3), if_pos ⟨z2, z, z3⟩]
            · rw [if_neg (show ¬ vvI v (tgA a q o) = 3 from z3), if_neg (show ¬(¬ tgA a q o = -1 ∧ ¬ tgA a q o = usA a q o ∧ vvI v (tgA a q o) = 3) from fun y => z3 y.2.2)]
    unfold usE
    by_cases z : usA a q o = -1
    · have h7 : opW a q o = 7 → (0 : Int32) = vvI v (usA a q o) := by
        intro h7
        have : usA a q o = opY a q o := by unfold usA; rw [h7]; rfl
        obtain ⟨_, _, _, c7, _, _, _, _, _, cY, _⟩ := okO_c ok
        have y2 := cY (by simp only [h7]; decide)
        have y1 := (c7 (Or.inl h7)).2
        rw [this, y2] at z
        exact absurd z ((by decide : ∀ k, k < 6 → ¬ nI k = -1) _ y1)
      rw [if_pos (show usA a q o = -1 from z), if_pos (show usA a q o = -1 from z), if_pos z, if_neg (show ¬((1 : Int32) = 0 ∨ (1 : Int32) = 4) by decide)]
      exact e8 0 h7
    · rw [if_neg (show ¬ usA a q o = -1 from z), if_neg (show ¬ usA a q o = -1 from z), if_neg z]
      show (if vvI v (usA a q o) = 0 then some (0, Sum.inl (2 : Int32), M) else if vvI v (usA a q o) = 4 then some (0, .inl 2, M) else dn sc kFlow_errorAt 8 [.inr (.inr (4, q, 0)), .inl (nI o), .inl (usA a q o), .inl (vvI v (usA a q o))] [] M) = _
      by_cases z0 : vvI v (usA a q o) = 0
      · rw [if_pos z0, if_pos (Or.inl z0)]
      rw [if_neg z0]
      by_cases z4 : vvI v (usA a q o) = 4
      · rw [if_pos z4, if_pos (Or.inr z4)]
      · rw [if_neg z4, if_neg (show ¬(vvI v (usA a q o) = 0 ∨ vvI v (usA a q o) = 4) from fun y => y.elim z0 z4)]
        exact e8 _ (fun _ => rfl)
