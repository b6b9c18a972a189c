/-! LEVEL B: errors: what they are, and in the class -/
/-- some of k from i -/
def anR : Nat → Nat → (Nat → Bool) → Bool
  | 0, _, _ => false
  | k + 1, i, P => P i || anR k (i + 1) P
/-- the first one of k from i -/
def fsR : Nat → Nat → (Nat → Bool) → Int32
  | 0, _, _ => -1
  | k + 1, i, P => if P i = true then nI i else fsR k (i + 1) P
theorem anR_s {k i : Nat} {P : Nat → Bool} : anR (k + 1) i P = (P i || anR k (i + 1) P) := rfl
theorem fsR_s {k i : Nat} {P : Nat → Bool} : fsR (k + 1) i P = if P i = true then nI i else fsR k (i + 1) P := rfl
theorem anR_e {P Q : Nat → Bool} : ∀ {k i : Nat}, (∀ j, i ≤ j → j < i + k → P j = Q j) → anR k i P = anR k i Q := by
  intro k
  induction k with
  | zero => intro i _; rfl
  | succ k ih =>
    intro i h
    rw [anR_s, anR_s, h i (Nat.le_refl _) (by omega), ih (fun j h1 h2 => h j (by omega) (by omega))]
theorem fsR_e {P Q : Nat → Bool} : ∀ {k i : Nat}, (∀ j, i ≤ j → j < i + k → P j = Q j) → fsR k i P = fsR k i Q := by
  intro k
  induction k with
  | zero => intro i _; rfl
  | succ k ih =>
    intro i h
    rw [fsR_s, fsR_s, h i (Nat.le_refl _) (by omega), ih (fun j h1 h2 => h j (by omega) (by omega))]
theorem anR_i {P : Nat → Bool} : ∀ {k i j : Nat}, i ≤ j → j < i + k → P j = true → anR k i P = true := by
  intro k
  induction k with
  | zero => intro i j h1 h2 _; omega
  | succ k ih =>
    intro i j h1 h2 h3
    rw [anR_s]
    by_cases z : j = i
    · subst z; rw [h3]; rfl
    · rw [ih (by omega) (by omega) h3, Bool.or_true]
theorem anR_f {P : Nat → Bool} {k i : Nat} (h : anR k i P = false) : ∀ j, i ≤ j → j < i + k → P j = false := by
  intro j h1 h2
  cases q : P j with
  | false => rfl
  | true => rw [anR_i h1 h2 q] at h; cases h
theorem anR_9 (P : Nat → Bool) : anR 9 0 P = (anR 6 0 P || anR 3 0 (fun c => P (6 + c))) := by
  show (P 0 || (P 1 || (P 2 || (P 3 || (P 4 || (P 5 || (P 6 || (P 7 || (P 8 || false))))))))) = ((P 0 || (P 1 || (P 2 || (P 3 || (P 4 || (P 5 || false)))))) || (P 6 || (P 7 || (P 8 || false))))
  cases P 0 <;> cases P 1 <;> cases P 2 <;> cases P 3 <;> cases P 4 <;> cases P 5 <;> rfl
/-- unlike -/
def unB (v : Nat → Int32) : Bool := anR 9 0 (fun i => decide (v i = if i < 6 then 5 else -2))
/-- what the end wants -/
def opB (a : Nat → Nat → Int32) (p : Nat) (v : Nat → Int32) (c : Nat) : Bool := ofA a c p && !decide (askA a c p (v (6 + c)).toNatClampNeg = 4)
def kpE (a : Nat → Nat → Int32) (p : Nat) (v : Nat → Int32) : Int32 := if anR 6 0 (fun i => decide (v i = 3)) = true then 7 else if anR 3 0 (opB a p v) = true then 8 else 0
/-- a use that the way in which a variable has its value doesn't bear -/
def wwB (w : Int32) (s l : Bool) : Bool := if w = 2 ∨ w = 6 ∨ w = 7 then s || l else if w = 4 then s else if w = 5 then l else false
/-- an op leaves those be that share what it uses -/
def lvB (w u : Int32) : Bool := decide (w = 3) || decide (w = 5) || ((decide (w = 1) || decide (w = 7)) && decide (u = 1))
def vvI (v : Nat → Int32) (x : Int32) : Int32 := v x.toNatClampNeg
/-- the borrowers of a variable -/
def bwP (v : Nat → Int32) (lb tg us ow : Int32) (sh : Bool) (i : Nat) : Bool := (decide (v i = 20 + ow) || (sh && decide (v i = 10 + ow))) && ((bt lb i || decide (nI i = us)) && !decide (nI i = tg))
def bw2 (a : Nat → Nat → Int32) (p o : Nat) (v : Nat → Int32) (lb : Int32) : Int32 :=
  if usA a p o = -1 then -1 else if shB (vvI v (usA a p o)) = true ∨ ltB (vvI v (usA a p o)) = true then -1 else fsR 6 0 (bwP v lb (tgA a p o) (-1) (usA a p o) (!lvB (opW a p o) (vvI v (usA a p o))))
/-- the lowest variable by which an op is borrowed; -1 for none -/
def bwE (a : Nat → Nat → Int32) (p o : Nat) (v : Nat → Int32) (lb : Int32) : Int32 :=
  if tgA a p o = -1 ∨ tgA a p o = usA a p o ∨ vvI v (tgA a p o) = 0 then bw2 a p o v lb
  else if fsR 6 0 (bwP v lb (tgA a p o) (usA a p o) (tgA a p o) true) = -1 then bw2 a p o v lb else fsR 6 0 (bwP v lb (tgA a p o) (usA a p o) (tgA a p o) true)
/-- the kind of another value than that of the step is sent -/
def okB (a : Nat → Nat → Int32) (p o : Nat) (v : Nat → Int32) : Bool := decide (opW a p o = 7) && tF a p o v && !decide (vvI v (usA a p o) = 1 + kF a p o v)
def usE (a : Nat → Nat → Int32) (p o : Nat) (v : Nat → Int32) : Int32 := if usA a p o = -1 then 1 else vvI v (usA a p o)
/-- the error of an op -/
def erE (a : Nat → Nat → Int32) (p o : Nat) (v : Nat → Int32) (lb : Int32) : Int32 :=
  if unB v = true then 1 else if o = onA a p ∨ opW a p o = 13 then kpE a p v
  else if usE a p o v = 0 ∨ usE a p o v = 4 then 2
  else if wwB (opW a p o) (shB (usE a p o v)) (ltB (usE a p o v)) = true ∨ okB a p o v = true then 3
  else if ¬ tgA a p o = -1 ∧ ¬ tgA a p o = usA a p o ∧ vvI v (tgA a p o) = 3 then 4
  else if ¬ bwE a p o v lb = -1 then 5
  else if ¬ ndK (opW a p o) = -1 ∧ tF a p o v = false then 6 else 0
/-- what the class has ahead of an op -/
def hvC (M : sm_M) (q o : Nat) (v : Nat → Int32) : Prop := (∀ i, i < 6 → M.1 4 q 4 (o * 6 + i) = v i) ∧ ∀ c, c < 3 → M.1 4 q 5 (o * 3 + c) = v (6 + c)
theorem P_fUn1 {sc : Nat × (Nat → Int32)} {M : sm_M} {q o : Nat} {v : Nat → Int32} (ho : o < 17) (hv : hvC M q o v) : ∀ k i, i + k = 6 → dn sc kFlow_isUnlike 1 [.inr (.inr (4, q, 0)), .inl (nI o), .inl (nI i)] [] M = if anR k i (fun i => decide (v i = 5)) = true then some (0, .inl 1, M) else dn sc kFlow_isUnlike 6 [.inr (.inr (4, q, 0)), .inl (nI o), .inl 0] [] M := by
  intro k
  induction k with
  | zero =>
    intro i hi
    obtain rfl : i = 6 := by omega
    rw [E_Flow_isUnlike_1, if_neg (by decide), show anR 0 6 (fun i => decide (v i = 5)) = false from rfl, if_neg (show ¬ false = true by decide)]
  | succ k ih =>
    intro i hi
    rw [E_Flow_isUnlike_1, show (6 : Int32) = nI 6 from rfl, if_pos (by rw [i_lt (by omega) (by decide)]; omega), P_fName ho (by omega), r1_s, hv.1 i (by omega), nI_1, ih (i + 1) (by omega), anR_s]
    by_cases z : v i = 5
    · rw [if_pos z, decide_eq_true z, Bool.true_or, if_pos rfl]
    · rw [if_neg z, decide_eq_false z, Bool.false_or]
theorem P_fUn6 {sc : Nat × (Nat → Int32)} {M : sm_M} {q o : Nat} {v : Nat → Int32} (ho : o < 17) (hv : hvC M q o v) : ∀ k i, i + k = 3 → dn sc kFlow_isUnlike 6 [.inr (.inr (4, q, 0)), .inl (nI o), .inl (nI i)] [] M = some (0, .inl (bI (anR k i (fun c => decide (v (6 + c) = -2)))), M) := by
  intro k
  induction k with
  | zero =>
    intro i hi
    obtain rfl : i = 3 := by omega
    rw [E_Flow_isUnlike_6, if_neg (by decide)]; rfl
  | succ k ih =>
    intro i hi
    rw [E_Flow_isUnlike_6, show (3 : Int32) = nI 3 from rfl, if_pos (by rw [i_lt (by omega) (by decide)]; omega), P_fStep ho (by omega), r1_s, hv.2 i (by omega), nI_1, ih (i + 1) (by omega), anR_s]
    by_cases z : v (6 + i) = -2
    · rw [if_pos z, decide_eq_true z]; rfl
    · rw [if_neg z, decide_eq_false z]; rfl
theorem P_fUnlike {sc : Nat × (Nat → Int32)} {M : sm_M} {q o : Nat} {v : Nat → Int32} (ho : o < 17) (hv : hvC M q o v) : dn sc kFlow_isUnlike 0 [.inr (.inr (4, q, 0)), .inl (nI o)] [] M = some (0, .inl (bI (unB v)), M) := by
  have h6 := P_fUn6 (sc := sc) ho hv 3 0 rfl
  have h1 := P_fUn1 (sc := sc) ho hv 6 0 rfl
  have e : unB v = (anR 6 0 (fun i => decide (v i = 5)) || anR 3 0 (fun c => decide (v (6 + c) = -2))) := by
    unfold unB
    rw [anR_9]
    refine congr (congrArg or (anR_e (fun j _ hj => ?_))) (anR_e (fun j _ hj => ?_))
    · rw [if_pos (show j < 6 by omega)]
    · rw [if_neg (by omega)]
  refine (E_Flow_isUnlike_0 sc M q (nI o)).trans (h1.trans ?_)
  rw [e]
  cases anR 6 0 (fun i => decide (v i = 5)) with
  | true => exact if_pos rfl
  | false => rw [if_neg (show ¬ false = true by decide), Bool.false_or]; exact h6
theorem P_fEn1 {sc : Nat × (Nat → Int32)} {M : sm_M} {q o : Nat} {v : Nat → Int32} (ho : o < 17) (hv : hvC M q o v) : ∀ k i, i + k = 6 → dn sc kFlow_endErrorAt 1 [.inr (.inr (4, q, 0)), .inl (nI o), .inl (nI i)] [] M = if anR k i (fun i => decide (v i = 3)) = true then some (0, .inl 7, M) else dn sc kFlow_endErrorAt 6 [.inr (.inr (4, q, 0)), .inl (nI o), .inl 0] [] M := by
  intro k
  induction k with
  | zero =>
    intro i hi
    obtain rfl : i = 6 := by omega
    rw [E_Flow_endErrorAt_1, if_neg (by decide), show anR 0 6 (fun i => decide (v i = 3)) = false from rfl, if_neg (show ¬ false = true by decide)]
  | succ k ih =>
    intro i hi
    rw [E_Flow_endErrorAt_1, show (6 : Int32) = nI 6 from rfl, if_pos (by rw [i_lt (by omega) (by decide)]; omega), P_fName ho (by omega), r1_s, hv.1 i (by omega), nI_1, ih (i + 1) (by omega), anR_s]
    by_cases z : v i = 3
    · rw [if_pos z, decide_eq_true z, Bool.true_or, if_pos rfl]
    · rw [if_neg z, decide_eq_false z, Bool.false_or]
/-- a channel's step where nothing is unlike -/
theorem un_ch {a : Nat → Nat → Int32} {p : Nat} {v : Nat → Int32} (hv : okV a p v) (hu : unB v = false) {c : Nat} (hc : c < 3) (ho : ofA a c p = true) : ∃ k, k < pnA a (prA a c) ∧ v (6 + c) = nI k := by
  rcases (hv.2 c hc).1 ho with z | z
  · have : unB v = true := by
      unfold unB
      rw [anR_9, Bool.or_eq_true]
      refine Or.inr ?_
      have hh : (fun c => decide (v (6 + c) = if 6 + c < 6 then 5 else -2)) c = true := by
        dsimp only
        rw [if_neg (by omega), z, decide_eq_true rfl]
      exact anR_i (j := c) (Nat.zero_le _) (by omega) hh
    rw [hu] at this
    cases this
  · exact z
theorem P_fEn6 {sc : Nat × (Nat → Int32)} {a : Nat → Nat → Int32} {M : sm_M} {q o : Nat} {v : Nat → Int32} (wf : wfA a) (r : cx a M q) (hq : q < 3) (ho : o < 17) (hv : hvC M q o v) (okv : okV a q v) (hu : unB v = false) : ∀ k i, i + k = 3 → dn sc kFlow_endErrorAt 6 [.inr (.inr (4, q, 0)), .inl (nI o), .inl (nI i)] [] M = some (0, .inl (if anR k i (opB a q v) = true then 8 else 0), M) := by
  intro k
  induction k with
  | zero =>
    intro i hi
    obtain rfl : i = 3 := by omega
    rw [E_Flow_endErrorAt_6, if_neg (by decide)]; rfl
  | succ k ih =>
    intro i hi
    rw [E_Flow_endErrorAt_6, show (3 : Int32) = nI 3 from rfl, if_pos (by rw [i_lt (by omega) (by decide)]; omega), P_fStep ho (by omega), r1_s, hv.2 i (by omega), nI_1, ih (i + 1) (by omega), anR_s]
    unfold opB
    cases e : ofA a i q with
    | false => rw [(okv.2 i (by omega)).2 e, if_pos rfl, Bool.false_and, Bool.false_or]
    | true =>
      obtain ⟨s, hs, es⟩ := un_ch okv hu (show i < 3 by omega) e
      have hc : i < cnA a := by unfold ofA at e; rw [Bool.and_eq_true, decide_eq_true_eq] at e; exact e.1
      obtain ⟨_, _, _, w10, _⟩ := wf.2.2.2.2 _ hc
      have h8 := (wf.1 _ w10).2.1
      rw [es, if_neg ((by decide : ∀ s, s < 8 → ¬ nI s = -1) s (by omega)), r.2, P_asked r.1.2.2 hc hq (show s < 8 by omega), r1_s, i_cl (by omega), Bool.true_and]
      by_cases z : askA a i q s = 4
      · rw [if_pos z, ih (i + 1) (by omega), decide_eq_true z, Bool.not_true, Bool.false_or]; rfl
      · rw [if_neg z, decide_eq_false z, Bool.not_false, Bool.true_or, if_pos rfl]
theorem P_fEnd {sc : Nat × (Nat → Int32)} {a : Nat → Nat → Int32} {M : sm_M} {q o : Nat} {v : Nat → Int32} (wf : wfA a) (r : cx a M q) (hq : q < 3) (ho : o < 17) (hv : hvC M q o v) (okv : okV a q v) (hu : unB v = false) : dn sc kFlow_endErrorAt 0 [.inr (.inr (4, q, 0)), .inl (nI o)] [] M = some (0, .inl (kpE a q v), M) := by
  have h6 := P_fEn6 (sc := sc) wf r hq ho hv okv hu 3 0 rfl
  have h1 := P_fEn1 (sc := sc) ho hv 6 0 rfl
  refine (E_Flow_endErrorAt_0 sc M q (nI o)).trans (h1.trans ?_)
  unfold kpE
  cases anR 6 0 (fun i => decide (v i = 3)) with
  | true => rw [if_pos rfl, if_pos rfl]
  | false => rw [if_neg (show ¬ false = true by decide), if_neg (show ¬ false = true by decide)]; exact h6
theorem P_kWrong (sc : Nat × (Nat → Int32)) (M : sm_M) (w : Int32) (s l : Bool) : dn sc kCode_wrongWay 0 [.inl w, .inl (bI s), .inl (bI l)] [] M = some (0, .inl (bI (wwB w s l)), M) := by
  have e1 : dn sc kCode_wrongWay 1 [.inl (bI s), .inl (bI l)] [] M = some (0, .inl (bI (s || l)), M) := by
    rw [E_Code_wrongWay_1]
    cases s <;> cases l <;> rfl
  rw [E_Code_wrongWay_0, e1]
  unfold wwB
  by_cases q2 : w = 2
  · rw [if_pos q2, if_pos (Or.inl q2)]
  rw [if_neg q2]
  by_cases q3 : w = 3
  · subst q3; rfl
  rw [if_neg q3]
  by_cases q4 : w = 4
  · subst q4; cases s <;> rfl
  rw [if_neg q4]
  by_cases q5 : w = 5
  · subst q5; cases l <;> rfl
  rw [if_neg q5]
  by_cases q6 : w = 6
  · rw [if_pos q6, if_pos (Or.inr (Or.inl q6))]
  rw [if_neg q6]
  by_cases q7 : w = 7
  · rw [if_pos q7, if_pos (Or.inr (Or.inr q7))]
  rw [if_neg q7, if_neg (show ¬(w = 2 ∨ w = 6 ∨ w = 7) from fun h => h.elim q2 (fun h => h.elim q6 q7)), if_neg q4, if_neg q5]; rfl
/-- what an op uses, in the class -/
theorem P_fUse {sc : Nat × (Nat → Int32)} {M : sm_M} {q o : Nat} {v : Nat → Int32} (ho : o < 17) (hv : hvC M q o v) {x : Int32} (hx : vrI x) : dn sc kFlow_nameAt 0 [.inr (.inr (4, q, 0)), .inl (nI o), .inl x] [] M = some (0, .inl (if x = -1 then 0 else vvI v x), M) := by
  rcases hx with e | ⟨k, hk, e⟩
  · rw [e, P_fName_n ho, if_pos rfl]
  · rw [e, P_fName ho hk, hv.1 k hk, if_neg ((by decide : ∀ k, k < 6 → ¬ nI k = -1) k hk)]
    unfold vvI
    rw [i_cl (by omega)]
/-- a channel's step ahead of an op, in the class -/
theorem P_fChan {sc : Nat × (Nat → Int32)} {a : Nat → Nat → Int32} {M : sm_M} {q o : Nat} {v : Nat → Int32} (wf : wfA a) (r : cx a M q) (hq : q < 3) (ho : o < onA a q) (hv : hvC M q o v) : dn sc kFlow_stepAt 0 [.inr (.inr (4, q, 0)), .inl (nI o), .inl (chK (opW a q o) (opX a q o))] [] M = some (0, .inl (sF0 a q o v), M) := by
  have h16 := (wf.2.1 q hq).2.1
  have ok := (wf.2.1 q hq).2.2 o ho
  unfold chK sF0
  by_cases q1 : ndK (opW a q o) = -1
  · rw [if_pos q1, if_pos q1, P_fStep_n (by omega)]
  · obtain ⟨x1, x2⟩ := xN_nd ok q1
    rw [if_neg q1, if_neg q1, x2, P_fStep (by omega) x1, hv.2 _ x1]
theorem P_fSuit {sc : Nat × (Nat → Int32)} {a : Nat → Nat → Int32} {M : sm_M} {q o : Nat} {v : Nat → Int32} (wf : wfA a) (r : cx a M q) (hq : q < 3) (ho : o < onA a q) (okv : okV a q v) : dn sc kChannels_suit 0 [.inr (.inr (1, 0, 0)), .inl (nI q), .inl (opW a q o), .inl (chK (opW a q o) (opX a q o)), .inl (sF0 a q o v)] [] M = some (0, .inl (bI (tF a q o v)), M) := by
  have ok := (wf.2.1 q hq).2.2 o ho
  by_cases q1 : ndK (opW a q o) = -1
  · rw [P_suit_n q1, tF_f q1]; rfl
  · obtain ⟨x1, x2⟩ := xN_nd ok q1
    have e : chK (opW a q o) (opX a q o) = nI (xN a q o) := by unfold chK; rw [if_neg q1, x2]
    have e2 : sF0 a q o v = v (6 + xN a q o) := by unfold sF0; rw [if_neg q1]
    rw [e, P_suit r.1.2.2 x1 hq (by rw [e2]; exact okC_st wf (okv.2 _ x1))]; rfl
theorem P_fWrong {sc : Nat × (Nat → Int32)} {a : Nat → Nat → Int32} {M : sm_M} {q o : Nat} {v : Nat → Int32} (wf : wfA a) (r : cx a M q) (hq : q < 3) (ho : o < onA a q) (hv : hvC M q o v) (okv : okV a q v) {is : Int32} (his : opW a q o = 7 → is = vvI v (usA a q o)) : dn sc kFlow_isWrongKind 0 [.inr (.inr (4, q, 0)), .inl (nI o), .inl is] [] M = some (0, .inl (bI (wwB (opW a q o) (shB is) (ltB is) || okB a q o v)), M) := by
  have h16 := (wf.2.1 q hq).2.1
  have rk := r.1.2.1 q hq
  have ok := (wf.2.1 q hq).2.2 o ho
  rw [E_Flow_isWrongKind_0, P_kWhat rk (by omega), r1_s, whK_i ho, P_fShared, r1_s, P_fLent, r1_s, P_kWrong, r1_s]
  cases wwB (opW a q o) (shB is) (ltB is) with
  | true => rw [if_neg (show ¬ bI true = 0 by decide), Bool.true_or]; rfl
  | false =>
    rw [if_pos (show bI false = 0 from rfl), Bool.false_or, P_kChannel rk (by omega), r1_s, whK_i ho, abK_i ho, P_fChan wf r hq ho hv, r1_s]
    unfold okB
    by_cases q7 : opW a q o = 7
    · have hs := P_fSuit (sc := sc) wf r hq ho okv
      have e7 : dn sc kChannels_suit 0 [.inr (.inr (1, 0, 0)), .inl (nI q), .inl 7, .inl (chK (opW a q o) (opX a q o)), .inl (sF0 a q o v)] [] M = some (0, .inl (bI (tF a q o v)), M) := by
        rw [← hs, q7]
      rw [if_pos q7, r.2, e7, r1_s, decide_eq_true q7, Bool.true_and]
      cases ht : tF a q o v with
      | false => rw [if_pos (show bI false = 0 from rfl), Bool.false_and]; rfl
      | true =>
        obtain ⟨t1, t2, t3, t4, t5, t6, t7⟩ := tF_t ht
        obtain ⟨x1, x2⟩ := xN_nd ok t1
        obtain ⟨s, hs, es⟩ := (okv.2 _ x1).1 t3 |>.resolve_left (fun z => by rw [z] at t4; exact t4 (by decide))
        have es' : sF0 a q o v = nI s := t5.trans es
        have e : chK (opW a q o) (opX a q o) = nI (xN a q o) := by unfold chK; rw [if_neg t1, x2]
        have hs8 : s < pnA a (prA a (xN a q o)) := hs
        obtain ⟨_, _, _, w10, _⟩ := wf.2.2.2.2 _ t2
        have h8 := (wf.1 _ w10).2.1
        have ek : kF a q o v = kA a (prA a (xN a q o)) s := by unfold kF; rw [es', i_cl (by omega)]
        rw [if_neg (show ¬ bI true = 0 by decide), e, es', P_cKind r.1.2.2 t2 hs8, r1_s, his q7, Bool.true_and, ek]
        by_cases z : vvI v (usA a q o) = 1 + kA a (prA a (xN a q o)) s
        · rw [if_pos z, decide_eq_true z]; rfl
        · rw [if_neg z, decide_eq_false z]; rfl
    · rw [if_neg q7, decide_eq_false q7, Bool.false_and, Bool.false_and]; rfl
theorem P_fOut {sc : Nat × (Nat → Int32)} {a : Nat → Nat → Int32} {M : sm_M} {q o : Nat} {v : Nat → Int32} (wf : wfA a) (r : cx a M q) (hq : q < 3) (ho : o < onA a q) (hv : hvC M q o v) (okv : okV a q v) : dn sc kFlow_isOutOfSession 0 [.inr (.inr (4, q, 0)), .inl (nI o)] [] M = some (0, .inl (bI (!decide (ndK (opW a q o) = -1) && !tF a q o v)), M) := by
  have h16 := (wf.2.1 q hq).2.1
  have rk := r.1.2.1 q hq
  have ok := (wf.2.1 q hq).2.2 o ho
  rw [E_Flow_isOutOfSession_0, P_kChannel rk (by omega), r1_s, whK_i ho, abK_i ho, P_kWhat rk (by omega), r1_s, whK_i ho, P_fChan wf r hq ho hv, r1_s, r.2, P_fSuit wf r hq ho okv, r1_s]
  by_cases q1 : ndK (opW a q o) = -1
  · have e : chK (opW a q o) (opX a q o) = -1 := by unfold chK; rw [if_pos q1]
    rw [if_pos e, decide_eq_true q1]; rfl
  · obtain ⟨x1, x2⟩ := xN_nd ok q1
    have e : chK (opW a q o) (opX a q o) = nI (xN a q o) := by unfold chK; rw [if_neg q1, x2]
    rw [e, if_neg ((by decide : ∀ k, k < 3 → ¬ nI k = -1) _ x1), decide_eq_false q1]
    cases tF a q o v <;> rfl
