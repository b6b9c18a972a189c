/-! LEVEL B: what was told: the class's cells by the reference's -/
def onA (a : Nat → Nat → Int32) (p : Nat) : Nat := (a 10 p).toNatClampNeg
def opW (a : Nat → Nat → Int32) (p i : Nat) : Int32 := a 11 (16 * p + i)
def opX (a : Nat → Nat → Int32) (p i : Nat) : Int32 := a 12 (16 * p + i)
def opY (a : Nat → Nat → Int32) (p i : Nat) : Int32 := a 13 (16 * p + i)
/-- the class has what the reference has -/
def rTel (a : Nat → Nat → Int32) (M : sm_M) : Prop := (∀ p, p < 3 → rP M p (pnA a p) (wA a p) (kA a p) (bA a p)) ∧ (∀ p, p < 3 → rK M p (onA a p) (opW a p) (opX a p) (opY a p)) ∧ rCh a M
/-- what the reference has is good -/
def wfA (a : Nat → Nat → Int32) : Prop :=
  (∀ p, p < 3 → a 2 p = nI (pnA a p) ∧ pnA a p ≤ 8 ∧ ∀ i, i < pnA a p → okS (wA a p i) (kA a p i) (bA a p i) = true) ∧
  (∀ p, p < 3 → a 10 p = nI (onA a p) ∧ onA a p ≤ 16 ∧ ∀ i, i < onA a p → okO (opW a p i) (opX a p i) (opY a p i) = true) ∧
  a 0 5 = nI (cnA a) ∧ cnA a ≤ 3 ∧ ∀ c, c < cnA a → a 7 c = nI (prA a c) ∧ a 8 c = nI (lA a c) ∧ a 9 c = nI (rA a c) ∧ prA a c < 3 ∧ lA a c < 3 ∧ rA a c < 3 ∧ lA a c ≠ rA a c ∧ 0 < pnA a (prA a c) ∧ ∀ i, i < pnA a (prA a c) → whS (pnA a (prA a c)) (wA a (prA a c)) (kA a (prA a c)) (bA a (prA a c)) i = true
/-- whether a channel has a protocol -/
def hasP (a : Nat → Nat → Int32) (p : Nat) : Bool := (List.range' 0 (cnA a)).any (fun c => prA a c == p)
theorem P_tStep {sc : Nat × (Nat → Int32)} {a : Nat → Nat → Int32} {M : sm_M} (r : rTel a M) (p w x y : Int32) :
    dn sc kTop_step 0 [.inr (.inr (9, 0, 0)), .inl p, .inl w, .inl x, .inl y] [] M =
      if wN p 3 = false then some (1, .inl 0, M) else if okS w x y = false then some (2, .inl 0, M) else
      if (decide (pnA a p.toNatClampNeg = 8) || hasP a p.toNatClampNeg) = true then some (3, .inl 0, M) else
      some (0, .inl (nI (pnA a p.toNatClampNeg)), sm_u (sm_u (sm_u (sm_u M 8 p.toNatClampNeg 1 (pnA a p.toNatClampNeg) w) 8 p.toNatClampNeg 2 (pnA a p.toNatClampNeg) x) 8 p.toNatClampNeg 3 (pnA a p.toNatClampNeg) y) 8 p.toNatClampNeg 0 3 (nI (pnA a p.toNatClampNeg + 1))) := by
  rw [E_Top_step_0, P_within, r1_s, show (!decide (p < 0) && decide (p < 3)) = wN p 3 from rfl]
  cases hp : wN p 3 with
  | false => rw [if_pos (show bI false = 0 from rfl), if_pos rfl]
  | true =>
    rw [if_neg (show ¬ bI true = 0 by decide), if_neg (show ¬ true = false by decide), P_allows, r1_s]
    cases ho : okS w x y with
    | false => rw [if_pos (show bI false = 0 from rfl), if_pos rfl]
    | true =>
      rw [if_neg (show ¬ bI true = 0 by decide), if_neg (show ¬ true = false by decide)]
      obtain ⟨k, hk, rfl⟩ := wN_of (n := 3) (by decide) hp
      have rk := r.1 k hk
      rw [i_ib hk (by decide), if_pos rfl, i_cl (by omega), P_pFull rk.1 rk.2.1, r1_s]
      by_cases q : pnA a k = 8
      · rw [decide_eq_true q, Bool.true_or, if_neg (show ¬ bI true = 0 by decide), if_pos rfl]
      · rw [decide_eq_false q, Bool.false_or, if_pos (show bI false = 0 from rfl), P_cHave r.2.2 hk, r1_s]
        show (if bI (hasP a k) = 0 then _ else _) = _
        cases hasP a k with
        | true => rw [if_neg (show ¬ bI true = 0 by decide), if_pos rfl]
        | false =>
          have h8 := rk.2.1
          rw [if_pos (show bI false = 0 from rfl), if_neg (show ¬ false = true by decide), P_pAdd rk.1 (by omega), r1_s, if_pos rfl]
theorem usedP_hasP {a : Nat → Nat → Int32} (w : wfA a) {k : Nat} (hk : k < 3) : usedP a (nI k) 0 (cnA a) = hasP a k := by
  unfold usedP hasP
  have h := w.2.2.2.2
  have : ∀ (l : List Nat), (∀ c ∈ l, c < cnA a) → l.any (fun c => decide (a 7 c = nI k)) = l.any (fun c => prA a c == k) := by
    intro l
    induction l with
    | nil => intro _; rfl
    | cons c l ih =>
      intro hl
      rw [List.any_cons, List.any_cons, ih (fun c hc => hl c (List.mem_cons_of_mem _ hc))]
      obtain ⟨h7, _, _, h3, _⟩ := h c (hl c (List.mem_cons_self ..))
      have e : decide (a 7 c = nI k) = (prA a c == k) := by
        rw [h7]
        by_cases q : prA a c = k
        · rw [q, beq_self_eq_true, decide_eq_true rfl]
        · rw [beq_eq_false_iff_ne.mpr q, decide_eq_false (by rw [i_eq (by omega) (by omega)]; exact q)]
      rw [e]
  exact this _ (fun c hc => by have := List.mem_range'.mp hc; omega)
