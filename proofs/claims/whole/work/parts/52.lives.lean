/-! LEVEL B: what lives: one pass, the same on both sides -/
/-- the target and the used variable of an op, -1 for none -/
def tgA (a : Nat → Nat → Int32) (p o : Nat) : Int32 := tgK (opW a p o) (opX a p o) (opY a p o)
def usA (a : Nat → Nat → Int32) (p o : Nat) : Int32 := usK (opW a p o) (opX a p o) (opY a p o)
def btI (x : Int32) : Int32 := if x = -1 then 0 else 1 <<< (x &&& 31)
/-- a variable or none -/
def vrI (x : Int32) : Prop := x = -1 ∨ ∃ k, k < 6 ∧ x = nI k
theorem tg_vr {W X Y : Int32} (h : okO W X Y = true) : vrI (tgK W X Y) ∧ vrI (usK W X Y) := by
  obtain ⟨c0, c1, c2, c7, c9, c10, c11, ca, cX, cY, cn⟩ := okO_c h
  rcases ca with e | e | e | e | e | e | e | e | e | e | e | e | e | e
  · exact ⟨Or.inr ⟨_, (c0 e).1, by rw [e]; exact cX (by simp only [e]; decide)⟩, Or.inl (by rw [e]; rfl)⟩
  · exact ⟨Or.inr ⟨_, (c1 (Or.inl e)).1, by rw [e]; exact cX (by simp only [e]; decide)⟩, Or.inr ⟨_, (c1 (Or.inl e)).2, by rw [e]; exact cY (by simp only [e]; decide)⟩⟩
  · exact ⟨Or.inl (by rw [e]; rfl), Or.inr ⟨_, c2 (Or.inl e), by rw [e]; exact cX (by simp only [e]; decide)⟩⟩
  · exact ⟨Or.inl (by rw [e]; rfl), Or.inr ⟨_, c2 (Or.inr (Or.inl e)), by rw [e]; exact cX (by simp only [e]; decide)⟩⟩
  · exact ⟨Or.inl (by rw [e]; rfl), Or.inr ⟨_, c2 (Or.inr (Or.inr e)), by rw [e]; exact cX (by simp only [e]; decide)⟩⟩
  · exact ⟨Or.inr ⟨_, (c1 (Or.inr (Or.inl e))).1, by rw [e]; exact cX (by simp only [e]; decide)⟩, Or.inr ⟨_, (c1 (Or.inr (Or.inl e))).2, by rw [e]; exact cY (by simp only [e]; decide)⟩⟩
  · exact ⟨Or.inr ⟨_, (c1 (Or.inr (Or.inr e))).1, by rw [e]; exact cX (by simp only [e]; decide)⟩, Or.inr ⟨_, (c1 (Or.inr (Or.inr e))).2, by rw [e]; exact cY (by simp only [e]; decide)⟩⟩
  · exact ⟨Or.inl (by rw [e]; rfl), Or.inr ⟨_, (c7 (Or.inl e)).2, by rw [e]; exact cY (by simp only [e]; decide)⟩⟩
  · exact ⟨Or.inr ⟨_, (c7 (Or.inr e)).2, by rw [e]; exact cY (by simp only [e]; decide)⟩, Or.inl (by rw [e]; rfl)⟩
  all_goals exact ⟨Or.inl (by rw [e]; rfl), Or.inl (by rw [e]; rfl)⟩
theorem btI_b {x : Int32} (h : vrI x) {b : Nat} (hb : b < 32) : bt (btI x) b = true ↔ (∃ k, k < 6 ∧ x = nI k ∧ b = k) := by
  unfold btI
  rcases h with h | ⟨k, hk, h⟩
  · subst h
    rw [if_pos rfl, b_0]
    refine ⟨fun z => (nomatch z), fun ⟨k, hk, e, _⟩ => ?_⟩
    have := congrArg (fun y : Int32 => decide (y < 0)) e
    have h2 : decide (nI k < 0) = false := decide_eq_false (nI_pos (by omega))
    exact absurd (this.trans h2) (by decide)
  · have : ¬ x = -1 := by
      rw [h]
      have : ∀ k, k < 6 → ¬ nI k = -1 := by decide
      exact this k hk
    rw [if_neg this, h, b_one k (by omega) hb, decide_eq_true_eq]
    refine ⟨fun z => ⟨k, hk, rfl, z⟩, fun ⟨k', hk', e, z⟩ => ?_⟩
    rw [i_eq (by omega) (by omega)] at e
    omega
/-- what lives behind an op -/
def lbA (a : Nat → Nat → Int32) (p : Nat) (L : Nat → Int32) (o : Nat) : Int32 := if opW a p o = 13 then 0 else if opW a p o = 10 ∨ opW a p o = 11 then L (nxO a p o false) ||| L (nxO a p o true) else L (nxO a p o false)
def g1A (a : Nat → Nat → Int32) (p : Nat) (L : Nat → Int32) (o : Nat) : Int32 := (lbA a p L o &&& (btI (tgA a p o) ^^^ (-1))) ||| btI (usA a p o)
def upL (L : Nat → Int32) (o : Nat) (x : Int32) : Nat → Int32 := fun j => if j = o then x else L j
/-- a pass from op o - 1 down -/
def psA (a : Nat → Nat → Int32) (p : Nat) : Nat → (Nat → Int32) → Nat → Int32
  | 0, L => L
  | o + 1, L => psA a p o (upL L o (g1A a p L o))
/-- whether it changes anything -/
def cgA (a : Nat → Nat → Int32) (p : Nat) : Nat → (Nat → Int32) → Bool
  | 0, _ => false
  | o + 1, L => !decide (g1A a p L o = L o) || cgA a p o (upL L o (g1A a p L o))
def sbI (x y : Int32) : Prop := ∀ b, b < 32 → bt x b = true → bt y b = true
theorem sbI_r (x : Int32) : sbI x x := fun _ _ h => h
theorem sbI_t {x y z : Int32} (h : sbI x y) (h2 : sbI y z) : sbI x z := fun b hb q => h2 b hb (h b hb q)
theorem lbA_m {a : Nat → Nat → Int32} {p o : Nat} {L K : Nat → Int32} (h : ∀ j, sbI (L j) (K j)) : sbI (lbA a p L o) (lbA a p K o) := by
  unfold lbA
  intro b hb q
  by_cases h13 : opW a p o = 13
  · rw [if_pos h13] at q ⊢; exact q
  rw [if_neg h13] at q ⊢
  by_cases h10 : opW a p o = 10 ∨ opW a p o = 11
  · rw [if_pos h10] at q ⊢
    rw [b_or, Bool.or_eq_true] at q ⊢
    exact q.imp (h _ b hb) (h _ b hb)
  · rw [if_neg h10] at q ⊢
    exact h _ b hb q
theorem g1A_m {a : Nat → Nat → Int32} {p o : Nat} {L K : Nat → Int32} (h : ∀ j, sbI (L j) (K j)) : sbI (g1A a p L o) (g1A a p K o) := by
  intro b hb q
  unfold g1A at q ⊢
  rw [b_or, b_and, Bool.or_eq_true, Bool.and_eq_true] at q ⊢
  exact q.imp (fun z => ⟨lbA_m h b hb z.1, z.2⟩) id
/-- six bits -/
def b6 (x : Int32) : Prop := ∀ b, b < 32 → bt x b = true → b < 6
/-- it grows -/
def prA1 (a : Nat → Nat → Int32) (p : Nat) (L : Nat → Int32) : Prop := (∀ o, o < onA a p → sbI (L o) (g1A a p L o)) ∧ ∀ o, b6 (L o)
theorem g1A_6 {a : Nat → Nat → Int32} {p o : Nat} {L : Nat → Int32} (ok : okO (opW a p o) (opX a p o) (opY a p o) = true) (h : ∀ o, b6 (L o)) : b6 (g1A a p L o) := by
  intro b hb q
  unfold g1A at q
  rw [b_or, b_and, Bool.or_eq_true, Bool.and_eq_true] at q
  rcases q with q | q
  · have q := q.1
    unfold lbA at q
    by_cases h13 : opW a p o = 13
    · rw [if_pos h13, b_0] at q; cases q
    rw [if_neg h13] at q
    by_cases h10 : opW a p o = 10 ∨ opW a p o = 11
    · rw [if_pos h10, b_or, Bool.or_eq_true] at q
      exact q.elim (h _ b hb) (h _ b hb)
    · rw [if_neg h10] at q
      exact h _ b hb q
  · obtain ⟨k, hk, _, e⟩ := (btI_b (tg_vr ok).2 hb).mp q
    omega
theorem upL_sb {L : Nat → Int32} {o : Nat} {x : Int32} (h : sbI (L o) x) : ∀ j, sbI (L j) (upL L o x j) := by
  intro j
  unfold upL
  by_cases q : j = o
  · rw [if_pos q, q]; exact h
  · rw [if_neg q]; exact sbI_r _
theorem prA_up {a : Nat → Nat → Int32} {p o : Nat} {L : Nat → Int32} (wf : wfA a) (hp : p < 3) (ho : o < onA a p) (h : prA1 a p L) : prA1 a p (upL L o (g1A a p L o)) := by
  obtain ⟨h1, h2⟩ := h
  have up := upL_sb (h1 o ho)
  refine ⟨fun j hj => ?_, fun j => ?_⟩
  · by_cases q : j = o
    · subst q
      rw [show upL L j (g1A a p L j) j = g1A a p L j from if_pos rfl]
      exact g1A_m up
    · rw [show upL L o (g1A a p L o) j = L j from if_neg q]
      exact sbI_t (h1 j hj) (g1A_m up)
  · by_cases q : j = o
    · rw [q, show upL L o (g1A a p L o) o = g1A a p L o from if_pos rfl]
      exact g1A_6 ((wf.2.1 p hp).2.2 o ho) h2
    · rw [show upL L o (g1A a p L o) j = L j from if_neg q]
      exact h2 j
/-- how many bits are wanting -/
def mi1 (x : Int32) : Nat := sumN 6 (fun b => bN (!bt x b))
def miA (L : Nat → Int32) : Nat := sumN 16 (fun o => mi1 (L o))
theorem mi1_le {x y : Int32} (h : sbI x y) : mi1 y ≤ mi1 x := by
  refine sumN_le (fun b hb => ?_)
  cases e : bt x b with
  | false => exact bN_le _
  | true => rw [h b (by omega) e]; exact Nat.le_refl _
theorem mi1_lt {x y : Int32} (h : sbI x y) (h6 : b6 y) (n : ¬ y = x) : mi1 y < mi1 x := by
  have : ∃ b, b < 32 ∧ bt x b = false ∧ bt y b = true := by
    refine Classical.byContradiction (fun c => n ?_)
    refine b_ext (fun b hb => ?_)
    cases e : bt x b with
    | true => exact h b hb e
    | false =>
      cases e2 : bt y b with
      | false => rfl
      | true => exact absurd ⟨b, hb, e, e2⟩ c
  obtain ⟨b, hb, e1, e2⟩ := this
  refine sumN_lt (k := b) (fun j hj => ?_) (h6 b hb e2) ?_
  · cases e : bt x j with
    | false => exact bN_le _
    | true => rw [h j (by omega) e]; exact Nat.le_refl _
  · rw [e1, e2]; decide
theorem miA_le {L : Nat → Int32} : miA L ≤ 96 := sumN_bd (b := 6) (fun o _ => sumN_bd (b := 1) (fun b _ => bN_le _))
theorem miA_up {a : Nat → Nat → Int32} {p o : Nat} {L : Nat → Int32} (wf : wfA a) (hp : p < 3) (ho : o < onA a p) (h : prA1 a p L) : miA (upL L o (g1A a p L o)) ≤ miA L ∧ (¬ g1A a p L o = L o → miA (upL L o (g1A a p L o)) < miA L) := by
  have h16 := (wf.2.1 p hp).2.1
  have up := upL_sb (h.1 o ho)
  refine ⟨sumN_le (fun j _ => mi1_le (up j)), fun n => ?_⟩
  refine sumN_lt (k := o) (fun j _ => mi1_le (up j)) (by omega) ?_
  rw [show upL L o (g1A a p L o) o = g1A a p L o from if_pos rfl]
  exact mi1_lt (h.1 o ho) (g1A_6 ((wf.2.1 p hp).2.2 o ho) h.2) n
theorem psA_pr {a : Nat → Nat → Int32} {p : Nat} (wf : wfA a) (hp : p < 3) : ∀ o L, o ≤ onA a p → prA1 a p L → prA1 a p (psA a p o L) ∧ miA (psA a p o L) ≤ miA L ∧ (cgA a p o L = true → miA (psA a p o L) < miA L) ∧ (cgA a p o L = false → psA a p o L = L) := by
  intro o
  induction o with
  | zero => intro L _ h; exact ⟨h, Nat.le_refl _, fun z => (nomatch z), fun _ => rfl⟩
  | succ o ih =>
    intro L ho h
    have h1 := prA_up wf hp (show o < onA a p by omega) h
    obtain ⟨m1, m2⟩ := miA_up wf hp (show o < onA a p by omega) h
    obtain ⟨i1, i2, i3, i4⟩ := ih (upL L o (g1A a p L o)) (by omega) h1
    refine ⟨i1, Nat.le_trans i2 m1, fun z => ?_, fun z => ?_⟩
    · unfold cgA at z
      rw [Bool.or_eq_true, Bool.not_eq_true', decide_eq_false_iff_not] at z
      rcases z with z | z
      · exact Nat.lt_of_le_of_lt i2 (m2 z)
      · exact Nat.lt_of_lt_of_le (i3 z) m1
    · unfold cgA at z
      rw [Bool.or_eq_false_iff, Bool.not_eq_false', decide_eq_true_eq] at z
      have e : upL L o (g1A a p L o) = L := by
        funext j
        unfold upL
        by_cases q : j = o
        · rw [if_pos q, q]; exact z.1
        · rw [if_neg q]
      show psA a p o (upL L o (g1A a p L o)) = L
      rw [i4 z.2, e]
/-- passes -/
def itA (a : Nat → Nat → Int32) (p : Nat) : Nat → Nat → Int32
  | 0 => fun _ => 0
  | k + 1 => psA a p (onA a p) (itA a p k)
theorem itA_pr {a : Nat → Nat → Int32} {p : Nat} (wf : wfA a) (hp : p < 3) : ∀ k, prA1 a p (itA a p k) := by
  intro k
  induction k with
  | zero => exact ⟨fun o _ b _ q => absurd ((show bt 0 b = true from q).symm.trans (b_0 b)) (by decide), fun o b _ q => absurd ((show bt 0 b = true from q).symm.trans (b_0 b)) (by decide)⟩
  | succ k ih => exact (psA_pr wf hp (onA a p) _ (Nat.le_refl _) ih).1
/-- what lives -/
def lvA (a : Nat → Nat → Int32) (p : Nat) (L : Nat → Int32) : Prop := ∃ k, cgA a p (onA a p) (itA a p k) = false ∧ ∀ o, o < 17 → L o = itA a p k o
theorem itA_st {a : Nat → Nat → Int32} {p : Nat} (wf : wfA a) (hp : p < 3) {k : Nat} (h : cgA a p (onA a p) (itA a p k) = false) : ∀ m, itA a p (k + m) = itA a p k := by
  intro m
  induction m with
  | zero => rfl
  | succ m ih =>
    show psA a p (onA a p) (itA a p (k + m)) = _
    rw [ih]
    exact (psA_pr wf hp (onA a p) _ (Nat.le_refl _) (itA_pr wf hp k)).2.2.2 h
theorem lvA_u {a : Nat → Nat → Int32} {p : Nat} (wf : wfA a) (hp : p < 3) {L K : Nat → Int32} (h : lvA a p L) (h2 : lvA a p K) : ∀ o, o < 17 → L o = K o := by
  obtain ⟨k, k1, k2⟩ := h
  obtain ⟨m, m1, m2⟩ := h2
  intro o ho
  rw [k2 o ho, m2 o ho]
  rcases Nat.le_total k m with q | q
  · have := itA_st wf hp k1 (m - k)
    rw [show k + (m - k) = m by omega] at this
    rw [this]
  · have := itA_st wf hp m1 (k - m)
    rw [show m + (k - m) = k by omega] at this
    rw [this]
