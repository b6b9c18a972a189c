/-! LEVEL B: flows: the order of what variables and channels may be -/
theorem hi_3 : hiI 3 := Or.inl rfl
theorem hi_5 : hiI 5 := Or.inr rfl
theorem nhi_4 : ¬ hiI 4 := by unfold hiI; decide
theorem nhi_0 : ¬ hiI 0 := by unfold hiI; decide
theorem nlo_0 : ¬ loI 0 := by unfold loI; decide
theorem lo_4 : loI 4 := Or.inr rfl
/-- x comes ahead of y: y is what comes of both -/
def leN (x y : Int32) : Prop := x = y ∨ y = 5 ∨ (¬ hiI x ∧ y = 4) ∨ (¬ hiI x ∧ ¬ loI x ∧ y = 0)
theorem leN_r (x : Int32) : leN x x := Or.inl rfl
theorem leN_t {x y z : Int32} (h : leN x y) (h2 : leN y z) : leN x z := by
  rcases h2 with h2 | h2 | ⟨a, h2⟩ | ⟨a, b, h2⟩
  · exact h2 ▸ h
  · exact Or.inr (Or.inl h2)
  · rcases h with h | h | ⟨c, h⟩ | ⟨c, d, h⟩
    · exact Or.inr (Or.inr (Or.inl ⟨h ▸ a, h2⟩))
    · exact absurd (h ▸ hi_5) a
    · exact Or.inr (Or.inr (Or.inl ⟨c, h2⟩))
    · exact Or.inr (Or.inr (Or.inl ⟨c, h2⟩))
  · rcases h with h | h | ⟨c, h⟩ | ⟨c, d, h⟩
    · exact Or.inr (Or.inr (Or.inr ⟨h ▸ a, h ▸ b, h2⟩))
    · exact absurd (h ▸ hi_5) a
    · exact absurd (h ▸ lo_4) b
    · exact Or.inr (Or.inr (Or.inr ⟨c, d, h2⟩))
theorem leN_a {x y : Int32} (h : leN x y) (h2 : leN y x) : x = y := by
  rcases h with h | h | ⟨a, h⟩ | ⟨a, b, h⟩
  · exact h
  · subst h
    rcases h2 with h | h | ⟨c, h⟩ | ⟨c, d, h⟩
    · exact h.symm
    · exact h
    · exact absurd hi_5 c
    · exact absurd hi_5 c
  · subst h
    rcases h2 with h | h | ⟨c, h⟩ | ⟨c, d, h⟩
    · exact h.symm
    · exact absurd (h ▸ hi_5) a
    · exact h
    · exact absurd lo_4 d
  · subst h
    rcases h2 with h | h | ⟨c, h⟩ | ⟨c, d, h⟩
    · exact h.symm
    · exact absurd (h ▸ hi_5) a
    · exact absurd (h ▸ lo_4) b
    · exact h
theorem leN_l (x y : Int32) : leN x (tgI x y) := by
  by_cases q : x = y
  · rw [tgI_eq q]; exact leN_r x
  by_cases p : hiI x ∨ hiI y
  · rw [tgI_hi q p]; exact Or.inr (Or.inl rfl)
  have p1 : ¬ hiI x := fun z => p (Or.inl z)
  have p2 : ¬ hiI y := fun z => p (Or.inr z)
  by_cases l : loI x ∨ loI y
  · rw [tgI_lo q p1 p2 l]; exact Or.inr (Or.inr (Or.inl ⟨p1, rfl⟩))
  have l1 : ¬ loI x := fun z => l (Or.inl z)
  have l2 : ¬ loI y := fun z => l (Or.inr z)
  rw [tgI_no q p1 p2 l1 l2]; exact Or.inr (Or.inr (Or.inr ⟨p1, l1, rfl⟩))
theorem leN_rr (x y : Int32) : leN y (tgI x y) := by rw [tgI_comm]; exact leN_l y x
theorem tgI_le {x y z : Int32} (h : leN x z) (h2 : leN y z) : leN (tgI x y) z := by
  by_cases q : x = y
  · rw [tgI_eq q]; exact h
  by_cases p : hiI x ∨ hiI y
  · rw [tgI_hi q p]
    rcases h with h | h | ⟨a, h⟩ | ⟨a, b, h⟩
    · rcases h2 with h2 | h2 | ⟨c, h2⟩ | ⟨c, d, h2⟩
      · exact absurd (h.trans h2.symm) q
      · exact Or.inl h2.symm
      · subst h2; subst h; exact absurd (p.resolve_right c) nhi_4
      · subst h2; subst h; exact absurd (p.resolve_right c) nhi_0
    · exact Or.inl h.symm
    · subst h
      rcases h2 with h2 | h2 | ⟨c, h2⟩ | ⟨c, d, h2⟩
      · subst h2; exact absurd (p.resolve_left a) nhi_4
      · exact absurd h2 (by decide)
      · exact absurd (p.resolve_left a) c
      · exact absurd h2 (by decide)
    · subst h
      rcases h2 with h2 | h2 | ⟨c, h2⟩ | ⟨c, d, h2⟩
      · subst h2; exact absurd (p.resolve_left a) nhi_0
      · exact absurd h2 (by decide)
      · exact absurd h2 (by decide)
      · exact absurd (p.resolve_left a) c
  have p1 : ¬ hiI x := fun z => p (Or.inl z)
  have p2 : ¬ hiI y := fun z => p (Or.inr z)
  by_cases l : loI x ∨ loI y
  · rw [tgI_lo q p1 p2 l]
    rcases h with h | h | ⟨a, h⟩ | ⟨a, b, h⟩
    · rcases h2 with h2 | h2 | ⟨c, h2⟩ | ⟨c, d, h2⟩
      · exact absurd (h.trans h2.symm) q
      · exact Or.inr (Or.inl h2)
      · exact Or.inl h2.symm
      · subst h2; subst h; exact absurd (l.resolve_right d) nlo_0
    · exact Or.inr (Or.inl h)
    · exact Or.inl h.symm
    · subst h
      rcases h2 with h2 | h2 | ⟨c, h2⟩ | ⟨c, d, h2⟩
      · subst h2; exact absurd (l.resolve_left b) nlo_0
      · exact absurd h2 (by decide)
      · exact absurd h2 (by decide)
      · exact absurd (l.resolve_left b) d
  have l1 : ¬ loI x := fun z => l (Or.inl z)
  have l2 : ¬ loI y := fun z => l (Or.inr z)
  rw [tgI_no q p1 p2 l1 l2]
  rcases h with h | h | ⟨a, h⟩ | ⟨a, b, h⟩
  · rcases h2 with h2 | h2 | ⟨c, h2⟩ | ⟨c, d, h2⟩
    · exact absurd (h.trans h2.symm) q
    · exact Or.inr (Or.inl h2)
    · exact Or.inr (Or.inr (Or.inl ⟨nhi_0, h2⟩))
    · exact Or.inl h2.symm
  · exact Or.inr (Or.inl h)
  · exact Or.inr (Or.inr (Or.inl ⟨nhi_0, h⟩))
  · exact Or.inl h.symm
/-- how often what a variable is can change -/
def htN (x : Int32) : Nat := if x = 5 then 0 else if (x = 3 ∨ x = 5) ∨ x = 4 then 1 else if x = 0 ∨ (x = 2 ∨ x = 4) then 2 else 3
theorem htN_le (x : Int32) : htN x ≤ 3 := by
  unfold htN
  by_cases q : x = 5
  · rw [if_pos q]; decide
  rw [if_neg q]
  by_cases q2 : (x = 3 ∨ x = 5) ∨ x = 4
  · rw [if_pos q2]; decide
  rw [if_neg q2]
  by_cases q3 : x = 0 ∨ (x = 2 ∨ x = 4)
  · rw [if_pos q3]; decide
  · rw [if_neg q3]; decide
theorem htN_lt {x y : Int32} (h : leN x y) (q : ¬ x = y) : htN y < htN x := by
  rcases h with h | h | ⟨a, h⟩ | ⟨a, b, h⟩
  · exact absurd h q
  · subst h
    rw [show htN 5 = 0 from rfl]
    unfold htN
    rw [if_neg q]
    by_cases q2 : (x = 3 ∨ x = 5) ∨ x = 4
    · rw [if_pos q2]; decide
    rw [if_neg q2]
    by_cases q3 : x = 0 ∨ (x = 2 ∨ x = 4)
    · rw [if_pos q3]; decide
    · rw [if_neg q3]; decide
  · subst h
    have e4 : htN 4 = 1 := by unfold htN; rw [if_neg (by decide), if_pos (Or.inr rfl)]
    rw [e4]
    unfold htN
    rw [if_neg (show ¬ x = 5 from fun z => a (z ▸ hi_5)), if_neg (show ¬((x = 3 ∨ x = 5) ∨ x = 4) from fun z => z.elim a q)]
    by_cases q3 : x = 0 ∨ (x = 2 ∨ x = 4)
    · rw [if_pos q3]; decide
    · rw [if_neg q3]; decide
  · subst h
    have e0 : htN 0 = 2 := by unfold htN; rw [if_neg (by decide), if_neg (fun z => z.elim nhi_0 (by decide)), if_pos (Or.inl rfl)]
    rw [e0]
    unfold htN
    rw [if_neg (show ¬ x = 5 from fun z => a (z ▸ hi_5)), if_neg (show ¬((x = 3 ∨ x = 5) ∨ x = 4) from fun z => z.elim a (fun z => b (z ▸ lo_4))), if_neg (show ¬(x = 0 ∨ (x = 2 ∨ x = 4)) from fun z => z.elim q b)]
    decide
/-- steps of channels -/
def tgS (x y : Int32) : Int32 := if x = y then x else -2
def leS (x y : Int32) : Prop := x = y ∨ y = -2
theorem leS_t {x y z : Int32} (h : leS x y) (h2 : leS y z) : leS x z := by
  rcases h2 with h2 | h2
  · exact h2 ▸ h
  · exact Or.inr h2
theorem leS_a {x y : Int32} (h : leS x y) (h2 : leS y x) : x = y := by
  rcases h with h | h
  · exact h
  · rcases h2 with h2 | h2
    · exact h2.symm
    · exact h2.trans h.symm
theorem tgS_comm (x y : Int32) : tgS x y = tgS y x := by
  unfold tgS
  by_cases q : x = y
  · rw [if_pos q, if_pos q.symm, q]
  · rw [if_neg q, if_neg (fun z => q z.symm)]
theorem leS_l (x y : Int32) : leS x (tgS x y) := by
  unfold tgS
  by_cases q : x = y
  · rw [if_pos q]; exact Or.inl rfl
  · rw [if_neg q]; exact Or.inr rfl
theorem tgS_le {x y z : Int32} (h : leS x z) (h2 : leS y z) : leS (tgS x y) z := by
  unfold tgS
  by_cases q : x = y
  · rw [if_pos q]; exact h
  · rw [if_neg q]
    rcases h with h | h
    · rcases h2 with h2 | h2
      · exact absurd (h.trans h2.symm) q
      · exact Or.inl h2.symm
    · exact Or.inl h.symm
/-- of the nine numbers ahead of an op: the variables, then the channels -/
def tg9 (i : Nat) (x y : Int32) : Int32 := if i < 6 then tgI x y else tgS x y
def le9 (i : Nat) (x y : Int32) : Prop := if i < 6 then leN x y else leS x y
def ht9 (i : Nat) (x : Int32) : Nat := if i < 6 then htN x else if x = -2 then 0 else 1
theorem le9_r (i : Nat) (x : Int32) : le9 i x x := by
  unfold le9
  split
  · exact Or.inl rfl
  · exact Or.inl rfl
theorem le9_t {i : Nat} {x y z : Int32} (h : le9 i x y) (h2 : le9 i y z) : le9 i x z := by
  unfold le9 at *
  by_cases q : i < 6
  · rw [if_pos q] at *; exact leN_t h h2
  · rw [if_neg q] at *; exact leS_t h h2
theorem le9_a {i : Nat} {x y : Int32} (h : le9 i x y) (h2 : le9 i y x) : x = y := by
  unfold le9 at *
  by_cases q : i < 6
  · rw [if_pos q] at *; exact leN_a h h2
  · rw [if_neg q] at *; exact leS_a h h2
theorem le9_l (i : Nat) (x y : Int32) : le9 i x (tg9 i x y) := by
  unfold le9 tg9
  by_cases q : i < 6
  · rw [if_pos q, if_pos q]; exact leN_l x y
  · rw [if_neg q, if_neg q]; exact leS_l x y
theorem tg9_comm (i : Nat) (x y : Int32) : tg9 i x y = tg9 i y x := by
  unfold tg9
  rw [tgI_comm, tgS_comm]
theorem le9_rr (i : Nat) (x y : Int32) : le9 i y (tg9 i x y) := by rw [tg9_comm]; exact le9_l i y x
theorem tg9_le {i : Nat} {x y z : Int32} (h : le9 i x z) (h2 : le9 i y z) : le9 i (tg9 i x y) z := by
  unfold le9 tg9 at *
  by_cases q : i < 6
  · rw [if_pos q] at h h2; rw [if_pos q, if_pos q]; exact tgI_le h h2
  · rw [if_neg q] at h h2; rw [if_neg q, if_neg q]; exact tgS_le h h2
theorem tg9_self (i : Nat) (x : Int32) : tg9 i x x = x := by
  unfold tg9 tgS
  rw [tgI_self, if_pos rfl]
  split <;> rfl
theorem ht9_lt {i : Nat} {x y : Int32} (h : le9 i x y) (q : ¬ x = y) : ht9 i y < ht9 i x := by
  unfold le9 ht9 at *
  by_cases p : i < 6
  · rw [if_pos p] at *; rw [if_pos p]; exact htN_lt h q
  · rw [if_neg p] at *
    rw [if_neg p]
    rcases h with h | h
    · exact absurd h q
    · rw [if_pos h, if_neg (fun z => q (z.trans h.symm))]; decide
theorem ht9_le (i : Nat) (x : Int32) : ht9 i x ≤ 3 := by
  unfold ht9
  split
  · exact htN_le x
  · split <;> decide
/-- what is found ahead of the ops of a process: which can be come to, and nine numbers each -/
abbrev sF : Type := (Nat → Bool) × (Nat → Nat → Int32)
/-- nine numbers come to an op -/
def jnF (S : sF) (k : Nat) (v : Nat → Int32) : sF := (fun j => S.1 j || decide (j = k), fun j i => if j = k then (if S.1 k = true then tg9 i (S.2 k i) (v i) else v i) else S.2 j i)
/-- whether they bring anything new -/
def dfF (S : sF) (k : Nat) (v : Nat → Int32) : Bool := !(S.1 k) || anyN 9 (fun i => !decide (tg9 i (S.2 k i) (v i) = S.2 k i))
/-- S is ahead of T -/
def leF (S T : sF) : Prop := ∀ k, k < 17 → S.1 k = true → T.1 k = true ∧ ∀ i, i < 9 → le9 i (S.2 k i) (T.2 k i)
def le_v (v w : Nat → Int32) : Prop := ∀ i, i < 9 → le9 i (v i) (w i)
theorem leF_t {S T U : sF} (h : leF S T) (h2 : leF T U) : leF S U := fun k hk hs => ⟨(h2 k hk (h k hk hs).1).1, fun i hi => le9_t ((h k hk hs).2 i hi) ((h2 k hk (h k hk hs).1).2 i hi)⟩
theorem leF_r (S : sF) : leF S S := fun _ _ h => ⟨h, fun _ _ => le9_r _ _⟩
theorem jnF_1 {S : sF} {k : Nat} {v : Nat → Int32} {j : Nat} : (jnF S k v).1 j = (S.1 j || decide (j = k)) := rfl
theorem jnF_k {S : sF} {k : Nat} {v : Nat → Int32} {i : Nat} : (jnF S k v).2 k i = if S.1 k = true then tg9 i (S.2 k i) (v i) else v i := if_pos rfl
theorem jnF_o {S : sF} {k : Nat} {v : Nat → Int32} {j i : Nat} (h : ¬ j = k) : (jnF S k v).2 j i = S.2 j i := if_neg h
theorem jnF_up {S : sF} {k : Nat} {v : Nat → Int32} : leF S (jnF S k v) := by
  intro j hj h
  refine ⟨by rw [jnF_1, h]; rfl, fun i hi => ?_⟩
  by_cases q : j = k
  · subst q
    rw [jnF_k, if_pos h]
    exact le9_l _ _ _
  · rw [jnF_o q]
    exact le9_r _ _
theorem jnF_in {S : sF} {k : Nat} {v : Nat → Int32} : (jnF S k v).1 k = true ∧ le_v v ((jnF S k v).2 k) := by
  refine ⟨by rw [jnF_1, decide_eq_true rfl, Bool.or_true], fun i hi => ?_⟩
  rw [jnF_k]
  by_cases q : S.1 k = true
  · rw [if_pos q]; exact le9_rr _ _ _
  · rw [if_neg q]; exact le9_r _ _
theorem jnF_le {S T : sF} {k : Nat} {v : Nat → Int32} (h : leF S T) (h1 : T.1 k = true) (h2 : le_v v (T.2 k)) : leF (jnF S k v) T := by
  intro j hj hs
  by_cases q : j = k
  · subst q
    refine ⟨h1, fun i hi => ?_⟩
    rw [jnF_k]
    by_cases p : S.1 j = true
    · rw [if_pos p]; exact tg9_le ((h j hj p).2 i hi) (h2 i hi)
    · rw [if_neg p]; exact h2 i hi
  · rw [jnF_1, decide_eq_false q, Bool.or_false] at hs
    refine ⟨(h j hj hs).1, fun i hi => ?_⟩
    rw [jnF_o q]
    exact (h j hj hs).2 i hi
/-- nothing new: it is as it was -/
theorem dfF_f {S : sF} {k : Nat} {v : Nat → Int32} (h : dfF S k v = false) : S.1 k = true ∧ (∀ i, i < 9 → tg9 i (S.2 k i) (v i) = S.2 k i) := by
  unfold dfF at h
  rw [Bool.or_eq_false_iff, anyN_f] at h
  refine ⟨by cases hs : S.1 k with
    | true => rfl
    | false => rw [hs] at h; exact absurd h.1 (by decide), fun i hi => ?_⟩
  have := h.2 i hi
  rw [Bool.not_eq_false', decide_eq_true_eq] at this
  exact this
theorem dfF_le {S : sF} {k : Nat} {v : Nat → Int32} (h : dfF S k v = false) : le_v v (S.2 k) := by
  intro i hi
  have := (dfF_f h).2 i hi
  rw [← this]
  exact le9_rr _ _ _
theorem dfF_same {S : sF} {k : Nat} {v : Nat → Int32} (h : dfF S k v = false) : (∀ j, (jnF S k v).1 j = S.1 j) ∧ ∀ j i, i < 9 → (jnF S k v).2 j i = S.2 j i := by
  obtain ⟨h1, h2⟩ := dfF_f h
  refine ⟨fun j => ?_, fun j i hi => ?_⟩
  · rw [jnF_1]
    by_cases q : j = k
    · subst q; rw [h1]; rfl
    · rw [decide_eq_false q, Bool.or_false]
  · by_cases q : j = k
    · subst q; rw [jnF_k, if_pos h1, h2 i hi]
    · rw [jnF_o q]
/-- how often what is found can change -/
def ht1 (S : sF) (k : Nat) : Nat := if S.1 k = true then sumN 9 (fun i => ht9 i (S.2 k i)) else 28
def htF (S : sF) : Nat := sumN 17 (ht1 S)
theorem ht1_le (S : sF) (k : Nat) : ht1 S k ≤ 28 := by
  unfold ht1
  split
  · exact Nat.le_trans (sumN_bd (b := 3) (fun i _ => ht9_le i _)) (by decide)
  · exact Nat.le_refl _
theorem htF_le (S : sF) : htF S ≤ 476 := sumN_bd (b := 28) (fun k _ => ht1_le S k)
theorem ht1_jn {S : sF} {k : Nat} {v : Nat → Int32} (h : dfF S k v = true) : ht1 (jnF S k v) k < ht1 S k := by
  unfold ht1
  rw [if_pos (jnF_in).1]
  by_cases q : S.1 k = true
  · rw [if_pos q]
    unfold dfF at h
    rw [q, Bool.not_true, Bool.false_or, anyN_t] at h
    obtain ⟨i, hi, hd⟩ := h
    rw [Bool.not_eq_true', decide_eq_false_iff_not] at hd
    refine sumN_lt (fun j hj => ?_) hi ?_
    · rw [jnF_k, if_pos q]
      by_cases e : S.2 k j = tg9 j (S.2 k j) (v j)
      · rw [← e]; exact Nat.le_refl _
      · exact Nat.le_of_lt (ht9_lt (le9_l _ _ _) e)
    · rw [jnF_k, if_pos q]
      exact ht9_lt (le9_l _ _ _) (fun z => hd z.symm)
  · rw [if_neg q]
    exact Nat.lt_of_le_of_lt (sumN_bd (b := 3) (fun i _ => ht9_le i _)) (by decide)
theorem htF_jn {S : sF} {k : Nat} {v : Nat → Int32} (hk : k < 17) (h : dfF S k v = true) : htF (jnF S k v) < htF S := by
  unfold htF
  refine sumN_lt (fun j hj => ?_) hk (ht1_jn h)
  by_cases q : j = k
  · subst q; exact Nat.le_of_lt (ht1_jn h)
  · unfold ht1
    rw [jnF_1, decide_eq_false q, Bool.or_false]
    have : (fun i => ht9 i ((jnF S k v).2 j i)) = (fun i => ht9 i (S.2 j i)) := by funext i; rw [jnF_o q]
    rw [this]
    exact Nat.le_refl _
theorem htF_same {S T : sF} (h1 : ∀ j, j < 17 → T.1 j = S.1 j) (h2 : ∀ j i, j < 17 → i < 9 → S.1 j = true → T.2 j i = S.2 j i) : htF T = htF S := by
  refine sumN_eq (fun j hj => ?_)
  unfold ht1
  rw [h1 j hj]
  by_cases q : S.1 j = true
  · rw [if_pos q, if_pos q]
    exact sumN_eq (fun i hi => by rw [h2 j i hj hi q])
  · rw [if_neg q, if_neg q]
