/-! LEVEL B: flows: what an op makes of what is ahead of it -/
def owB (u : Int32) : Bool := !decide (u < 1) && decide (u < 4)
def shB (u : Int32) : Bool := !decide (u < 10) && decide (u < 20)
def ltB (u : Int32) : Bool := !decide (u < 20)
def kpN (u : Int32) : Int32 := if u = 1 ∨ shB u = true then u else 0
def shN (Y u : Int32) : Int32 := if owB u = true then 10 + Y else if shB u = true then u else 0
def ldN (Y u : Int32) : Int32 := if owB u = true then 20 + Y else 0
/-- what is low stays below nothing -/
theorem leN_0 {u : Int32} (h : ¬ hiI u) (h2 : ¬ loI u) : leN u 0 := Or.inr (Or.inr (Or.inr ⟨h, h2, rfl⟩))
theorem shB_n {u : Int32} (h : shB u = true) : ¬ hiI u ∧ ¬ loI u := by
  refine ⟨fun z => ?_, fun z => ?_⟩
  · rcases z with z | z
    · subst z; revert h; decide
    · subst z; revert h; decide
  · rcases z with z | z
    · subst z; revert h; decide
    · subst z; revert h; decide
theorem one_n : ¬ hiI 1 ∧ ¬ loI 1 := by unfold hiI loI; decide
theorem kpN_0 (u : Int32) : leN (kpN u) 0 := by
  unfold kpN
  by_cases q : u = 1 ∨ shB u = true
  · rw [if_pos q]
    rcases q with q | q
    · subst q; exact leN_0 one_n.1 one_n.2
    · exact leN_0 (shB_n q).1 (shB_n q).2
  · rw [if_neg q]; exact leN_r 0
theorem ten_n : ∀ y, y < 6 → ¬ ((10 : Int32) + nI y = 3 ∨ (10 : Int32) + nI y = 5) ∧ ¬ ((10 : Int32) + nI y = 2 ∨ (10 : Int32) + nI y = 4) ∧ ¬ ((20 : Int32) + nI y = 3 ∨ (20 : Int32) + nI y = 5) ∧ ¬ ((20 : Int32) + nI y = 2 ∨ (20 : Int32) + nI y = 4) := by decide
theorem shN_0 {y : Nat} (hy : y < 6) (u : Int32) : leN (shN (nI y) u) 0 := by
  unfold shN
  by_cases q : owB u = true
  · rw [if_pos q]; exact leN_0 (ten_n y hy).1 (ten_n y hy).2.1
  rw [if_neg q]
  by_cases q2 : shB u = true
  · rw [if_pos q2]; exact leN_0 (shB_n q2).1 (shB_n q2).2
  · rw [if_neg q2]; exact leN_r 0
theorem ldN_0 {y : Nat} (hy : y < 6) (u : Int32) : leN (ldN (nI y) u) 0 := by
  unfold ldN
  by_cases q : owB u = true
  · rw [if_pos q]; exact leN_0 (ten_n y hy).2.2.1 (ten_n y hy).2.2.2
  · rw [if_neg q]; exact leN_r 0
/-- what comes ahead of another one is it, or that one is 5, 4 or 0 -/
theorem leN_c {u w : Int32} (h : leN u w) : u = w ∨ w = 5 ∨ w = 4 ∨ w = 0 := by
  rcases h with h | h | ⟨_, h⟩ | ⟨_, _, h⟩
  · exact Or.inl h
  · exact Or.inr (Or.inl h)
  · exact Or.inr (Or.inr (Or.inl h))
  · exact Or.inr (Or.inr (Or.inr h))
theorem mono_0 {f : Int32 → Int32} (h : ∀ u, leN (f u) 0) (h5 : f 5 = 0) (h4 : f 4 = 0) (h0 : f 0 = 0) {u w : Int32} (z : leN u w) : leN (f u) (f w) := by
  rcases leN_c z with q | q | q | q
  · subst q; exact leN_r _
  · subst q; rw [h5]; exact h u
  · subst q; rw [h4]; exact h u
  · subst q; rw [h0]; exact h u
theorem kpN_m {u w : Int32} (z : leN u w) : leN (kpN u) (kpN w) := mono_0 kpN_0 (by decide) (by decide) (by decide) z
theorem shN_m {y : Nat} (hy : y < 6) {u w : Int32} (z : leN u w) : leN (shN (nI y) u) (shN (nI y) w) := mono_0 (shN_0 hy) (by unfold shN; rfl) (by unfold shN; rfl) (by unfold shN; rfl) z
theorem ldN_m {y : Nat} (hy : y < 6) {u w : Int32} (z : leN u w) : leN (ldN (nI y) u) (ldN (nI y) w) := mono_0 (ldN_0 hy) (by unfold ldN; rfl) (by unfold ldN; rfl) (by unfold ldN; rfl) z
/-- whether a channel is of a process -/
def ofA (a : Nat → Nat → Int32) (c p : Nat) : Bool := decide (c < cnA a) && (decide (lA a c = p) || decide (rA a c = p))
/-- what a step of a channel asks of a process, wherever the channel may be -/
def aF (a : Nat → Nat → Int32) (p c : Nat) (s : Int32) : Int32 := if c < cnA a ∧ ¬ s < 0 then askA a c p s.toNatClampNeg else -1
def atF (a : Nat → Nat → Int32) (p : Nat) (W : Int32) (c : Nat) (s : Int32) : Bool := decide (¬ ndK W = -1) && decide (aF a p c s = ndK W)
def xN (a : Nat → Nat → Int32) (p o : Nat) : Nat := (opX a p o).toNatClampNeg
def yN (a : Nat → Nat → Int32) (p o : Nat) : Nat := (opY a p o).toNatClampNeg
/-- variables behind an op -/
def nmF (W Y : Int32) (x y : Nat) (kd : Int32) (t : Bool) (s : Int32) (v : Nat → Int32) (i : Nat) : Int32 :=
  if W = 0 then (if i = x then 1 + Y else v i)
  else if W = 1 then (if x = y then v i else if i = x then v y else if i = y then kpN (v y) else v i)
  else if W = 2 then (if i = x then 0 else v i)
  else if W = 5 then (if i = x then shN Y (v y) else v i)
  else if W = 6 then (if i = x then ldN Y (v y) else v i)
  else if W = 7 then (if i = y then kpN (v y) else v i)
  else if W = 8 then (if i = y then (if t = true then 1 + kd else if s = -2 then 5 else 1) else v i)
  else v i
/-- where the channel of an op is; -1 for an op without one -/
def sF0 (a : Nat → Nat → Int32) (p o : Nat) (v : Nat → Int32) : Int32 := if ndK (opW a p o) = -1 then -1 else v (6 + xN a p o)
def tF (a : Nat → Nat → Int32) (p o : Nat) (v : Nat → Int32) : Bool := atF a p (opW a p o) (xN a p o) (sF0 a p o v)
def kF (a : Nat → Nat → Int32) (p o : Nat) (v : Nat → Int32) : Int32 := kA a (prA a (xN a p o)) (sF0 a p o v).toNatClampNeg
def wyF (a : Nat → Nat → Int32) (p o w : Nat) : Nat := if opW a p o = 9 then yN a p o else w
/-- the nine numbers behind an op, by a way -/
def trF (a : Nat → Nat → Int32) (p o w : Nat) (v : Nat → Int32) (i : Nat) : Int32 :=
  if i < 6 then nmF (opW a p o) (opY a p o) (xN a p o) (yN a p o) (kF a p o v) (tF a p o v) (sF0 a p o v) v i
  else if tF a p o v = true ∧ i = 6 + xN a p o then nxS (wA a (prA a (xN a p o))) (kA a (prA a (xN a p o))) (bA a (prA a (xN a p o))) (sF0 a p o v).toNatClampNeg (wyF a p o w)
  else v i
theorem le9_n {i : Nat} (hi : i < 6) {x y : Int32} : le9 i x y = leN x y := by unfold le9; rw [if_pos hi]
theorem le9_s {i : Nat} (hi : ¬ i < 6) {x y : Int32} : le9 i x y = leS x y := by unfold le9; rw [if_neg hi]
theorem aF_n {a : Nat → Nat → Int32} {p c : Nat} {s : Int32} (h : s < 0) : aF a p c s = -1 := by unfold aF; rw [if_neg (fun z => z.2 h)]
theorem atF_n {a : Nat → Nat → Int32} {p c : Nat} {W s : Int32} (h : s < 0) : atF a p W c s = false := by
  unfold atF
  rw [aF_n h]
  by_cases q : ndK W = -1
  · rw [decide_eq_false (fun z => z q)]; rfl
  · rw [decide_eq_false (show ¬ (-1 : Int32) = ndK W from fun z => q z.symm), Bool.and_false]
/-- an op's numbers are in their ranges: the used and the target variables, the channel -/
theorem wN_1 {x : Int32} {n : Nat} (hn : n < 2147483648) (h : wN x (nI n) = true) : x.toNatClampNeg < n ∧ x = nI x.toNatClampNeg := by
  obtain ⟨k, hk, rfl⟩ := wN_of hn h
  rw [i_cl (by omega)]
  exact ⟨hk, rfl⟩
theorem okO_c {W X Y : Int32} (h : okO W X Y = true) :
    (W = 0 → X.toNatClampNeg < 6 ∧ Y.toNatClampNeg < 3) ∧ (W = 1 ∨ W = 5 ∨ W = 6 → X.toNatClampNeg < 6 ∧ Y.toNatClampNeg < 6) ∧ (W = 2 ∨ W = 3 ∨ W = 4 → X.toNatClampNeg < 6) ∧ (W = 7 ∨ W = 8 → X.toNatClampNeg < 3 ∧ Y.toNatClampNeg < 6) ∧
    (W = 9 → X.toNatClampNeg < 3 ∧ Y.toNatClampNeg < 2) ∧ (W = 10 → X.toNatClampNeg < 3 ∧ Y.toNatClampNeg < 16) ∧ (W = 11 ∨ W = 12 → Y.toNatClampNeg < 16) ∧ (W = 0 ∨ W = 1 ∨ W = 2 ∨ W = 3 ∨ W = 4 ∨ W = 5 ∨ W = 6 ∨ W = 7 ∨ W = 8 ∨ W = 9 ∨ W = 10 ∨ W = 11 ∨ W = 12 ∨ W = 13) ∧
    (W = 0 ∨ W = 1 ∨ W = 2 ∨ W = 3 ∨ W = 4 ∨ W = 5 ∨ W = 6 ∨ W = 7 ∨ W = 8 ∨ W = 9 ∨ W = 10 → X = nI X.toNatClampNeg) ∧ (W = 0 ∨ W = 1 ∨ W = 5 ∨ W = 6 ∨ W = 7 ∨ W = 8 ∨ W = 9 ∨ W = 10 ∨ W = 11 ∨ W = 12 → Y = nI Y.toNatClampNeg) ∧ (W = 5 ∨ W = 6 → ¬ X.toNatClampNeg = Y.toNatClampNeg) := by
  unfold okO at h
  by_cases q0 : W = 0
  · subst q0
    rw [if_pos rfl, Bool.and_eq_true] at h
    obtain ⟨h1, h2⟩ := h
    have x1 := wN_1 (n := 6) (by decide) h1
    have y1 := wN_1 (n := 3) (by decide) h2
    exact ⟨fun _ => ⟨x1.1, y1.1⟩, fun z => absurd z (by decide), fun z => absurd z (by decide), fun z => absurd z (by decide), fun z => absurd z (by decide), fun z => absurd z (by decide), fun z => absurd z (by decide), Or.inl rfl, fun _ => x1.2, fun _ => y1.2, fun z => absurd z (by decide)⟩
  rw [if_neg q0] at h
  by_cases q1 : W = 1
  · subst q1
    rw [if_pos rfl, Bool.and_eq_true] at h
    obtain ⟨h1, h2⟩ := h
    have x1 := wN_1 (n := 6) (by decide) h1
    have y1 := wN_1 (n := 6) (by decide) h2
    exact ⟨fun z => absurd z (by decide), fun _ => ⟨x1.1, y1.1⟩, fun z => absurd z (by decide), fun z => absurd z (by decide), fun z => absurd z (by decide), fun z => absurd z (by decide), fun z => absurd z (by decide), by decide, fun _ => x1.2, fun _ => y1.2, fun z => absurd z (by decide)⟩
  rw [if_neg q1] at h
  by_cases q2 : W = 2 ∨ W = 3 ∨ W = 4
  · rw [if_pos q2] at h
    have x1 := wN_1 (n := 6) (by decide) h
    rcases q2 with q | q | q
    all_goals
      subst q
      exact ⟨fun z => absurd z (by decide), fun z => absurd z (by decide), fun _ => x1.1, fun z => absurd z (by decide), fun z => absurd z (by decide), fun z => absurd z (by decide), fun z => absurd z (by decide), by decide, fun _ => x1.2, fun z => absurd z (by decide), fun z => absurd z (by decide)⟩
  rw [if_neg q2] at h
  by_cases q5 : W = 5 ∨ W = 6
  · rw [if_pos q5, Bool.and_eq_true, Bool.and_eq_true] at h
    obtain ⟨⟨h1, h2⟩, h3⟩ := h
    have x1 := wN_1 (n := 6) (by decide) h1
    have y1 := wN_1 (n := 6) (by decide) h2
    rw [Bool.not_eq_true', decide_eq_false_iff_not] at h3
    have n1 : ¬ X.toNatClampNeg = Y.toNatClampNeg := fun z => h3 (by rw [x1.2, y1.2, z])
    rcases q5 with q | q
    all_goals
      subst q
      exact ⟨fun z => absurd z (by decide), fun _ => ⟨x1.1, y1.1⟩, fun z => absurd z (by decide), fun z => absurd z (by decide), fun z => absurd z (by decide), fun z => absurd z (by decide), fun z => absurd z (by decide), by decide, fun _ => x1.2, fun _ => y1.2, fun _ => n1⟩
  rw [if_neg q5] at h
  by_cases q7 : W = 7 ∨ W = 8
  · rw [if_pos q7, Bool.and_eq_true] at h
    obtain ⟨h1, h2⟩ := h
    have x1 := wN_1 (n := 3) (by decide) h1
    have y1 := wN_1 (n := 6) (by decide) h2
    rcases q7 with q | q
    all_goals
      subst q
      exact ⟨fun z => absurd z (by decide), fun z => absurd z (by decide), fun z => absurd z (by decide), fun _ => ⟨x1.1, y1.1⟩, fun z => absurd z (by decide), fun z => absurd z (by decide), fun z => absurd z (by decide), by decide, fun _ => x1.2, fun _ => y1.2, fun z => absurd z (by decide)⟩
  rw [if_neg q7] at h
  by_cases q9 : W = 9
  · subst q9
    rw [if_pos rfl, Bool.and_eq_true] at h
    obtain ⟨h1, h2⟩ := h
    have x1 := wN_1 (n := 3) (by decide) h1
    have y1 := wN_1 (n := 2) (by decide) h2
    exact ⟨fun z => absurd z (by decide), fun z => absurd z (by decide), fun z => absurd z (by decide), fun z => absurd z (by decide), fun _ => ⟨x1.1, y1.1⟩, fun z => absurd z (by decide), fun z => absurd z (by decide), by decide, fun _ => x1.2, fun _ => y1.2, fun z => absurd z (by decide)⟩
  rw [if_neg q9] at h
  by_cases q10 : W = 10
  · subst q10
    rw [if_pos rfl, Bool.and_eq_true] at h
    obtain ⟨h1, h2⟩ := h
    have x1 := wN_1 (n := 3) (by decide) h1
    have y1 := wN_1 (n := 16) (by decide) h2
    exact ⟨fun z => absurd z (by decide), fun z => absurd z (by decide), fun z => absurd z (by decide), fun z => absurd z (by decide), fun z => absurd z (by decide), fun _ => ⟨x1.1, y1.1⟩, fun z => absurd z (by decide), by decide, fun _ => x1.2, fun _ => y1.2, fun z => absurd z (by decide)⟩
  rw [if_neg q10] at h
  by_cases q11 : W = 11 ∨ W = 12
  · rw [if_pos q11] at h
    have y1 := wN_1 (n := 16) (by decide) h
    rcases q11 with q | q
    all_goals
      subst q
      exact ⟨fun z => absurd z (by decide), fun z => absurd z (by decide), fun z => absurd z (by decide), fun z => absurd z (by decide), fun z => absurd z (by decide), fun z => absurd z (by decide), fun _ => y1.1, by decide, fun z => absurd z (by decide), fun _ => y1.2, fun z => absurd z (by decide)⟩
  rw [if_neg q11, decide_eq_true_eq] at h
  subst h
  exact ⟨fun z => absurd z (by decide), fun z => absurd z (by decide), fun z => absurd z (by decide), fun z => absurd z (by decide), fun z => absurd z (by decide), fun z => absurd z (by decide), fun z => absurd z (by decide), by decide, fun z => absurd z (by decide), fun z => absurd z (by decide), fun z => absurd z (by decide)⟩
/-- ops keep the order -/
theorem trF_m {a : Nat → Nat → Int32} {p o w : Nat} (hO : okO (opW a p o) (opX a p o) (opY a p o) = true) {v u : Nat → Int32} (h : le_v v u) : le_v (trF a p o w v) (trF a p o w u) := by
  obtain ⟨c0, c1, c2, c7, c9, c10, c11, _, _, cY, _⟩ := okO_c hO
  have hs : sF0 a p o v = sF0 a p o u ∨ (sF0 a p o u = -2 ∧ ¬ ndK (opW a p o) = -1 ∧ u (6 + xN a p o) = -2) := by
    unfold sF0
    by_cases q : ndK (opW a p o) = -1
    · rw [if_pos q, if_pos q]; exact Or.inl rfl
    · rw [if_neg q, if_neg q]
      have hx : xN a p o < 3 := by
        unfold xN
        unfold ndK at q
        by_cases q7 : opW a p o = 7
        · exact (c7 (Or.inl q7)).1
        rw [if_neg q7] at q
        by_cases q8 : opW a p o = 8
        · exact (c7 (Or.inr q8)).1
        rw [if_neg q8] at q
        by_cases q9 : opW a p o = 9
        · exact (c9 q9).1
        rw [if_neg q9] at q
        by_cases q10 : opW a p o = 10
        · exact (c10 q10).1
        rw [if_neg q10] at q
        exact absurd rfl q
      have := h (6 + xN a p o) (by omega)
      rw [le9_s (by omega)] at this
      rcases this with z | z
      · exact Or.inl z
      · exact Or.inr ⟨z, q, z⟩
  have ht : tF a p o v = tF a p o u ∨ tF a p o u = false := by
    unfold tF
    rcases hs with z | z
    · rw [z]; exact Or.inl rfl
    · rw [z.1]; exact Or.inr (atF_n (by decide))
  intro i hi
  unfold trF
  by_cases q : i < 6
  · rw [if_pos q, if_pos q, le9_n q]
    have hv : ∀ j, j < 6 → leN (v j) (u j) := fun j hj => by have := h j (by omega); rw [le9_n hj] at this; exact this
    unfold nmF
    by_cases q0 : opW a p o = 0
    · rw [if_pos q0, if_pos q0]
      by_cases e : i = xN a p o
      · rw [if_pos e, if_pos e]; exact leN_r _
      · rw [if_neg e, if_neg e]; exact hv i q
    rw [if_neg q0, if_neg q0]
    by_cases q1 : opW a p o = 1
    · rw [if_pos q1, if_pos q1]
      have hy : yN a p o < 6 := (c1 (Or.inl q1)).2
      by_cases e : xN a p o = yN a p o
      · rw [if_pos e, if_pos e]; exact hv i q
      rw [if_neg e, if_neg e]
      by_cases e : i = xN a p o
      · rw [if_pos e, if_pos e]; exact hv _ hy
      rw [if_neg e, if_neg e]
      by_cases e : i = yN a p o
      · rw [if_pos e, if_pos e]; exact kpN_m (hv _ hy)
      · rw [if_neg e, if_neg e]; exact hv i q
    rw [if_neg q1, if_neg q1]
    by_cases q2 : opW a p o = 2
    · rw [if_pos q2, if_pos q2]
      by_cases e : i = xN a p o
      · rw [if_pos e, if_pos e]; exact leN_r _
      · rw [if_neg e, if_neg e]; exact hv i q
    rw [if_neg q2, if_neg q2]
    by_cases q5 : opW a p o = 5
    · rw [if_pos q5, if_pos q5]
      have hy : yN a p o < 6 := (c1 (Or.inr (Or.inl q5))).2
      have eY : opY a p o = nI (yN a p o) := cY (Or.inr (Or.inr (Or.inl q5)))
      by_cases e : i = xN a p o
      · rw [if_pos e, if_pos e, eY]; exact shN_m hy (hv _ hy)
      · rw [if_neg e, if_neg e]; exact hv i q
    rw [if_neg q5, if_neg q5]
    by_cases q6 : opW a p o = 6
    · rw [if_pos q6, if_pos q6]
      have hy : yN a p o < 6 := (c1 (Or.inr (Or.inr q6))).2
      have eY : opY a p o = nI (yN a p o) := cY (Or.inr (Or.inr (Or.inr (Or.inl q6))))
      by_cases e : i = xN a p o
      · rw [if_pos e, if_pos e, eY]; exact ldN_m hy (hv _ hy)
      · rw [if_neg e, if_neg e]; exact hv i q
    rw [if_neg q6, if_neg q6]
    by_cases q7 : opW a p o = 7
    · rw [if_pos q7, if_pos q7]
      have hy : yN a p o < 6 := (c7 (Or.inl q7)).2
      by_cases e : i = yN a p o
      · rw [if_pos e, if_pos e]; exact kpN_m (hv _ hy)
      · rw [if_neg e, if_neg e]; exact hv i q
    rw [if_neg q7, if_neg q7]
    by_cases q8 : opW a p o = 8
    · rw [if_pos q8, if_pos q8]
      by_cases e : i = yN a p o
      · rw [if_pos e, if_pos e]
        rcases hs with z | ⟨z, _, _⟩
        · unfold kF tF
          rw [z]; exact leN_r _
        · have : tF a p o u = false := by unfold tF; rw [z]; exact atF_n (by decide)
          rw [this, z]
          exact Or.inr (Or.inl rfl)
      · rw [if_neg e, if_neg e]; exact hv i q
    rw [if_neg q8, if_neg q8]
    exact hv i q
  · rw [if_neg q, if_neg q, le9_s q]
    have h0 := h i hi
    rw [le9_s q] at h0
    rcases hs with z | ⟨z, z2, z3⟩
    · have et : tF a p o v = tF a p o u := by unfold tF; rw [z]
      rw [et, z]
      by_cases e : tF a p o u = true ∧ i = 6 + xN a p o
      · rw [if_pos e, if_pos e]; exact Or.inl rfl
      · rw [if_neg e, if_neg e]; exact h0
    · have et : tF a p o u = false := by unfold tF; rw [z]; exact atF_n (by decide)
      rw [if_neg (show ¬(tF a p o u = true ∧ i = 6 + xN a p o) from fun k => by rw [et] at k; cases k.1)]
      by_cases e : tF a p o v = true ∧ i = 6 + xN a p o
      · rw [if_pos e, e.2, z3]; exact Or.inr rfl
      · rw [if_neg e]; exact h0
