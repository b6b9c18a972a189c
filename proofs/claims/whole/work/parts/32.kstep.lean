/-! LEVEL B: what was told is kept by step -/
def stA (a : Nat → Nat → Int32) (k n : Nat) (w x y : Int32) : Nat → Nat → Int32 := fun j i => if j = 2 ∧ i = k then nI (n + 1) else if j = 3 ∧ i = 8 * k + n then w else if j = 4 ∧ i = 8 * k + n then x else if j = 5 ∧ i = 8 * k + n then y else a j i
theorem stA_o {a : Nat → Nat → Int32} {k n : Nat} {w x y : Int32} {j i : Nat} (h : j = 0 ∨ 5 < j) : stA a k n w x y j i = a j i := by
  unfold stA
  rw [if_neg (by omega), if_neg (by omega), if_neg (by omega), if_neg (by omega)]
theorem stA_pn {a : Nat → Nat → Int32} {k n : Nat} {w x y : Int32} {p : Nat} (hn : n < 8) : pnA (stA a k n w x y) p = if p = k then n + 1 else pnA a p := by
  unfold pnA stA
  by_cases q : p = k
  · rw [if_pos ⟨rfl, q⟩, if_pos q, i_cl (by omega)]
  · rw [if_neg (by omega), if_neg (by omega), if_neg (by omega), if_neg (by omega), if_neg q]
theorem stA_w {a : Nat → Nat → Int32} {k n : Nat} {w x y : Int32} {p i : Nat} (hn : n < 8) (hi : i < 8) : wA (stA a k n w x y) p i = if p = k ∧ i = n then w else wA a p i := by
  unfold wA stA
  rw [if_neg (by omega)]
  by_cases q : p = k ∧ i = n
  · rw [if_pos ⟨rfl, by omega⟩, if_pos q]
  · rw [if_neg (by omega), if_neg (by omega), if_neg (by omega), if_neg q]
theorem stA_k {a : Nat → Nat → Int32} {k n : Nat} {w x y : Int32} {p i : Nat} (hn : n < 8) (hi : i < 8) : kA (stA a k n w x y) p i = if p = k ∧ i = n then x else kA a p i := by
  unfold kA stA
  rw [if_neg (by omega), if_neg (by omega)]
  by_cases q : p = k ∧ i = n
  · rw [if_pos ⟨rfl, by omega⟩, if_pos q]
  · rw [if_neg (by omega), if_neg (by omega), if_neg q]
theorem stA_b {a : Nat → Nat → Int32} {k n : Nat} {w x y : Int32} {p i : Nat} (hn : n < 8) (hi : i < 8) : bA (stA a k n w x y) p i = if p = k ∧ i = n then y else bA a p i := by
  unfold bA stA
  rw [if_neg (by omega), if_neg (by omega), if_neg (by omega)]
  by_cases q : p = k ∧ i = n
  · rw [if_pos ⟨rfl, by omega⟩, if_pos q]
  · rw [if_neg (by omega), if_neg q]
theorem hasP_f {a : Nat → Nat → Int32} {k : Nat} (h : hasP a k = false) {c : Nat} (hc : c < cnA a) : prA a c ≠ k := by
  intro q
  have : hasP a k = true := List.any_eq_true.mpr ⟨c, List.mem_range'.mpr ⟨c, hc, by omega⟩, by rw [q, beq_self_eq_true]⟩
  rw [h] at this
  cases this
/-- the class's memory behind step -/
def stC (M : sm_M) (k n : Nat) (w x y : Int32) : sm_M := sm_u (sm_u (sm_u (sm_u M 8 k 1 n w) 8 k 2 n x) 8 k 3 n y) 8 k 0 3 (nI (n + 1))
theorem askA_congr {a b : Nat → Nat → Int32} {c : Nat} (h : prA b c = prA a c ∧ lA b c = lA a c ∧ rA b c = rA a c) (hp : pnA b (prA a c) = pnA a (prA a c)) (hw : ∀ s, s < 8 → wA b (prA a c) s = wA a (prA a c) s) {p s : Nat} (hs : s < 8) : askA b c p s = askA a c p s := by
  unfold askA
  rw [h.1, h.2.1, h.2.2, hp, hw s hs]
theorem nxS_congr {w a b w' a' b' : Nat → Int32} {s way : Nat} (h1 : w' s = w s) (h2 : a' s = a s) (h3 : b' s = b s) : nxS w' a' b' s way = nxS w a b s way := by
  unfold nxS
  rw [h1, h2, h3]
/-- the same channels: what rCh and rules of channels ask of the reference's cells -/
def chE (a b : Nat → Nat → Int32) : Prop := cnA b = cnA a ∧ ∀ c, c < cnA a → (prA b c = prA a c ∧ lA b c = lA a c ∧ rA b c = rA a c) ∧ pnA b (prA a c) = pnA a (prA a c) ∧ ∀ s, s < 8 → wA b (prA a c) s = wA a (prA a c) s ∧ kA b (prA a c) s = kA a (prA a c) s ∧ bA b (prA a c) s = bA a (prA a c) s
theorem rCh_E {a b : Nat → Nat → Int32} {M : sm_M} (e : chE a b) (r : rCh a M) : rCh b M := by
  obtain ⟨e1, e2⟩ := e
  obtain ⟨r1, r2, r3, r4⟩ := r
  refine ⟨e1 ▸ r1, e1 ▸ r2, fun c hc => ?_, e1 ▸ r4⟩
  rw [e1] at hc
  obtain ⟨x1, x2, x3, x4, x5, x6, x7⟩ := r3 c hc
  obtain ⟨h, hp, hs⟩ := e2 c hc
  unfold rCh1
  rw [h.1, h.2.1, h.2.2, hp]
  refine ⟨x1, x2, x3, x4, fun p s hp' hs' => (x5 p s hp' hs').trans (askA_congr h hp (fun s hs' => (hs s hs').1) hs').symm, fun s hs' => (x6 s hs').trans (hs s (by omega)).2.1.symm, fun s way hs' hw => (x7 s way hs' hw).trans (nxS_congr (hs s (by omega)).1 (hs s (by omega)).2.1 (hs s (by omega)).2.2).symm⟩
theorem stA_chE {a : Nat → Nat → Int32} {k n : Nat} {w x y : Int32} (hn : n < 8) (h : hasP a k = false) : chE a (stA a k n w x y) := by
  refine ⟨by unfold cnA; rw [stA_o (Or.inl rfl)], fun c hc => ⟨⟨by unfold prA; rw [stA_o (Or.inr (by decide))], by unfold lA; rw [stA_o (Or.inr (by decide))], by unfold rA; rw [stA_o (Or.inr (by decide))]⟩, ?_, fun s hs => ?_⟩⟩
  · rw [stA_pn hn, if_neg (hasP_f h hc)]
  · rw [stA_w hn hs, stA_k hn hs, stA_b hn hs, if_neg (fun q => hasP_f h hc q.1), if_neg (fun q => hasP_f h hc q.1), if_neg (fun q => hasP_f h hc q.1)]
    exact ⟨rfl, rfl, rfl⟩
theorem rTel_step {a : Nat → Nat → Int32} {M : sm_M} (r : rTel a M) {k : Nat} {w x y : Int32} (hk : k < 3) (hn : pnA a k < 8) (h : hasP a k = false) : rTel (stA a k (pnA a k) w x y) (stC M k (pnA a k) w x y) := by
  obtain ⟨r1, r2, r3⟩ := r
  refine ⟨fun p hp => ?_, fun p hp => ?_, ?_⟩
  · obtain ⟨x1, x2, x3⟩ := r1 p hp
    unfold rP stC
    simp only [u_1, Nat.reduceEqDiff, and_false, false_and, and_true, true_and, if_false, stA_pn hn]
    by_cases q : p = k
    · subst q
      rw [if_pos rfl, if_pos rfl]
      refine ⟨rfl, by omega, fun i hi => ?_⟩
      rw [stA_w hn (by omega), stA_k hn (by omega), stA_b hn (by omega)]
      by_cases qi : i = pnA a p
      · rw [if_pos ⟨rfl, qi⟩, if_pos ⟨rfl, qi⟩, if_pos ⟨rfl, qi⟩, if_pos ⟨rfl, qi⟩, if_pos ⟨rfl, qi⟩, if_pos ⟨rfl, qi⟩]
        exact ⟨rfl, rfl, rfl⟩
      · rw [if_neg (fun z => qi z.2), if_neg (fun z => qi z.2), if_neg (fun z => qi z.2), if_neg (fun z => qi z.2), if_neg (fun z => qi z.2), if_neg (fun z => qi z.2)]
        exact x3 i (by omega)
    · rw [if_neg q, if_neg q]
      refine ⟨x1, x2, fun i hi => ?_⟩
      rw [stA_w hn (by omega), stA_k hn (by omega), stA_b hn (by omega), if_neg (fun z => q z.1), if_neg (fun z => q z.1), if_neg (fun z => q z.1), if_neg (fun z => q z.1), if_neg (fun z => q z.1), if_neg (fun z => q z.1)]
      exact x3 i hi
  · have e : onA (stA a k (pnA a k) w x y) p = onA a p := by unfold onA; rw [stA_o (Or.inr (by decide))]
    rw [e]
    obtain ⟨x1, x2, x3⟩ := r2 p hp
    refine ⟨x1, x2, fun i hi => ?_⟩
    unfold opW opX opY
    rw [stA_o (Or.inr (by decide)), stA_o (Or.inr (by decide)), stA_o (Or.inr (by decide))]
    exact x3 i hi
  · exact rCh_E (stA_chE hn h) r3
theorem whS_congr {n i : Nat} {w a b w' a' b' : Nat → Int32} (h1 : w' i = w i) (h2 : a' i = a i) (h3 : b' i = b i) : whS n w' a' b' i = whS n w a b i := by
  unfold whS
  rw [nxS_congr h1 h2 h3, nxS_congr h1 h2 h3]
theorem wfA_step {a : Nat → Nat → Int32} (wf : wfA a) {k : Nat} {w x y : Int32} (hk : k < 3) (hn : pnA a k < 8) (h : hasP a k = false) (ho : okS w x y = true) : wfA (stA a k (pnA a k) w x y) := by
  have hE := stA_chE (w := w) (x := x) (y := y) hn h
  obtain ⟨w1, w2, w3, w4, w5⟩ := wf
  refine ⟨fun p hp => ?_, fun p hp => ?_, ?_, ?_, fun c hc => ?_⟩
  · obtain ⟨x1, x2, x3⟩ := w1 p hp
    rw [stA_pn hn]
    by_cases q : p = k
    · subst q
      rw [if_pos rfl]
      refine ⟨by unfold stA; rw [if_pos ⟨rfl, rfl⟩], by omega, fun i hi => ?_⟩
      rw [stA_w hn (by omega), stA_k hn (by omega), stA_b hn (by omega)]
      by_cases qi : i = pnA a p
      · rw [if_pos ⟨rfl, qi⟩, if_pos ⟨rfl, qi⟩, if_pos ⟨rfl, qi⟩]; exact ho
      · rw [if_neg (fun z => qi z.2), if_neg (fun z => qi z.2), if_neg (fun z => qi z.2)]
        exact x3 i (by omega)
    · rw [if_neg q]
      refine ⟨?_, x2, fun i hi => ?_⟩
      · unfold stA
        rw [if_neg (by omega), if_neg (by omega), if_neg (by omega), if_neg (by omega)]
        exact x1
      · rw [stA_w hn (by omega), stA_k hn (by omega), stA_b hn (by omega), if_neg (fun z => q z.1), if_neg (fun z => q z.1), if_neg (fun z => q z.1)]
        exact x3 i hi
  · have e : onA (stA a k (pnA a k) w x y) p = onA a p := by unfold onA; rw [stA_o (Or.inr (by decide))]
    rw [e]
    obtain ⟨x1, x2, x3⟩ := w2 p hp
    refine ⟨(stA_o (Or.inr (by decide))).trans x1, x2, fun i hi => ?_⟩
    unfold opW opX opY
    rw [stA_o (Or.inr (by decide)), stA_o (Or.inr (by decide)), stA_o (Or.inr (by decide))]
    exact x3 i hi
  · rw [hE.1]; exact (stA_o (Or.inl rfl)).trans w3
  · rw [hE.1]; exact w4
  · rw [hE.1] at hc
    obtain ⟨e, ep, es⟩ := hE.2 c hc
    obtain ⟨x1, x2, x3, x4, x5, x6, x7, x8, x9⟩ := w5 c hc
    rw [e.1, e.2.1, e.2.2, ep]
    refine ⟨(stA_o (Or.inr (by decide))).trans x1, (stA_o (Or.inr (by decide))).trans x2, (stA_o (Or.inr (by decide))).trans x3, x4, x5, x6, x7, x8, fun i hi => ?_⟩
    have h8 := (w1 _ x4).2.1
    rw [whS_congr (es i (by omega)).1 (es i (by omega)).2.1 (es i (by omega)).2.2]
    exact x9 i hi
/-- memories alike at the class's and the reference's cells -/
def eqT (M N : sm_M) : Prop := ∀ c, c ≤ 10 → N.1 c = M.1 c ∧ N.2 c = M.2 c
/-- rTel speaks of tags 1, 2 and 8 alone -/
theorem rTel_M {a : Nat → Nat → Int32} {M N : sm_M} (r : rTel a M) (h1 : N.1 1 = M.1 1) (h2 : N.1 2 = M.1 2) (h8 : N.1 8 = M.1 8) : rTel a N := by
  obtain ⟨r1, r2, r3⟩ := r
  refine ⟨fun p hp => ?_, fun p hp => ?_, ?_⟩
  · unfold rP; rw [h8]; exact r1 p hp
  · unfold rK; rw [h2]; exact r2 p hp
  · unfold rCh rCh1; rw [h1]; exact r3
/-- rTel and wfA ask of the reference's cells 0 5 and the arrays 2 to 13 alone -/
def telE (a b : Nat → Nat → Int32) : Prop := b 0 5 = a 0 5 ∧ ∀ j, 2 ≤ j → j ≤ 13 → b j = a j
theorem rTel_a {a b : Nat → Nat → Int32} {M : sm_M} (e : telE a b) (r : rTel a M) : rTel b M := by
  obtain ⟨e0, e⟩ := e
  have h2 := e 2 (by decide) (by decide)
  have h3 := e 3 (by decide) (by decide)
  have h4 := e 4 (by decide) (by decide)
  have h5 := e 5 (by decide) (by decide)
  have h7 := e 7 (by decide) (by decide)
  have h8 := e 8 (by decide) (by decide)
  have h9 := e 9 (by decide) (by decide)
  have h10 := e 10 (by decide) (by decide)
  have h11 := e 11 (by decide) (by decide)
  have h12 := e 12 (by decide) (by decide)
  have h13 := e 13 (by decide) (by decide)
  unfold rTel rCh rCh1 askA cnA prA lA rA pnA wA kA bA onA opW opX opY at r ⊢
  rw [e0, h2, h3, h4, h5, h7, h8, h9, h10, h11, h12, h13]
  exact r
theorem wfA_a {a b : Nat → Nat → Int32} (e : telE a b) (r : wfA a) : wfA b := by
  obtain ⟨e0, e⟩ := e
  have h2 := e 2 (by decide) (by decide)
  have h3 := e 3 (by decide) (by decide)
  have h4 := e 4 (by decide) (by decide)
  have h5 := e 5 (by decide) (by decide)
  have h7 := e 7 (by decide) (by decide)
  have h8 := e 8 (by decide) (by decide)
  have h9 := e 9 (by decide) (by decide)
  have h10 := e 10 (by decide) (by decide)
  have h11 := e 11 (by decide) (by decide)
  have h12 := e 12 (by decide) (by decide)
  have h13 := e 13 (by decide) (by decide)
  unfold wfA cnA prA lA rA pnA wA kA bA onA opW opX opY at r ⊢
  rw [e0, h2, h3, h4, h5, h7, h8, h9, h10, h11, h12, h13]
  exact r
