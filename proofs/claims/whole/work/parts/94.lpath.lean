/-! LEVEL B: layouts: the kinds of what waits are settled by the steps -/
def nxt (a : Nat → Nat → Int32) (c s w : Nat) : Int32 := nxS (wA a (prA a c)) (kA a (prA a c)) (bA a (prA a c)) s w
def kdN (a : Nat → Nat → Int32) (c s : Nat) : Nat := (kA a (prA a c) s).toNatClampNeg
/-- the message m that a process sends at a step, and the step behind it -/
def msg (a : Nat → Nat → Int32) (c p s m t : Nat) : Prop := t < 8 ∧ ((askA a c p s = 0 ∧ m = 1 + kdN a c s ∧ kdN a c s < 3 ∧ nxt a c s 0 = nI t) ∨ (askA a c p s = 2 ∧ ∃ w, w < 2 ∧ m = 4 + w ∧ nxt a c s w = nI t))
def pth (a : Nat → Nat → Int32) (c p s q t : Nat) : Prop := if q = 0 then s = t else if q / 8 = 0 then msg a c p s (q % 8) t else ∃ u, msg a c p s (q % 8) u ∧ msg a c p u (q / 8) t
theorem nI_8 {s t : Nat} (hs : s < 8) (ht : t < 8) (h : nI s = nI t) : s = t := by
  rwa [i_eq (by omega) (by omega)] at h
theorem msg_u {a : Nat → Nat → Int32} {c p s m t m' t' : Nat} (h : msg a c p s m t) (h2 : msg a c p s m' t') (e : abM m = abM m') : m = m' ∧ t = t' := by
  obtain ⟨l1, ⟨x1, x2, x3, x4⟩ | ⟨x1, w, x2, x3, x4⟩⟩ := h
  · obtain ⟨l2, ⟨y1, y2, y3, y4⟩ | ⟨y1, w', y2, y3, y4⟩⟩ := h2
    · exact ⟨by omega, nI_8 l1 l2 (x4.symm.trans y4)⟩
    · exact absurd (x1.symm.trans y1) (by decide)
  · obtain ⟨l2, ⟨y1, y2, y3, y4⟩ | ⟨y1, w', y2, y3, y4⟩⟩ := h2
    · exact absurd (x1.symm.trans y1) (by decide)
    · unfold abM at e
      rw [if_neg (by omega), if_neg (by omega), if_neg (by omega), if_neg (by omega)] at e
      obtain rfl : w = w' := by omega
      exact ⟨by omega, nI_8 l1 l2 (x4.symm.trans y4)⟩
theorem pth_u {a : Nat → Nat → Int32} {c p s q t q' t' : Nat} (h : pth a c p s q t) (h2 : pth a c p s q' t') (w : wfq q) (w2 : wfq q') (e : abQ q = abQ q') : q = q' := by
  have z1 := abQ_0 w
  have z2 := abQ_0 w2
  obtain ⟨_, _, a1, a2⟩ := abQ_32 w
  obtain ⟨_, _, b1, b2⟩ := abQ_32 w2
  have m1 : abM (q % 8) = abM (q' % 8) := by rw [← a1, ← b1, e]
  have m2 : abM (q / 8) = abM (q' / 8) := by rw [← a2, ← b2, e]
  have n1 := abM_0 (m := q / 8)
  have n2 := abM_0 (m := q' / 8)
  by_cases q0 : q = 0
  · have := z2.mp (e ▸ z1.mpr q0)
    omega
  have q0' : ¬ q' = 0 := fun z => q0 (z1.mp (e ▸ z2.mpr z))
  unfold pth at h h2
  rw [if_neg q0] at h
  rw [if_neg q0'] at h2
  by_cases q8 : q / 8 = 0
  · have q8' : q' / 8 = 0 := n2.mp (m2 ▸ n1.mpr q8)
    rw [if_pos q8] at h
    rw [if_pos q8'] at h2
    have := (msg_u h h2 m1).1
    omega
  · have q8' : ¬ q' / 8 = 0 := fun z => q8 (n1.mp (m2.trans (n2.mpr z)))
    rw [if_neg q8] at h
    rw [if_neg q8'] at h2
    obtain ⟨u, h3, h4⟩ := h
    obtain ⟨u', g3, g4⟩ := h2
    obtain ⟨e1, e2⟩ := msg_u h3 g3 m1
    subst e2
    have := (msg_u h4 g4 m2).1
    omega
def apQ (q m : Nat) : Nat := if q % 8 = 0 then q + m else q + 8 * m
theorem apQ_w {q m : Nat} (w : wfq q) (h : q / 8 = 0) (hm : 0 < m) (hm5 : m ≤ 5) : wfq (apQ q m) := by
  unfold wfq apQ at *
  split <;> omega
theorem pth_ap {a : Nat → Nat → Int32} {c p s q u m t : Nat} (h : pth a c p s q u) (w : wfq q) (h8 : q / 8 = 0) (hm : 0 < m) (hm5 : m ≤ 5) (g : msg a c p u m t) : pth a c p s (apQ q m) t := by
  unfold pth at h ⊢
  unfold apQ
  by_cases q0 : q = 0
  · subst q0
    rw [if_pos rfl] at h
    subst h
    rw [if_pos rfl, Nat.zero_add, if_neg (by omega), if_pos (by omega), show m % 8 = m by omega]
    exact g
  · have h9 : ¬ q % 8 = 0 := fun z => q0 (w.1 z)
    rw [if_neg q0, if_pos h8] at h
    rw [if_neg h9, if_neg (by omega), if_neg (by omega), show (q + 8 * m) % 8 = q % 8 by omega, show (q + 8 * m) / 8 = m by omega]
    exact ⟨u, h, g⟩
theorem wfq_8 {q : Nat} (w : wfq q) : wfq (q / 8) := by unfold wfq at *; omega
/-- the first message goes -/
theorem pth_tl {a : Nat → Nat → Int32} {c p s q t : Nat} (h : pth a c p s q t) (w : wfq q) (h8 : ¬ q % 8 = 0) : ∃ u, msg a c p s (q % 8) u ∧ pth a c p u (q / 8) t := by
  unfold pth at h
  rw [if_neg (show ¬ q = 0 by omega)] at h
  by_cases z : q / 8 = 0
  · rw [if_pos z] at h
    refine ⟨t, h, ?_⟩
    unfold pth
    rw [if_pos z]
  · rw [if_neg z] at h
    obtain ⟨u, h1, h2⟩ := h
    refine ⟨u, h1, ?_⟩
    unfold wfq at w
    unfold pth
    rw [if_neg z, if_pos (by omega), show q / 8 % 8 = q / 8 by omega]
    exact h2
noncomputable def stN (a : Nat → Nat → Int32) (h : Nat → Nat) (p c : Nat) : Nat := ((cS a p).2 (h p % 32) (6 + c)).toNatClampNeg
/-- a process is ahead of the other one: what it sent waits for that -/
def QQ (a : Nat → Nat → Int32) (c p o : Nat) (h : Nat → Nat) : Prop := h (3 + qN a c p) = 0 ∧ pth a c p (stN a h o c) (h (3 + qN a c o)) (stN a h p c)
def Qs (a : Nat → Nat → Int32) (c : Nat) (h : Nat → Nat) : Prop := QQ a c (lA a c) (rA a c) h ∨ QQ a c (rA a c) (lA a c) h
def Gd (a : Nat → Nat → Int32) (h : Nat → Nat) : Prop := (∀ p, p < 3 → h p < 64 ∧ h p % 32 ≤ onA a p ∧ (cS a p).1 (h p % 32) = true) ∧ (∀ k, k < 6 → wfq (h (3 + k))) ∧ (∀ c, c < cnA a → Qs a c h) ∧ ∀ c, cnA a ≤ c → c < 3 → h (3 + 2 * c) = 0 ∧ h (3 + (2 * c + 1)) = 0
theorem Gd_w {a : Nat → Nat → Int32} {h : Nat → Nat} (g : Gd a h) : wfh h := ⟨fun p hp => (g.1 p hp).1, g.2.1⟩
theorem qN_l {a : Nat → Nat → Int32} {c : Nat} : qN a c (lA a c) = 2 * c := by unfold qN; rw [if_pos rfl]; rfl
theorem qN_r {a : Nat → Nat → Int32} {c : Nat} (h : lA a c ≠ rA a c) : qN a c (rA a c) = 2 * c + 1 := by unfold qN; rw [if_neg h]
/-- the reference's number settles the class's -/
theorem Gd_i {a : Nat → Nat → Int32} (wf : wfA a) {h g : Nat → Nat} (gh : Gd a h) (gg : Gd a g) (e : rN h = rN g) : ∀ j, j < 9 → h j = g j := by
  obtain ⟨e1, e2⟩ := rN_i (Gd_w gh) (Gd_w gg) e
  intro j hj
  by_cases j3 : j < 3
  · exact e1 j j3
  have both : ∀ c, c < 3 → h (3 + 2 * c) = g (3 + 2 * c) ∧ h (3 + (2 * c + 1)) = g (3 + (2 * c + 1)) := by
    intro c hc
    by_cases cc : c < cnA a
    · obtain ⟨_, _, _, _, wl, wr, wn, _⟩ := wf.2.2.2.2 c cc
      have x1 := gh.2.2.1 c cc
      have x2 := gg.2.2.1 c cc
      have f1 := e2 (2 * c) (by omega)
      have f2 := e2 (2 * c + 1) (by omega)
      have w1 := gh.2.1 (2 * c) (by omega)
      have w2 := gh.2.1 (2 * c + 1) (by omega)
      have w3 := gg.2.1 (2 * c) (by omega)
      have w4 := gg.2.1 (2 * c + 1) (by omega)
      have sl : stN a g (lA a c) c = stN a h (lA a c) c := by unfold stN; rw [e1 _ wl]
      have sr : stN a g (rA a c) c = stN a h (rA a c) c := by unfold stN; rw [e1 _ wr]
      unfold Qs QQ at x1 x2
      rw [qN_l, qN_r wn] at x1 x2
      rw [sl, sr] at x2
      have z1 := abQ_0 w1
      have z2 := abQ_0 w2
      have z3 := abQ_0 w3
      have z4 := abQ_0 w4
      rcases x1 with ⟨p1, p2⟩ | ⟨p1, p2⟩
      · rcases x2 with ⟨y1, y2⟩ | ⟨y1, y2⟩
        · exact ⟨by omega, pth_u p2 y2 w2 w4 f2⟩
        · have := z3.mp (by omega)
          have := z2.mp (by omega)
          exact ⟨by omega, by omega⟩
      · rcases x2 with ⟨y1, y2⟩ | ⟨y1, y2⟩
        · have := z1.mp (by omega)
          have := z4.mp (by omega)
          exact ⟨by omega, by omega⟩
        · exact ⟨pth_u p2 y2 w1 w3 f1, by omega⟩
    · obtain ⟨x1, x2⟩ := gh.2.2.2 c (by omega) hc
      obtain ⟨y1, y2⟩ := gg.2.2.2 c (by omega) hc
      exact ⟨by omega, by omega⟩
  obtain ⟨b1, b2⟩ := both ((j - 3) / 2) (by omega)
  rcases (by omega : (j - 3) % 2 = 0 ∨ (j - 3) % 2 = 1) with z | z
  · rwa [show 3 + 2 * ((j - 3) / 2) = j by omega] at b1
  · rwa [show 3 + (2 * ((j - 3) / 2) + 1) = j by omega] at b2
theorem Qs_s {a : Nat → Nat → Int32} (wf : wfA a) {c p : Nat} {h : Nat → Nat} (o : ofA a c p = true) : Qs a c h ↔ (QQ a c p (oN a c p) h ∨ QQ a c (oN a c p) p h) := by
  obtain ⟨_, _, _, _, _, _, _, l | ⟨l, r⟩⟩ := of_c wf o
  · unfold oN Qs
    rw [if_pos l, l]
  · unfold oN Qs
    rw [if_neg l, r]
    exact or_comm
theorem trn_t (x : Int32) : trn (trn x) = x := by
  unfold trn
  by_cases h0 : x = 0
  · subst h0; rfl
  by_cases h1 : x = 1
  · subst h1; rfl
  by_cases h2 : x = 2
  · subst h2; rfl
  by_cases h3 : x = 3
  · subst h3; rfl
  rw [if_neg h0, if_neg h1, if_neg h2, if_neg h3, if_neg h0, if_neg h1, if_neg h2, if_neg h3]
theorem ask_o {a : Nat → Nat → Int32} (wf : wfA a) {c p s : Nat} (o : ofA a c p = true) (hs : s < pnA a (prA a c)) : askA a c (oN a c p) s = trn (askA a c p s) := by
  obtain ⟨_, _, _, _, h5, _, _, l | ⟨l, r⟩⟩ := of_c wf o
  · unfold askA
    rw [if_pos hs, if_pos hs, if_neg (show ¬ oN a c p = lA a c from fun z => h5 (z.trans l)), if_pos (show oN a c p = rA a c by unfold oN; rw [if_pos l]), if_pos l.symm]
  · unfold askA
    rw [if_pos hs, if_pos hs, if_pos (show oN a c p = lA a c by unfold oN; rw [if_neg l]), if_neg (show ¬ p = lA a c from fun z => l z.symm), if_pos r.symm, trn_t]
/-- a step with a value has a kind -/
theorem kd_3 {a : Nat → Nat → Int32} (wf : wfA a) {c p s : Nat} (o : ofA a c p = true) (hs : s < pnA a (prA a c)) (h : askA a c p s = 0 ∨ askA a c p s = 1) : kdN a c s < 3 ∧ kA a (prA a c) s = nI (kdN a c s) := by
  obtain ⟨h1, _⟩ := of_c wf o
  obtain ⟨_, _, _, w10, _⟩ := wf.2.2.2.2 c h1
  have ok := (wf.1 _ w10).2.2 s hs
  have hw : wA a (prA a c) s = 0 ∨ wA a (prA a c) s = 1 := by
    unfold askA at h
    rw [if_pos hs] at h
    by_cases l : p = lA a c
    · rw [if_pos l] at h; exact h
    · rw [if_neg l] at h
      by_cases r : p = rA a c
      · rw [if_pos r] at h
        rcases h with h | h
        · right
          rw [← trn_t (wA a (prA a c) s), h]; rfl
        · left
          rw [← trn_t (wA a (prA a c) s), h]; rfl
      · rw [if_neg r] at h
        exact absurd h (by decide)
  unfold okS at ok
  rw [if_pos hw, Bool.and_eq_true] at ok
  have := wN_1 (n := 3) (by decide) ok.1
  exact this
