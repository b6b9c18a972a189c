/-! LEVEL B: channel keeps what was told -/
def chA (a : Nat → Nat → Int32) (c q l r' : Nat) : Nat → Nat → Int32 := fun j i => if j = 0 ∧ i = 5 then nI (c + 1) else if j = 7 ∧ i = c then nI q else if j = 8 ∧ i = c then nI l else if j = 9 ∧ i = c then nI r' else a j i
theorem chA_j {a : Nat → Nat → Int32} {c q l r' : Nat} {j : Nat} (h : j ≠ 0 ∧ j ≠ 7 ∧ j ≠ 8 ∧ j ≠ 9) : chA a c q l r' j = a j := by
  funext i
  unfold chA
  rw [if_neg (by omega), if_neg (by omega), if_neg (by omega), if_neg (by omega)]
theorem chA_cn {a : Nat → Nat → Int32} {c q l r' : Nat} (hc : c < 3) : cnA (chA a c q l r') = c + 1 := by
  unfold cnA chA
  rw [if_pos ⟨rfl, rfl⟩, i_cl (by omega)]
theorem chA_p {a : Nat → Nat → Int32} {c q l r' d : Nat} (hq : q < 3) (hl : l < 3) (hr : r' < 3) : prA (chA a c q l r') d = (if d = c then q else prA a d) ∧ lA (chA a c q l r') d = (if d = c then l else lA a d) ∧ rA (chA a c q l r') d = (if d = c then r' else rA a d) := by
  unfold prA lA rA chA
  simp only [Nat.reduceEqDiff, false_and, if_false, true_and]
  by_cases e : d = c
  · simp only [e, if_true, i_cl (show q < 2147483648 by omega), i_cl (show l < 2147483648 by omega), i_cl (show r' < 2147483648 by omega), and_self]
  · simp only [e, if_false, and_self]
theorem chA_pn {a : Nat → Nat → Int32} {c q l r' : Nat} : pnA (chA a c q l r') = pnA a ∧ wA (chA a c q l r') = wA a ∧ kA (chA a c q l r') = kA a ∧ bA (chA a c q l r') = bA a := by
  unfold pnA wA kA bA
  rw [chA_j (j := 2) (by omega), chA_j (j := 3) (by omega), chA_j (j := 4) (by omega), chA_j (j := 5) (by omega)]
  exact ⟨rfl, rfl, rfl, rfl⟩
theorem rTel_chan {a : Nat → Nat → Int32} {M M' : sm_M} (r : rTel a M) {q l r' : Nat} (hq : q < 3) (hl : l < 3) (hr : r' < 3) (hlr : l ≠ r') (hc : cnA a < 3) (hm : mid (cnA a) l r' (wA a q) (kA a q) (bA a q) (pnA a q) (ch3 (forgets (forgets M l) r') (cnA a) (nI q) (nI l) (nI r')) M') :
    rTel (chA a (cnA a) q l r') (sm_u M' 1 0 0 6 (nI (cnA a + 1))) := by
  obtain ⟨r1, r2, r3⟩ := r
  obtain ⟨m1, m2, m3, m4, m5⟩ := hm
  obtain ⟨c1, c2, c3, c4⟩ := r3
  have g8 : M'.1 8 = M.1 8 := by
    funext p j i
    exact m1 8 p j i (by omega)
  have g2 : M'.1 2 = M.1 2 := by
    funext p j i
    exact m1 2 p j i (by omega)
  obtain ⟨e1, e2, e3, e4⟩ := chA_pn (a := a) (c := cnA a) (q := q) (l := l) (r' := r')
  refine ⟨fun p hp => ?_, fun p hp => ?_, ?_⟩
  · rw [e1, e2, e3, e4]
    have := r1 p hp
    unfold rP at this ⊢
    simp only [u_1, Nat.reduceEqDiff, false_and, if_false]
    rw [g8]
    exact this
  · have := r2 p hp
    unfold rK onA opW opX opY at this ⊢
    simp only [u_1, Nat.reduceEqDiff, false_and, if_false]
    rw [g2, chA_j (j := 10) (by omega), chA_j (j := 11) (by omega), chA_j (j := 12) (by omega), chA_j (j := 13) (by omega)]
    exact this
  · have hp8 := (r1 q hq).2.1
    unfold rCh
    rw [chA_cn hc]
    refine ⟨by rw [u_1, if_pos ⟨rfl, rfl, rfl, rfl⟩], by omega, fun d hd => ?_, fun d p s hd hd3 hp hs => ?_⟩
    · obtain ⟨p1, p2, p3⟩ := chA_p (a := a) (c := cnA a) (d := d) hq hl hr
      unfold rCh1 askA
      simp only [u_1, Nat.reduceEqDiff, false_and, and_false, if_false]
      rw [e1, e2, e3, e4, p1, p2, p3, m1 1 0 1 d (by omega), m1 1 0 2 d (by omega), m1 1 0 3 d (by omega)]
      unfold ch3 forgets
      simp only [u_1, Nat.reduceEqDiff, false_and, and_false, if_false, true_and]
      by_cases e : d = cnA a
      · subst e
        simp only [if_true]
        refine ⟨trivial, trivial, trivial, ⟨hq, hl, hr, hlr, hp8⟩, fun p s hp hs => ?_, fun s hs => ?_, fun s way hs hw => ?_⟩
        · rw [m3 (cnA a) p s hp hs]
          by_cases hsn : s < pnA a q
          · rw [if_pos hsn]
            by_cases pl : p = l
            · rw [if_pos ⟨rfl, hsn, pl⟩, if_pos pl]
            · rw [if_neg (fun z => pl z.2.2), if_neg pl]
              by_cases pr : p = r'
              · rw [if_pos ⟨rfl, hsn, pr⟩, if_pos pr]
              · rw [if_neg (fun z => pr z.2.2), if_neg pr]
                exact c4 (cnA a) p s (Nat.le_refl _) hc hp hs
          · rw [if_neg (fun z => hsn z.2.1), if_neg (fun z => hsn z.2.1), if_neg hsn]
            exact c4 (cnA a) p s (Nat.le_refl _) hc hp hs
        · rw [m4 (cnA a) s (by omega), if_pos ⟨rfl, hs⟩]
        · rw [m5 (cnA a) s way (by omega) hw, if_pos ⟨rfl, hs⟩]
      · simp only [e, if_false]
        obtain ⟨x1, x2, x3, x4, x5, x6, x7⟩ := c3 d (by omega)
        have h8 := x4.2.2.2.2
        refine ⟨x1, x2, x3, x4, fun p s hp hs => ?_, fun s hs => ?_, fun s way hs hw => ?_⟩
        · rw [m3 d p s hp hs, if_neg (fun z => e z.1), if_neg (fun z => e z.1)]
          exact x5 p s hp hs
        · rw [m4 d s (by omega), if_neg (fun z => e z.1)]
          exact x6 s hs
        · rw [m5 d s way (by omega) hw, if_neg (fun z => e z.1)]
          exact x7 s way hs hw
    · simp only [u_1, Nat.reduceEqDiff, false_and, and_false, if_false]
      rw [m3 d p s hp hs, if_neg (by omega), if_neg (by omega)]
      exact c4 d p s (by omega) hd3 hp hs
theorem wfA_chan {a : Nat → Nat → Int32} (wf : wfA a) {q l r' : Nat} (hq : q < 3) (hl : l < 3) (hr : r' < 3) (hlr : l ≠ r') (hc : cnA a < 3) (h : (((List.range' 0 (pnA a q)).all (whS (pnA a q) (wA a q) (kA a q) (bA a q))) && decide (0 < pnA a q)) = true) : wfA (chA a (cnA a) q l r') := by
  obtain ⟨w1, w2, w3, w4, w5⟩ := wf
  rw [Bool.and_eq_true, decide_eq_true_eq, List.all_eq_true] at h
  obtain ⟨e1, e2, e3, e4⟩ := chA_pn (a := a) (c := cnA a) (q := q) (l := l) (r' := r')
  refine ⟨fun p hp => ?_, fun p hp => ?_, ?_, ?_, fun d hd => ?_⟩
  · rw [e1, e2, e3, e4, chA_j (j := 2) (by omega)]
    exact w1 p hp
  · have := w2 p hp
    unfold onA opW opX opY at this ⊢
    rw [chA_j (j := 10) (by omega), chA_j (j := 11) (by omega), chA_j (j := 12) (by omega), chA_j (j := 13) (by omega)]
    exact this
  · rw [chA_cn hc]
    unfold chA
    rw [if_pos ⟨rfl, rfl⟩]
  · rw [chA_cn hc]; omega
  · rw [chA_cn hc] at hd
    obtain ⟨p1, p2, p3⟩ := chA_p (a := a) (c := cnA a) (d := d) hq hl hr
    rw [e1, e2, e3, e4, p1, p2, p3]
    unfold chA
    simp only [Nat.reduceEqDiff, false_and, if_false, true_and]
    by_cases e : d = cnA a
    · simp only [e, if_true]
      exact ⟨trivial, trivial, trivial, hq, hl, hr, hlr, h.2, fun i hi => h.1 i (List.mem_range'.mpr ⟨i, hi, by omega⟩)⟩
    · simp only [e, if_false]
      exact w5 d (by omega)
theorem mch_telE {N : sm_M} {c q l r' : Nat} : telE (chA (mA N) c q l r') (mA (mch N c (nI q) (nI l) (nI r'))) := by
  refine ⟨?_, fun j h2 h13 => ?_⟩
  · unfold chA; rw [if_pos ⟨rfl, rfl⟩]; rfl
  · funext i
    unfold mA mch chA changed
    rcases (show j = 2 ∨ j = 3 ∨ j = 4 ∨ j = 5 ∨ j = 6 ∨ j = 7 ∨ j = 8 ∨ j = 9 ∨ j = 10 ∨ j = 11 ∨ j = 12 ∨ j = 13 by omega) with rfl | rfl | rfl | rfl | rfl | rfl | rfl | rfl | rfl | rfl | rfl | rfl
    all_goals simp only [u_1, Nat.reduceEqDiff, true_and, false_and, if_false]
