/-! LEVEL B: telling keeps what was found of the others -/
theorem sim_tel {a b : Nat → Nat → Int32} (e : telE a b) (q : Nat) : simA a b q := by
  obtain ⟨e0, e⟩ := e
  have h2 := e 2 (by decide) (by decide)
  have h3 := e 3 (by decide) (by decide)
  have h4 := e 4 (by decide) (by decide)
  have h5 := e 5 (by decide) (by decide)
  have h7 := e 7 (by decide) (by decide)
  have h8 := e 8 (by decide) (by decide)
  have h9 := e 9 (by decide) (by decide)
  have h10 := e 10 (by decide) (by decide)
  have h11 := e 11 (by decide) (by decide)
  have h12 := e 12 (by decide) (by decide)
  have h13 := e 13 (by decide) (by decide)
  unfold simA ofA askA onA opW opX opY cnA lA rA prA pnA wA kA bA
  rw [e0, h2, h3, h4, h5, h7, h8, h9, h10, h11, h12, h13]
  exact ⟨rfl, fun _ _ => ⟨rfl, rfl, rfl⟩, fun _ _ => rfl, fun _ _ _ => ⟨rfl, fun _ => ⟨rfl, fun _ => ⟨rfl, rfl, rfl⟩⟩⟩⟩
theorem simA_t {a b c : Nat → Nat → Int32} {q : Nat} (h : simA a b q) (h2 : simA b c q) : simA a c q := by
  obtain ⟨a1, a2, a3, a4⟩ := h
  obtain ⟨b1, b2, b3, b4⟩ := h2
  refine ⟨a1.trans b1, fun o ho => ?_, fun c hc => (a3 c hc).trans (b3 c hc), fun c hc ho => ?_⟩
  · obtain ⟨x1, x2, x3⟩ := a2 o ho
    obtain ⟨y1, y2, y3⟩ := b2 o (by omega)
    exact ⟨x1.trans y1, x2.trans y2, x3.trans y3⟩
  · obtain ⟨x1, x2⟩ := a4 c hc ho
    obtain ⟨y1, y2⟩ := b4 c hc (by rw [← a3 c hc]; exact ho)
    refine ⟨x1.trans y1, fun s => ⟨(x2 s).1.trans (y2 s).1, fun h8 => ?_⟩⟩
    obtain ⟨p1, p2, p3⟩ := (x2 s).2 h8
    obtain ⟨q1, q2, q3⟩ := (y2 s).2 h8
    exact ⟨p1.trans q1, p2.trans q2, p3.trans q3⟩
theorem telE_s {a b : Nat → Nat → Int32} (e : telE a b) : telE b a := ⟨e.1.symm, fun j h2 h13 => (e.2 j h2 h13).symm⟩
theorem telE_t {a b c : Nat → Nat → Int32} (e : telE a b) (f : telE b c) : telE a c := ⟨f.1.trans e.1, fun j h2 h13 => (f.2 j h2 h13).trans (e.2 j h2 h13)⟩
/-- channels are alike, and the ops of a process -/
theorem sim_ch {a b : Nat → Nat → Int32} {q : Nat} (wf : wfA a) (h : chE a b) (ho : onA a q = onA b q ∧ ∀ o, o < onA a q → opW a q o = opW b q o ∧ opX a q o = opX b q o ∧ opY a q o = opY b q o) : simA a b q := by
  obtain ⟨h1, h2⟩ := h
  have hof : ∀ c, c < 3 → ofA a c q = ofA b c q := by
    intro c hc
    unfold ofA
    rw [h1]
    by_cases z : c < cnA a
    · obtain ⟨⟨_, e2, e3⟩, _⟩ := h2 c z
      rw [e2, e3]
    · rw [decide_eq_false z, Bool.false_and, Bool.false_and]
  refine ⟨ho.1, ho.2, hof, fun c hc hc2 => ?_⟩
  have z : c < cnA a := by unfold ofA at hc2; rw [Bool.and_eq_true, decide_eq_true_eq] at hc2; exact hc2.1
  obtain ⟨⟨e1, e2, e3⟩, e4, e5⟩ := h2 c z
  obtain ⟨_, _, _, w10, _⟩ := wf.2.2.2.2 c z
  have h8 := (wf.1 _ w10).2.1
  refine ⟨by rw [e1, e4], fun s => ⟨?_, fun hs => by rw [e1]; obtain ⟨x1, x2, x3⟩ := e5 s hs; exact ⟨x1.symm, x2.symm, x3.symm⟩⟩⟩
  unfold askA
  rw [e1, e2, e3, e4]
  by_cases y : s < pnA a (prA a c)
  · rw [if_pos y, if_pos y, (e5 s (by omega)).1]
  · rw [if_neg y, if_neg y]
theorem chE_low {a b : Nat → Nat → Int32} (e : lowE a b) : chE a b := by
  unfold chE cnA prA lA rA pnA wA kA bA
  rw [e 0 (by decide), e 2 (by decide), e 3 (by decide), e 4 (by decide), e 5 (by decide), e 7 (by decide), e 8 (by decide), e 9 (by decide)]
  exact ⟨rfl, fun _ _ => ⟨⟨rfl, rfl, rfl⟩, rfl, fun _ _ => ⟨rfl, rfl, rfl⟩⟩⟩
theorem sim_step {a : Nat → Nat → Int32} {k n : Nat} {w x y : Int32} (wf : wfA a) (hn : n < 8) (h : hasP a k = false) (q : Nat) : simA a (stA a k n w x y) q := by
  refine sim_ch wf (stA_chE hn h) ⟨?_, fun o _ => ?_⟩
  · unfold onA; rw [stA_o (Or.inr (by decide))]
  · unfold opW opX opY
    rw [stA_o (Or.inr (by decide)), stA_o (Or.inr (by decide)), stA_o (Or.inr (by decide))]
    exact ⟨rfl, rfl, rfl⟩
theorem sim_op {a : Nat → Nat → Int32} {k n : Nat} {w x y : Int32} (wf : wfA a) (hn : n < 16) {q : Nat} (hq : q < 3) (h : q ≠ k) : simA a (opA a k n w x y) q := by
  refine sim_ch wf (chE_low opA_low) ⟨?_, fun o ho => ?_⟩
  · rw [opA_n hn, if_neg h]
  · have h16 := (wf.2.1 q hq).2.1
    rw [opA_w hn (by omega), opA_x hn (by omega), opA_y hn (by omega), if_neg (fun z => h z.1), if_neg (fun z => h z.1), if_neg (fun z => h z.1)]
    exact ⟨rfl, rfl, rfl⟩
theorem sim_unop {a : Nat → Nat → Int32} {k n : Nat} (wf : wfA a) (hn : n < 17) {q : Nat} (h : q ≠ k) : simA a (unA a k n) q := by
  refine sim_ch wf (chE_low unA_low) ⟨?_, fun o ho => ?_⟩
  · rw [unA_n hn, if_neg h]
  · obtain ⟨e1, e2, e3⟩ := unA_w (a := a) (k := k) (n := n) (p := q) (i := o)
    exact ⟨e1.symm, e2.symm, e3.symm⟩
theorem sim_chan {a : Nat → Nat → Int32} {p l r' : Nat} (wf : wfA a) (hc : cnA a < 3) (hp : p < 3) (hl : l < 3) (hr : r' < 3) {q : Nat} (h1 : q ≠ l) (h2 : q ≠ r') : simA a (chA a (cnA a) p l r') q := by
  obtain ⟨n1, n2, n3, n4⟩ := chA_pn (a := a) (c := cnA a) (q := p) (l := l) (r' := r')
  have hcp : ∀ d, d ≠ cnA a → prA (chA a (cnA a) p l r') d = prA a d ∧ lA (chA a (cnA a) p l r') d = lA a d ∧ rA (chA a (cnA a) p l r') d = rA a d := by
    intro d hd
    obtain ⟨e1, e2, e3⟩ := chA_p (a := a) (c := cnA a) (d := d) hp hl hr
    rw [e1, e2, e3, if_neg hd, if_neg hd, if_neg hd]
    exact ⟨rfl, rfl, rfl⟩
  have hof : ∀ c, c < 3 → ofA a c q = ofA (chA a (cnA a) p l r') c q := by
    intro c hc3
    unfold ofA
    rw [chA_cn hc]
    by_cases z : c = cnA a
    · obtain ⟨e1, e2, e3⟩ := chA_p (a := a) (c := cnA a) (d := c) hp hl hr
      rw [e2, e3, if_pos z, if_pos z, decide_eq_false (show ¬ c < cnA a by omega), decide_eq_false (show ¬ l = q from fun y => h1 y.symm), decide_eq_false (show ¬ r' = q from fun y => h2 y.symm), Bool.false_and, Bool.or_false, Bool.and_false]
    · obtain ⟨e1, e2, e3⟩ := hcp c z
      rw [e2, e3]
      by_cases y : c < cnA a
      · rw [decide_eq_true y, decide_eq_true (show c < cnA a + 1 by omega)]
      · rw [decide_eq_false y, decide_eq_false (show ¬ c < cnA a + 1 by omega)]
  refine ⟨?_, fun o _ => ?_, hof, fun c hc3 ho => ?_⟩
  · unfold onA; rw [chA_j (by omega)]
  · unfold opW opX opY
    rw [chA_j (by omega), chA_j (by omega), chA_j (by omega)]
    exact ⟨rfl, rfl, rfl⟩
  · have z : c < cnA a := by unfold ofA at ho; rw [Bool.and_eq_true, decide_eq_true_eq] at ho; exact ho.1
    obtain ⟨e1, e2, e3⟩ := hcp c (by omega)
    refine ⟨by rw [n1, e1], fun s => ⟨?_, fun _ => by rw [n2, n3, n4, e1]; exact ⟨rfl, rfl, rfl⟩⟩⟩
    unfold askA
    rw [n1, n2, e1, e2, e3]
theorem cE_sim {a b : Nat → Nat → Int32} {q : Nat} (h : simA a b q) (wf : wfA a) (wb : wfA b) (hq : q < 3) : cO a q = cO b q ∧ cF a q = cF b q := by
  have h16 := (wf.2.1 q hq).2.1
  have hE : ∀ o, o ≤ onA a q → cE a q o = cE b q o := by
    intro o ho
    unfold cE
    rw [sim_cS h wf wb hq, sim_cL h]
    by_cases z : o < onA a q
    · rw [sim_lb h z, sim_er h wf hq ho]
    · have z' : o = onA a q := by omega
      -- behind the last op what lives doesn't matter
      unfold erE
      rw [if_pos (show o = onA a q ∨ opW a q o = 13 from Or.inl z'), if_pos (show o = onA b q ∨ opW b q o = 13 from Or.inl (by rw [← h.1]; exact z'))]
      have ek : kpE a q ((cS b q).2 o) = kpE b q ((cS b q).2 o) := by
        unfold kpE
        rw [show anR 3 0 (opB a q ((cS b q).2 o)) = anR 3 0 (opB b q ((cS b q).2 o)) from anR_e (fun c _ hc => by
          unfold opB
          rw [← h.2.2.1 c (by omega)]
          cases e : ofA a c q with
          | false => rw [Bool.false_and, Bool.false_and]
          | true => rw [((h.2.2.2 c (by omega) e).2 _).1])]
      rw [ek]
  have hO : cO a q = cO b q := by
    unfold cO
    rw [← h.1]
    refine fsR_e (fun o _ ho => ?_)
    unfold hasE
    rw [hE o (by omega), sim_cS h wf wb hq]
  refine ⟨hO, ?_⟩
  unfold cF
  by_cases z : cO a q = -1
  · rw [if_pos z, if_pos (by rw [← hO]; exact z)]
  · obtain ⟨o, o1, o2, o3⟩ := cO_of h16 z
    rw [if_neg z, if_neg (by rw [← hO]; exact z), ← hO, o3, i_cl (by omega), hE o o1]
theorem knC_sim {a b : Nat → Nat → Int32} {M : sm_M} {q : Nat} (h : simA a b q) (wf : wfA a) (wb : wfA b) (hq : q < 3) (k : knC a M q) : knC b M q := by
  obtain ⟨k1, k2, k3, k4⟩ := k
  obtain ⟨e1, e2⟩ := cE_sim h wf wb hq
  exact ⟨by rw [← sim_kS h wf wb hq]; exact k1, by rw [← sim_lv h]; exact k2, by rw [← e1]; exact k3, by rw [← e2]; exact k4⟩
theorem knR_sim {a b : Nat → Nat → Int32} {M : sm_M} {q : Nat} (h : simA a b q) (wf : wfA a) (wb : wfA b) (hq : q < 3) (k : knR a M q) : knR b M q :=
  ⟨by rw [← sim_kS h wf wb hq]; exact k.1, by rw [← sim_lv h]; exact k.2⟩
/-- the reference's own telling -/
theorem BI_tel {a : Nat → Nat → Int32} {N : sm_M} (b : BI a N) : BI (mA N) N := by
  obtain ⟨b1, b2, b3, b4, b5, b6⟩ := b
  have wb : wfA (mA N) := wfA_a b3 b2
  exact ⟨rTel_a b3 b1, wb, ⟨rfl, fun _ _ _ => rfl⟩, fun q hq => ⟨(b4 q hq).1, (b4 q hq).2.imp id (fun z => knC_sim (sim_tel b3 q) b2 wb hq z)⟩, b5, b6.imp id (fun z p hp => knR_sim (sim_tel b3 p) b2 wb hp (z p hp))⟩
/-- BI behind a telling: the told is good again, known flows are of processes that it leaves alone -/
theorem BI_told {a b : Nat → Nat → Int32} {M N : sm_M} (wa : wfA a) (h : BI a M) (hr : rTel b N) (wb : wfA b) (hc : cr b N) (hq : ∀ q, q < 3 → N.1 4 q 0 0 = M.1 4 q 0 0 ∧ (N.1 4 q 0 10 = 0 ∨ (simA a b q ∧ ∀ j i, N.1 4 q j i = M.1 4 q j i))) (h18 : N.1 10 0 0 18 = M.1 10 0 0 18)
    (h13 : N.1 10 0 0 13 = 0 ∨ ((∀ q, q < 3 → simA a b q) ∧ N.1 10 0 0 13 = M.1 10 0 0 13 ∧ ∀ j i, (j = 15 ∨ j = 16 ∨ j = 17) → N.1 10 0 j i = M.1 10 0 j i)) : BI b N := by
  obtain ⟨b1, b2, b3, b4, b5, b6⟩ := h
  refine ⟨hr, wb, hc, fun q hq3 => ⟨(hq q hq3).1.trans (b4 q hq3).1, ?_⟩, h18.trans b5, ?_⟩
  · rcases (hq q hq3).2 with z | ⟨z1, z2⟩
    · exact Or.inl z
    · exact (b4 q hq3).2.imp (fun y => (z2 _ _).trans y) (fun y => knC_sim z1 wa wb hq3 (knC_tag z2 y))
  · rcases h13 with z | ⟨z1, z2, z3⟩
    · exact Or.inl z
    · exact b6.imp (fun y => z2.trans y) (fun y p hp => knR_sim (z1 p hp) wa wb hp (knR_tag z3 (y p hp)))
