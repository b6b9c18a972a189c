/-! LEVEL B: what is found of a process rests on its own ops and channels alone -/
def simA (a b : Nat → Nat → Int32) (q : Nat) : Prop := onA a q = onA b q ∧ (∀ o, o < onA a q → opW a q o = opW b q o ∧ opX a q o = opX b q o ∧ opY a q o = opY b q o) ∧ (∀ c, c < 3 → ofA a c q = ofA b c q) ∧
  ∀ c, c < 3 → ofA a c q = true → pnA a (prA a c) = pnA b (prA b c) ∧ ∀ s, askA a c q s = askA b c q s ∧ (s < 8 → wA a (prA a c) s = wA b (prA b c) s ∧ kA a (prA a c) s = kA b (prA b c) s ∧ bA a (prA a c) s = bA b (prA b c) s)
theorem simA_s {a b : Nat → Nat → Int32} {q : Nat} (h : simA a b q) : simA b a q := by
  obtain ⟨h1, h2, h3, h4⟩ := h
  refine ⟨h1.symm, fun o ho => ?_, fun c hc => (h3 c hc).symm, fun c hc ho => ?_⟩
  · obtain ⟨e1, e2, e3⟩ := h2 o (by omega)
    exact ⟨e1.symm, e2.symm, e3.symm⟩
  · obtain ⟨e1, e2⟩ := h4 c hc (by rw [h3 c hc]; exact ho)
    exact ⟨e1.symm, fun s => by obtain ⟨x1, x2⟩ := e2 s; exact ⟨x1.symm, fun h8 => by obtain ⟨y1, y2, y3⟩ := x2 h8; exact ⟨y1.symm, y2.symm, y3.symm⟩⟩⟩
theorem aF_of {a : Nat → Nat → Int32} {q c : Nat} {s : Int32} (h : ofA a c q = false) : aF a q c s = -1 := by
  unfold aF
  by_cases z : c < cnA a ∧ ¬ s < 0
  · rw [if_pos z]
    unfold askA
    unfold ofA at h
    rw [decide_eq_true z.1, Bool.true_and, Bool.or_eq_false_iff, decide_eq_false_iff_not, decide_eq_false_iff_not] at h
    rw [if_neg (show ¬ q = lA a c from fun y => h.1 y.symm), if_neg (show ¬ q = rA a c from fun y => h.2 y.symm)]
    split <;> rfl
  · rw [if_neg z]
theorem aF_ok {a : Nat → Nat → Int32} {q c : Nat} {s : Int32} (h : ofA a c q = true) : aF a q c s = if ¬ s < 0 then askA a c q s.toNatClampNeg else -1 := by
  have hc : c < cnA a := by unfold ofA at h; rw [Bool.and_eq_true, decide_eq_true_eq] at h; exact h.1
  unfold aF
  by_cases z : s < 0
  · rw [if_neg (fun y => y.2 z), if_neg (fun y => y z)]
  · rw [if_pos ⟨hc, z⟩, if_pos z]
theorem sim_aF {a b : Nat → Nat → Int32} {q : Nat} (h : simA a b q) {c : Nat} (hc : c < 3) {s : Int32} : aF a q c s = aF b q c s := by
  cases e : ofA a c q with
  | false => rw [aF_of e, aF_of (by rw [← h.2.2.1 c hc]; exact e)]
  | true => rw [aF_ok e, aF_ok (by rw [← h.2.2.1 c hc]; exact e), ((h.2.2.2 c hc e).2 _).1]
section
variable {a b : Nat → Nat → Int32} {q : Nat} (h : simA a b q) (wf : wfA a) (wb : wfA b) (hq : q < 3)
theorem sim_x {a b : Nat → Nat → Int32} {q : Nat} (h : simA a b q) {o : Nat} (ho : o < onA a q) : opW a q o = opW b q o ∧ opX a q o = opX b q o ∧ opY a q o = opY b q o ∧ xN a q o = xN b q o ∧ yN a q o = yN b q o := by
  obtain ⟨e1, e2, e3⟩ := h.2.1 o ho
  exact ⟨e1, e2, e3, by unfold xN; rw [e2], by unfold yN; rw [e3]⟩
theorem sim_sF {a b : Nat → Nat → Int32} {q : Nat} (h : simA a b q) {o : Nat} (ho : o < onA a q) {v : Nat → Int32} : sF0 a q o v = sF0 b q o v := by
  obtain ⟨e1, e2, e3, e4, e5⟩ := sim_x h ho
  unfold sF0
  rw [e1, e4]
theorem sim_tF {a b : Nat → Nat → Int32} {q : Nat} (h : simA a b q) (wf : wfA a) (hq : q < 3) {o : Nat} (ho : o < onA a q) {v : Nat → Int32} : tF a q o v = tF b q o v := by
  obtain ⟨e1, e2, e3, e4, e5⟩ := sim_x h ho
  unfold tF atF
  rw [sim_sF h ho, e1, e4]
  by_cases z : ndK (opW b q o) = -1
  · rw [decide_eq_false (show ¬ ¬ ndK (opW b q o) = -1 from fun y => y z), Bool.false_and, Bool.false_and]
  · have x1 := (xN_nd ((wf.2.1 q hq).2.2 o ho) (by rw [e1]; exact z)).1
    rw [sim_aF h (by rw [← e4]; exact x1)]
theorem sim_k {a b : Nat → Nat → Int32} {q : Nat} (h : simA a b q) (wf : wfA a) (hq : q < 3) {o : Nat} (ho : o < onA a q) {v : Nat → Int32} (ht : tF a q o v = true) : kF a q o v = kF b q o v ∧ ∀ w, nxS (wA a (prA a (xN a q o))) (kA a (prA a (xN a q o))) (bA a (prA a (xN a q o))) (sF0 a q o v).toNatClampNeg w = nxS (wA b (prA b (xN b q o))) (kA b (prA b (xN b q o))) (bA b (prA b (xN b q o))) (sF0 b q o v).toNatClampNeg w := by
  obtain ⟨e1, e2, e3, e4, e5⟩ := sim_x h ho
  obtain ⟨t1, t2, t3, t4, t5, t6, t7⟩ := tF_t ht
  have x1 := (xN_nd ((wf.2.1 q hq).2.2 o ho) t1).1
  have hh := (h.2.2.2 _ x1 t3).2
  unfold kF nxS
  rw [← sim_sF h ho, ← e4]
  obtain ⟨_, _, _, w10, _⟩ := wf.2.2.2.2 _ t2
  have h8 := (wf.1 _ w10).2.1
  obtain ⟨g2, g3, g4⟩ := (hh (sF0 a q o v).toNatClampNeg).2 (by rw [t5]; omega)
  rw [g2, g3, g4]
  exact ⟨rfl, fun _ => rfl⟩
theorem nm_kd {W Y : Int32} {x y : Nat} {kd kd' : Int32} {s : Int32} {v : Nat → Int32} {i : Nat} : nmF W Y x y kd false s v i = nmF W Y x y kd' false s v i := by
  unfold nmF
  rw [if_neg (show ¬ false = true by decide), if_neg (show ¬ false = true by decide)]
theorem sim_tr {a b : Nat → Nat → Int32} {q : Nat} (h : simA a b q) (wf : wfA a) (hq : q < 3) {o : Nat} (ho : o < onA a q) {w : Nat} {v : Nat → Int32} : trF a q o w v = trF b q o w v := by
  obtain ⟨e1, e2, e3, e4, e5⟩ := sim_x h ho
  have et := sim_tF h wf hq ho (v := v)
  have ew : wyF a q o w = wyF b q o w := by unfold wyF; rw [e1, e5]
  funext i
  unfold trF
  by_cases z : i < 6
  · rw [if_pos z, if_pos z, e1, e3, e4, e5, ← et, sim_sF h ho]
    cases ht : tF a q o v with
    | true => rw [(sim_k h wf hq ho ht).1]
    | false => exact nm_kd
  · rw [if_neg z, if_neg z]
    by_cases z2 : tF a q o v = true ∧ i = 6 + xN a q o
    · rw [if_pos z2, if_pos ⟨by rw [← et]; exact z2.1, by rw [← e4]; exact z2.2⟩, (sim_k h wf hq ho z2.1).2, ew]
    · rw [if_neg z2, if_neg (fun y => z2 ⟨by rw [et]; exact y.1, by rw [e4]; exact y.2⟩)]
theorem sim_nx {a b : Nat → Nat → Int32} {q : Nat} (h : simA a b q) {o : Nat} (ho : o < onA a q) {w : Bool} : nxO a q o w = nxO b q o w := by
  obtain ⟨e1, e2, e3, e4, e5⟩ := sim_x h ho
  unfold nxO
  rw [e1, e5, h.1]
theorem sim_in {a b : Nat → Nat → Int32} {q : Nat} (h : simA a b q) : ∀ i, i < 9 → inV a q i = inV b q i := by
  intro i hi
  unfold inV
  by_cases z : i < 6
  · rw [if_pos (Or.inl z), if_pos (Or.inl z)]
  · rw [h.2.2.1 (i - 6) (by omega)]
theorem sim_sol1 {a b : Nat → Nat → Int32} {q : Nat} (h : simA a b q) (wf : wfA a) (hq : q < 3) {T : sF} (s : solF a q T) : solF b q T := by
  obtain ⟨s1, s2, s3⟩ := s
  refine ⟨s1, fun i hi => by rw [← sim_in h i hi]; exact s2 i hi, fun o ho => ?_⟩
  have ho' : o < onA a q := by rw [h.1]; exact ho
  obtain ⟨e1, e2, e3, e4, e5⟩ := sim_x h ho'
  have ee : ∀ w, edF a q T o w → edF b q T o w := by
    intro w hw
    unfold edF at hw ⊢
    rw [← sim_nx h ho', ← sim_tr h wf hq ho']
    exact hw
  intro hT h13
  obtain ⟨c1, c2⟩ := s3 o ho' hT (by rw [e1]; exact h13)
  exact ⟨ee _ c1, fun z => ee _ (c2 (by unfold otO at z ⊢; rw [e1]; exact z))⟩
theorem sim_okV {a b : Nat → Nat → Int32} {q : Nat} (h : simA a b q) {v : Nat → Int32} (s : okV a q v) : okV b q v := by
  refine ⟨s.1, fun c hc => ⟨fun z => ?_, fun z => ?_⟩⟩
  · have z' : ofA a c q = true := by rw [h.2.2.1 c hc]; exact z
    rw [← (h.2.2.2 c hc z').1]
    exact (s.2 c hc).1 z'
  · exact (s.2 c hc).2 (by rw [h.2.2.1 c hc]; exact z)
theorem sim_lb {a b : Nat → Nat → Int32} {q : Nat} (h : simA a b q) {o : Nat} (ho : o < onA a q) {L : Nat → Int32} : lbA a q L o = lbA b q L o := by
  obtain ⟨e1, e2, e3, e4, e5⟩ := sim_x h ho
  unfold lbA
  rw [e1, sim_nx h ho, sim_nx h ho]
theorem sim_tu {a b : Nat → Nat → Int32} {q : Nat} (h : simA a b q) {o : Nat} (ho : o < onA a q) : tgA a q o = tgA b q o ∧ usA a q o = usA b q o := by
  obtain ⟨e1, e2, e3, e4, e5⟩ := sim_x h ho
  unfold tgA usA
  rw [e1, e2, e3]
  exact ⟨rfl, rfl⟩
theorem sim_ps {a b : Nat → Nat → Int32} {q : Nat} (h : simA a b q) : ∀ o L, o ≤ onA a q → psA a q o L = psA b q o L ∧ cgA a q o L = cgA b q o L := by
  intro o
  induction o with
  | zero => intro L _; exact ⟨rfl, rfl⟩
  | succ o ih =>
    intro L ho
    have e : g1A a q L o = g1A b q L o := by
      unfold g1A
      rw [sim_lb h (by omega), (sim_tu h (show o < onA a q by omega)).1, (sim_tu h (show o < onA a q by omega)).2]
    obtain ⟨i1, i2⟩ := ih (upL L o (g1A b q L o)) (by omega)
    refine ⟨?_, ?_⟩
    · show psA a q o (upL L o (g1A a q L o)) = psA b q o (upL L o (g1A b q L o))
      rw [e, i1]
    · show (!decide (g1A a q L o = L o) || cgA a q o (upL L o (g1A a q L o))) = (!decide (g1A b q L o = L o) || cgA b q o (upL L o (g1A b q L o)))
      rw [e, i2]
theorem sim_it {a b : Nat → Nat → Int32} {q : Nat} (h : simA a b q) : ∀ k, itA a q k = itA b q k := by
  intro k
  induction k with
  | zero => rfl
  | succ k ih =>
    show psA a q (onA a q) (itA a q k) = psA b q (onA b q) (itA b q k)
    rw [ih, (sim_ps h (onA a q) _ (Nat.le_refl _)).1, h.1]
theorem sim_lv {a b : Nat → Nat → Int32} {q : Nat} (h : simA a b q) : lvA a q = lvA b q := by
  funext L
  unfold lvA
  refine propext ⟨fun ⟨k, h1, h2⟩ => ⟨k, ?_, fun o ho => ?_⟩, fun ⟨k, h1, h2⟩ => ⟨k, ?_, fun o ho => ?_⟩⟩
  · rw [← sim_it h, ← h.1, ← (sim_ps h (onA a q) _ (Nat.le_refl _)).2]; exact h1
  · rw [← sim_it h]; exact h2 o ho
  · rw [sim_it h, (sim_ps h (onA a q) _ (Nat.le_refl _)).2, h.1]; exact h1
  · rw [sim_it h]; exact h2 o ho
/-- what is found -/
def kS (a : Nat → Nat → Int32) (q : Nat) (S : sF) : Prop := solF a q S ∧ lowF a q S ∧ okF a q S
theorem sim_kS {a b : Nat → Nat → Int32} {q : Nat} (h : simA a b q) (wf : wfA a) (wb : wfA b) (hq : q < 3) : kS a q = kS b q := by
  have one : ∀ {a b : Nat → Nat → Int32}, simA a b q → wfA a → wfA b → ∀ S, kS a q S → kS b q S := by
    intro a b h wf wb S hS
    exact ⟨sim_sol1 h wf hq hS.1, fun T hT => hS.2.1 T (sim_sol1 (simA_s h) wb hq hT), fun k hk hs => sim_okV h (hS.2.2 k hk hs)⟩
  funext S
  exact propext ⟨one h wf wb S, one (simA_s h) wb wf S⟩
theorem sim_bw {a b : Nat → Nat → Int32} {q : Nat} (h : simA a b q) {o : Nat} (ho : o < onA a q) {v : Nat → Int32} {lb : Int32} : bwE a q o v lb = bwE b q o v lb := by
  obtain ⟨e1, e2, e3, e4, e5⟩ := sim_x h ho
  obtain ⟨f1, f2⟩ := sim_tu h ho
  unfold bwE bw2
  rw [f1, f2, e1]
theorem sim_er {a b : Nat → Nat → Int32} {q : Nat} (h : simA a b q) (wf : wfA a) (hq : q < 3) {o : Nat} (ho : o ≤ onA a q) {v : Nat → Int32} {lb : Int32} : erE a q o v lb = erE b q o v lb := by
  have ek : kpE a q v = kpE b q v := by
    unfold kpE
    rw [show anR 3 0 (opB a q v) = anR 3 0 (opB b q v) from anR_e (fun c _ hc => by
      unfold opB
      rw [← h.2.2.1 c (by omega)]
      cases e : ofA a c q with
      | false => rw [Bool.false_and, Bool.false_and]
      | true => rw [((h.2.2.2 c (by omega) e).2 _).1])]
  unfold erE
  rw [h.1, ek]
  by_cases hoe : o = onA b q
  · rw [if_pos (Or.inl hoe), if_pos (Or.inl hoe)]
  have ho' : o < onA a q := by rw [h.1] at ho ⊢; omega
  obtain ⟨e1, e2, e3, e4, e5⟩ := sim_x h ho'
  obtain ⟨f1, f2⟩ := sim_tu h ho'
  have eu : usE a q o v = usE b q o v := by unfold usE; rw [f2]
  have eo : okB a q o v = okB b q o v := by
    unfold okB
    rw [f2, e1, sim_tF h wf hq ho']
    cases ht : tF b q o v with
    | true => rw [(sim_k h wf hq ho' (by rw [sim_tF h wf hq ho']; exact ht)).1]
    | false => rw [Bool.and_false, Bool.false_and, Bool.false_and]
  rw [e1, f1, f2, eu, eo, sim_bw h ho', sim_tF h wf hq ho']
end
/-- what is found, and what lives, by themselves -/
noncomputable def cS (a : Nat → Nat → Int32) (q : Nat) : sF := Classical.epsilon (h := ⟨(fun _ => false, fun _ _ => 0)⟩) (kS a q)
noncomputable def cL (a : Nat → Nat → Int32) (q : Nat) : Nat → Int32 := Classical.epsilon (h := ⟨fun _ => 0⟩) (lvA a q)
theorem cS_k {a : Nat → Nat → Int32} {q : Nat} {S : sF} (h : kS a q S) : kS a q (cS a q) := Classical.epsilon_spec (p := kS a q) ⟨S, h⟩
theorem cS_e {a : Nat → Nat → Int32} {q : Nat} {S : sF} (h : kS a q S) : eqF S (cS a q) := sol_u h.1 h.2.1 (cS_k h).1 (cS_k h).2.1
theorem cL_k {a : Nat → Nat → Int32} {q : Nat} {L : Nat → Int32} (h : lvA a q L) : lvA a q (cL a q) := Classical.epsilon_spec (p := lvA a q) ⟨L, h⟩
theorem cL_e {a : Nat → Nat → Int32} {q : Nat} {L : Nat → Int32} (wf : wfA a) (hq : q < 3) (h : lvA a q L) : ∀ o, o < 17 → L o = cL a q o := lvA_u wf hq h (cL_k h)
theorem sim_cS {a b : Nat → Nat → Int32} {q : Nat} (h : simA a b q) (wf : wfA a) (wb : wfA b) (hq : q < 3) : cS a q = cS b q := by
  unfold cS
  rw [sim_kS h wf wb hq]
theorem sim_cL {a b : Nat → Nat → Int32} {q : Nat} (h : simA a b q) : cL a q = cL b q := by
  unfold cL
  rw [sim_lv h]
/-- the error of an op, and the first op that has one -/
noncomputable def cE (a : Nat → Nat → Int32) (q o : Nat) : Int32 := erE a q o ((cS a q).2 o) (lbA a q (cL a q) o)
noncomputable def cB (a : Nat → Nat → Int32) (q o : Nat) : Int32 := bwE a q o ((cS a q).2 o) (lbA a q (cL a q) o)
noncomputable def hasE (a : Nat → Nat → Int32) (q o : Nat) : Bool := (cS a q).1 o && !decide (cE a q o = 0)
noncomputable def cO (a : Nat → Nat → Int32) (q : Nat) : Int32 := fsR (onA a q + 1) 0 (hasE a q)
noncomputable def cF (a : Nat → Nat → Int32) (q : Nat) : Int32 := if cO a q = -1 then 0 else cE a q (cO a q).toNatClampNeg
