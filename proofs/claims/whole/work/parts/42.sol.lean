/-! LEVEL B: flows: what is found is the least that holds -/
/-- the op that comes next, by the other way if there is one -/
def nxO (a : Nat → Nat → Int32) (p o : Nat) (b : Bool) : Nat := if (if opW a p o = 12 ∨ b = true then yN a p o else o + 1) < onA a p then (if opW a p o = 12 ∨ b = true then yN a p o else o + 1) else onA a p
theorem nxO_le {a : Nat → Nat → Int32} {p o : Nat} {b : Bool} : nxO a p o b ≤ onA a p := by
  unfold nxO
  generalize (if opW a p o = 12 ∨ b = true then yN a p o else o + 1) = t
  split <;> omega
def bN (b : Bool) : Nat := bif b then 1 else 0
/-- an op's way is followed -/
def edF (a : Nat → Nat → Int32) (p : Nat) (T : sF) (o : Nat) (b : Bool) : Prop := T.1 (nxO a p o b) = true ∧ le_v (trF a p o (bN b) (T.2 o)) (T.2 (nxO a p o b))
def otO (a : Nat → Nat → Int32) (p o : Nat) : Prop := opW a p o = 10 ∨ opW a p o = 11
def clF (a : Nat → Nat → Int32) (p : Nat) (T : sF) (o : Nat) : Prop := T.1 o = true → ¬ opW a p o = 13 → edF a p T o false ∧ (otO a p o → edF a p T o true)
/-- what is ahead of the first op -/
def inV (a : Nat → Nat → Int32) (p i : Nat) : Int32 := if i < 6 ∨ ofA a (i - 6) p = true then 0 else -1
def solF (a : Nat → Nat → Int32) (p : Nat) (T : sF) : Prop := T.1 0 = true ∧ le_v (inV a p) (T.2 0) ∧ ∀ o, o < onA a p → clF a p T o
/-- below all that holds -/
def lowF (a : Nat → Nat → Int32) (p : Nat) (S : sF) : Prop := ∀ T, solF a p T → leF S T
def eqF (S T : sF) : Prop := ∀ k, k < 17 → S.1 k = T.1 k ∧ (S.1 k = true → ∀ i, i < 9 → S.2 k i = T.2 k i)
theorem sol_u {a : Nat → Nat → Int32} {p : Nat} {S T : sF} (s1 : solF a p S) (s2 : lowF a p S) (t1 : solF a p T) (t2 : lowF a p T) : eqF S T := by
  have h1 := s2 T t1
  have h2 := t2 S s1
  intro k hk
  refine ⟨?_, fun hs i hi => ?_⟩
  · cases hs : S.1 k with
    | true => exact (h1 k hk hs).1.symm
    | false =>
      cases ht : T.1 k with
      | false => rfl
      | true => rw [(h2 k hk ht).1] at hs; cases hs
  · have ht := (h1 k hk hs).1
    exact le9_a ((h1 k hk hs).2 i hi) ((h2 k hk ht).2 i hi)
/-- following a way keeps below -/
theorem low_jn {a : Nat → Nat → Int32} {p : Nat} (wf : wfA a) (hp : p < 3) {S : sF} (h : lowF a p S) {o : Nat} (ho : o < onA a p) (hs : S.1 o = true) (h13 : ¬ opW a p o = 13) {b : Bool} (hb : b = true → otO a p o) {v : Nat → Int32} (hv : ∀ i, i < 9 → v i = trF a p o (bN b) (S.2 o) i) : lowF a p (jnF S (nxO a p o b) v) := by
  intro T hT
  have h1 := h T hT
  have hn := (wf.2.1 p hp).2.1
  have h2 := h1 o (by omega) hs
  have h3 := hT.2.2 o ho h2.1 h13
  have h4 : edF a p T o b := by
    cases b with
    | false => exact h3.1
    | true => exact h3.2 (hb rfl)
  refine jnF_le h1 h4.1 (fun i hi => ?_)
  rw [hv i hi]
  exact le9_t (trF_m ((wf.2.1 p hp).2.2 o ho) (fun j hj => h2.2 j hj) i hi) (h4.2 i hi)
theorem low_0 {a : Nat → Nat → Int32} {p : Nat} {S : sF} (h : ∀ k, k < 17 → S.1 k = false) {v : Nat → Int32} (hv : ∀ i, i < 9 → v i = inV a p i) : lowF a p (jnF S 0 v) := by
  intro T hT
  refine jnF_le (fun k hk hs => ?_) hT.1 (fun i hi => ?_)
  · rw [h k hk] at hs; cases hs
  · rw [hv i hi]; exact hT.2.1 i hi
/-- what variables and channels may be -/
def okN (u : Int32) : Prop := ∃ k, k < 26 ∧ u = nI k
def okC (a : Nat → Nat → Int32) (p c : Nat) (s : Int32) : Prop := (ofA a c p = true → s = -2 ∨ ∃ k, k < pnA a (prA a c) ∧ s = nI k) ∧ (ofA a c p = false → s = -1)
def okV (a : Nat → Nat → Int32) (p : Nat) (v : Nat → Int32) : Prop := (∀ i, i < 6 → okN (v i)) ∧ ∀ c, c < 3 → okC a p c (v (6 + c))
def okF (a : Nat → Nat → Int32) (p : Nat) (S : sF) : Prop := ∀ k, k < 17 → S.1 k = true → okV a p (S.2 k)
theorem okN_5 : okN 5 := ⟨5, by decide, rfl⟩
theorem okN_4 : okN 4 := ⟨4, by decide, rfl⟩
theorem okN_0 : okN 0 := ⟨0, by decide, rfl⟩
theorem okN_1 : okN 1 := ⟨1, by decide, rfl⟩
theorem okN_tg {x y : Int32} (h : okN x) : okN (tgI x y) := by
  unfold tgI
  split
  · exact h
  · split
    · exact okN_5
    · split
      · exact okN_4
      · exact okN_0
theorem okC_tg {a : Nat → Nat → Int32} {p c : Nat} {x y : Int32} (h : okC a p c x) (h2 : okC a p c y) : okC a p c (tgS x y) := by
  unfold tgS
  by_cases q : x = y
  · rw [if_pos q]; exact h
  · rw [if_neg q]
    exact ⟨fun _ => Or.inl rfl, fun z => absurd ((h.2 z).trans (h2.2 z).symm) q⟩
theorem okV_tg {a : Nat → Nat → Int32} {p : Nat} {v w : Nat → Int32} (h : okV a p v) (h2 : okV a p w) : okV a p (fun i => tg9 i (v i) (w i)) := by
  refine ⟨fun i hi => ?_, fun c hc => ?_⟩
  · show okN (tg9 i (v i) (w i))
    unfold tg9
    rw [if_pos hi]
    exact okN_tg (h.1 i hi)
  · show okC a p c (tg9 (6 + c) (v (6 + c)) (w (6 + c)))
    unfold tg9
    rw [if_neg (by omega)]
    exact okC_tg (h.2 c hc) (h2.2 c hc)
theorem okV_e {a : Nat → Nat → Int32} {p : Nat} {v w : Nat → Int32} (e : ∀ i, i < 9 → w i = v i) (h : okV a p v) : okV a p w := by
  refine ⟨fun i hi => by rw [e i (by omega)]; exact h.1 i hi, fun c hc => by rw [e (6 + c) (by omega)]; exact h.2 c hc⟩
theorem okF_jn {a : Nat → Nat → Int32} {p : Nat} {S : sF} (h : okF a p S) {k : Nat} {v : Nat → Int32} (hv : okV a p v) : okF a p (jnF S k v) := by
  intro j hj hs
  by_cases q : j = k
  · subst q
    refine okV_e (v := fun i => if S.1 j = true then tg9 i (S.2 j i) (v i) else v i) (fun i _ => jnF_k) ?_
    by_cases e : S.1 j = true
    · exact okV_e (v := fun i => tg9 i (S.2 j i) (v i)) (fun i _ => if_pos e) (okV_tg (h j hj e) hv)
    · exact okV_e (v := v) (fun i _ => if_neg e) hv
  · rw [jnF_1, decide_eq_false q, Bool.or_false] at hs
    exact okV_e (fun i _ => jnF_o q) (h j hj hs)
theorem okV_in {a : Nat → Nat → Int32} {p : Nat} (wf : wfA a) : okV a p (inV a p) := by
  refine ⟨fun i hi => ?_, fun c hc => ?_⟩
  · unfold inV
    rw [if_pos (Or.inl hi)]; exact okN_0
  · unfold inV
    rw [show 6 + c - 6 = c by omega]
    refine ⟨fun z => Or.inr ?_, fun z => ?_⟩
    · rw [if_pos (Or.inr z)]
      unfold ofA at z
      rw [Bool.and_eq_true, decide_eq_true_eq] at z
      exact ⟨0, (wf.2.2.2.2 c z.1).2.2.2.2.2.2.2.1, rfl⟩
    · rw [if_neg (fun k => k.elim (by omega) (by rw [z]; decide))]
/-- a step goes on with a step that there is -/
theorem nxS_ok {n : Nat} (hn : n ≤ 8) {w a b : Nat → Int32} {i : Nat} (hi : i < n) (h : okS (w i) (a i) (b i) = true) (h2 : whS n w a b i = true) {way : Nat} (hw : way < 2) : ∃ s, s < n ∧ nxS w a b i way = nI s := by
  have l : nxS w a b i way < nI n := by
    unfold whS at h2
    rw [Bool.and_eq_true, decide_eq_true_eq, decide_eq_true_eq] at h2
    rcases (show way = 0 ∨ way = 1 by omega) with q | q
    · subst q; exact h2.1
    · subst q; exact h2.2
  have g : ∃ s, s < 2147483648 ∧ nxS w a b i way = nI s := by
    unfold nxS
    unfold okS at h
    by_cases q4 : w i = 4
    · rw [if_pos q4]; exact ⟨i, by omega, rfl⟩
    rw [if_neg q4]
    by_cases q0 : w i = 0 ∨ w i = 1
    · rw [if_pos q0, Bool.and_eq_true] at h
      obtain ⟨s, hs, e⟩ := wN_of (n := 8) (by decide) h.2
      rw [if_neg (show ¬((w i = 2 ∨ w i = 3) ∧ way = 0) from fun z => by rcases q0 with q | q <;> rcases z.1 with r | r <;> rw [q] at r <;> revert r <;> decide)]
      exact ⟨s, by omega, e⟩
    · rw [if_neg q0] at h
      by_cases q2 : w i = 2 ∨ w i = 3
      · rw [if_pos q2, Bool.and_eq_true] at h
        obtain ⟨s, hs, e⟩ := wN_of (n := 8) (by decide) h.1
        obtain ⟨s2, hs2, e2⟩ := wN_of (n := 8) (by decide) h.2
        by_cases qw : way = 0
        · rw [if_pos ⟨q2, qw⟩]; exact ⟨s, by omega, e⟩
        · rw [if_neg (fun z => qw z.2)]; exact ⟨s2, by omega, e2⟩
      · rw [if_neg q2, decide_eq_true_eq] at h
        exact absurd h q4
  obtain ⟨s, hs, e⟩ := g
  rw [e, i_lt hs (by omega)] at l
  exact ⟨s, l, e⟩
/-- an op that is at the step that it needs: its channel is the process's, and at a step that there is -/
theorem tF_t {a : Nat → Nat → Int32} {p o : Nat} {v : Nat → Int32} (h : tF a p o v = true) : ¬ ndK (opW a p o) = -1 ∧ xN a p o < cnA a ∧ ofA a (xN a p o) p = true ∧ ¬ v (6 + xN a p o) < 0 ∧ sF0 a p o v = v (6 + xN a p o) ∧ askA a (xN a p o) p (v (6 + xN a p o)).toNatClampNeg = ndK (opW a p o) ∧ (v (6 + xN a p o)).toNatClampNeg < pnA a (prA a (xN a p o)) := by
  unfold tF atF at h
  rw [Bool.and_eq_true, decide_eq_true_eq, decide_eq_true_eq] at h
  obtain ⟨h1, h2⟩ := h
  have e : sF0 a p o v = v (6 + xN a p o) := by unfold sF0; rw [if_neg h1]
  rw [e] at h2
  unfold aF at h2
  by_cases q : xN a p o < cnA a ∧ ¬ v (6 + xN a p o) < 0
  · rw [if_pos q] at h2
    have h3 := h2
    unfold askA at h3
    by_cases q2 : (v (6 + xN a p o)).toNatClampNeg < pnA a (prA a (xN a p o))
    · rw [if_pos q2] at h3
      refine ⟨h1, q.1, ?_, q.2, e, h2, q2⟩
      unfold ofA
      rw [decide_eq_true q.1, Bool.true_and, Bool.or_eq_true, decide_eq_true_eq, decide_eq_true_eq]
      by_cases l : p = lA a (xN a p o)
      · exact Or.inl l.symm
      · rw [if_neg l] at h3
        by_cases r : p = rA a (xN a p o)
        · exact Or.inr r.symm
        · rw [if_neg r] at h3; exact absurd h3.symm h1
    · rw [if_neg q2] at h3; exact absurd h3.symm h1
  · rw [if_neg q] at h2; exact absurd h2.symm h1
theorem kpN_ok {u : Int32} (h : okN u) : okN (kpN u) := by
  unfold kpN
  split
  · exact h
  · exact okN_0
theorem sh_ok : ∀ y, y < 6 → okN (10 + nI y) ∧ okN (20 + nI y) := fun y hy => ⟨⟨10 + y, by omega, by rw [show (10 : Int32) = nI 10 from rfl, nI_add]⟩, ⟨20 + y, by omega, by rw [show (20 : Int32) = nI 20 from rfl, nI_add]⟩⟩
theorem mk_ok : ∀ y, y < 3 → okN (1 + nI y) := fun y hy => ⟨1 + y, by omega, by rw [show (1 : Int32) = nI 1 from rfl, nI_add]⟩
theorem shN_ok {y : Nat} (hy : y < 6) {u : Int32} (h : okN u) : okN (shN (nI y) u) := by
  unfold shN
  split
  · exact (sh_ok y hy).1
  · split
    · exact h
    · exact okN_0
theorem ldN_ok {y : Nat} (hy : y < 6) {u : Int32} : okN (ldN (nI y) u) := by
  unfold ldN
  split
  · exact (sh_ok y hy).2
  · exact okN_0
/-- a step that gets or gives has a kind -/
theorem kd_ok {a : Nat → Nat → Int32} (wf : wfA a) {c p s : Nat} (hc : c < cnA a) (hs : s < pnA a (prA a c)) (h : askA a c p s = 1 ∨ askA a c p s = 0) : ∃ k, k < 3 ∧ kA a (prA a c) s = nI k := by
  obtain ⟨_, _, _, hpr, _⟩ := wf.2.2.2.2 c hc
  have ok := (wf.1 (prA a c) hpr).2.2 s hs
  have w01 : wA a (prA a c) s = 0 ∨ wA a (prA a c) s = 1 := by
    unfold askA at h
    rw [if_pos hs] at h
    by_cases l : p = lA a c
    · rw [if_pos l] at h; exact h.symm
    · rw [if_neg l] at h
      by_cases r : p = rA a c
      · rw [if_pos r] at h
        unfold trn at h
        by_cases q0 : wA a (prA a c) s = 0
        · exact Or.inl q0
        rw [if_neg q0] at h
        by_cases q1 : wA a (prA a c) s = 1
        · exact Or.inr q1
        rw [if_neg q1] at h
        by_cases q2 : wA a (prA a c) s = 2
        · rw [if_pos q2] at h; exact absurd h (by decide)
        rw [if_neg q2] at h
        by_cases q3 : wA a (prA a c) s = 3
        · rw [if_pos q3] at h; exact absurd h (by decide)
        rw [if_neg q3] at h; exact h.symm
      · rw [if_neg r] at h; exact absurd h (by decide)
  unfold okS at ok
  rw [if_pos w01, Bool.and_eq_true] at ok
  exact wN_of (n := 3) (by decide) ok.1
theorem okV_tr {a : Nat → Nat → Int32} {p o w : Nat} (wf : wfA a) (hp : p < 3) (ho : o < onA a p) (hw : w < 2) {v : Nat → Int32} (h : okV a p v) : okV a p (trF a p o w v) := by
  obtain ⟨c0, c1, c2, c7, c9, c10, c11, _, _, cY, _⟩ := okO_c ((wf.2.1 p hp).2.2 o ho)
  refine ⟨fun i hi => ?_, fun c hc => ?_⟩
  · have hv := h.1
    unfold trF
    rw [if_pos hi]
    unfold nmF
    by_cases q0 : opW a p o = 0
    · rw [if_pos q0, cY (Or.inl q0)]
      split
      · exact mk_ok _ (c0 q0).2
      · exact hv i hi
    rw [if_neg q0]
    by_cases q1 : opW a p o = 1
    · rw [if_pos q1]
      have hy : yN a p o < 6 := (c1 (Or.inl q1)).2
      split
      · exact hv i hi
      · split
        · exact hv _ hy
        · split
          · exact kpN_ok (hv _ hy)
          · exact hv i hi
    rw [if_neg q1]
    by_cases q2 : opW a p o = 2
    · rw [if_pos q2]
      split
      · exact okN_0
      · exact hv i hi
    rw [if_neg q2]
    by_cases q5 : opW a p o = 5
    · rw [if_pos q5, show opY a p o = nI (yN a p o) from cY (Or.inr (Or.inr (Or.inl q5)))]
      have hy : yN a p o < 6 := (c1 (Or.inr (Or.inl q5))).2
      split
      · exact shN_ok hy (hv _ hy)
      · exact hv i hi
    rw [if_neg q5]
    by_cases q6 : opW a p o = 6
    · rw [if_pos q6, show opY a p o = nI (yN a p o) from cY (Or.inr (Or.inr (Or.inr (Or.inl q6))))]
      have hy : yN a p o < 6 := (c1 (Or.inr (Or.inr q6))).2
      split
      · exact ldN_ok hy
      · exact hv i hi
    rw [if_neg q6]
    by_cases q7 : opW a p o = 7
    · rw [if_pos q7]
      have hy : yN a p o < 6 := (c7 (Or.inl q7)).2
      split
      · exact kpN_ok (hv _ hy)
      · exact hv i hi
    rw [if_neg q7]
    by_cases q8 : opW a p o = 8
    · rw [if_pos q8]
      split
      · split
        · next e =>
          obtain ⟨t1, t2, t3, t4, t5, t6, t7⟩ := tF_t e
          unfold kF
          rw [t5]
          rw [show ndK (opW a p o) = 1 by rw [q8]; rfl] at t6
          obtain ⟨k, hk, e2⟩ := kd_ok wf t2 t7 (Or.inl t6)
          rw [e2]
          exact mk_ok k hk
        · split
          · exact okN_5
          · exact okN_1
      · exact hv i hi
    rw [if_neg q8]
    exact hv i hi
  · unfold trF
    rw [if_neg (by omega)]
    by_cases e : tF a p o v = true ∧ 6 + c = 6 + xN a p o
    · rw [if_pos e]
      obtain ⟨e1, e2⟩ := e
      obtain ⟨t1, t2, t3, t4, t5, t6, t7⟩ := tF_t e1
      have e3 : c = xN a p o := by omega
      subst e3
      obtain ⟨_, _, _, hpr, _, _, _, _, hwh⟩ := wf.2.2.2.2 _ t2
      have ok := (wf.1 _ hpr).2
      rw [t5]
      have hwy : wyF a p o w < 2 := by
        unfold wyF
        by_cases q9 : opW a p o = 9
        · rw [if_pos q9]; exact (c9 q9).2
        · rw [if_neg q9]; exact hw
      obtain ⟨s, hs, es⟩ := nxS_ok ok.1 t7 (ok.2 _ t7) (hwh _ t7) hwy
      exact ⟨fun _ => Or.inr ⟨s, hs, es⟩, fun z => by rw [t3] at z; cases z⟩
    · rw [if_neg e]; exact h.2 c hc
