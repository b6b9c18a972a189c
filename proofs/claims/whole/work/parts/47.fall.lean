/-! LEVEL B: flows: the class follows all -/
/-- what stands while the class follows: below all that holds, and closed but at the ops to be looked at -/
def icF (a : Nat → Nat → Int32) (q : Nat) (S : sF) (c : Nat → Bool) : Prop := lowF a q S ∧ okF a q S ∧ S.1 0 = true ∧ le_v (inV a q) (S.2 0) ∧ (∀ o, o < onA a q → c o = false → clF a q S o) ∧ ∀ o, o < 17 → c o = true → S.1 o = true
def phF (S : sF) (c : Nat → Bool) : Nat := htF S + sumN 17 (fun j => bN (c j))
theorem bN_le (b : Bool) : bN b ≤ 1 := by cases b <;> decide
theorem phF_le (S : sF) (c : Nat → Bool) : phF S c ≤ 493 := Nat.add_le_add (htF_le S) (sumN_bd (b := 1) (fun i _ => bN_le _))
theorem stepR_ph {k : Nat} {v : Nat → Int32} {S T : sF} {c d : Nat → Bool} (hk : k < 17) (h : stepR k v S c T d) : phF T d ≤ phF S c := by
  obtain ⟨h1, h2, h3⟩ := h
  unfold phF
  cases e : dfF S k v with
  | false =>
    obtain ⟨e1, e2⟩ := dfF_same e
    have a1 : htF T = htF S := htF_same (fun j hj => by rw [h1 j (by omega), e1]) (fun j i _ hi _ => by rw [h2 j i hi, e2 j i hi])
    have a2 : sumN 17 (fun j => bN (d j)) = sumN 17 (fun j => bN (c j)) := sumN_eq (fun j hj => by rw [h3 j (by omega), e, Bool.false_and, Bool.or_false])
    rw [a1, a2]
    exact Nat.le_refl _
  | true =>
    have a1 : htF T = htF (jnF S k v) := htF_same (fun j hj => h1 j (by omega)) (fun j i _ hi _ => h2 j i hi)
    have a2 := htF_jn hk e
    have a3 : sumN 17 (fun j => bN (d j)) + bN (c k) = sumN 17 (fun j => bN (c j)) + bN (d k) := sumN_one (f := fun j => bN (d j)) (g := fun j => bN (c j)) (fun j hj hjk => by rw [h3 j (by omega), decide_eq_false hjk, Bool.and_false, Bool.or_false]) hk
    have := bN_le (d k)
    omega
/-- an op that isn't to be looked at stays closed -/
theorem stepR_cl {a : Nat → Nat → Int32} {q : Nat} (wf : wfA a) (hq : q < 3) {k : Nat} {v : Nat → Int32} {S T : sF} {c d : Nat → Bool} (h : stepR k v S c T d) {o : Nat} (ho : o < onA a q) (hc : c o = false → clF a q S o) : d o = false → clF a q T o := by
  have h16 := (wf.2.1 q hq).2.1
  have ok := (wf.2.1 q hq).2.2 o ho
  obtain ⟨h1, h2, h3⟩ := h
  intro hd
  rw [h3 o (by omega), Bool.or_eq_false_iff] at hd
  obtain ⟨hd1, hd2⟩ := hd
  have hcl := hc hd1
  intro hT h13
  -- the numbers of o are what they were
  have same : S.1 o = true ∧ ∀ i, i < 9 → T.2 o i = S.2 o i := by
    by_cases e : o = k
    · subst e
      rw [decide_eq_true rfl, Bool.and_true] at hd2
      obtain ⟨e1, e2⟩ := dfF_same hd2
      exact ⟨by rw [← e1 o, ← h1 o (by omega)]; exact hT, fun i hi => by rw [h2 o i hi, e2 o i hi]⟩
    · refine ⟨?_, fun i hi => by rw [h2 o i hi, jnF_o e]⟩
      rw [h1 o (by omega), jnF_1, decide_eq_false e, Bool.or_false] at hT
      exact hT
  have ed : ∀ b, edF a q S o b → edF a q T o b := by
    intro b hb
    have n17 : nxO a q o b < 17 := by have := nxO_le (a := a) (p := q) (o := o) (b := b); omega
    have up := jnF_up (S := S) (k := k) (v := v) (nxO a q o b) n17 hb.1
    refine ⟨by rw [h1 _ (by omega)]; exact up.1, fun i hi => ?_⟩
    rw [h2 _ i hi]
    have t1 : le_v (trF a q o (bN b) (T.2 o)) (trF a q o (bN b) (S.2 o)) := trF_m ok (fun j hj => by rw [same.2 j hj]; exact le9_r _ _)
    exact le9_t (t1 i hi) (le9_t (hb.2 i hi) (up.2 i hi))
  obtain ⟨c1, c2⟩ := hcl same.1 h13
  exact ⟨ed false c1, fun z => ed true (c2 z)⟩
/-- way b of op o is followed with the numbers v0 -/
def edV (a : Nat → Nat → Int32) (q : Nat) (T : sF) (o : Nat) (b : Bool) (v0 : Nat → Int32) : Prop := T.1 (nxO a q o b) = true ∧ le_v (trF a q o (bN b) v0) (T.2 (nxO a q o b))
theorem stepR_in {a : Nat → Nat → Int32} {q o : Nat} {b : Bool} {v v0 : Nat → Int32} {S T : sF} {c d : Nat → Bool} (n17 : nxO a q o b < 17) (h : stepR (nxO a q o b) v S c T d) (hv : ∀ i, i < 9 → v i = trF a q o (bN b) v0 i) : edV a q T o b v0 := by
  obtain ⟨h1, h2, _⟩ := h
  have z := jnF_in (S := S) (k := nxO a q o b) (v := v)
  refine ⟨by rw [h1 _ (by omega)]; exact z.1, fun i hi => ?_⟩
  rw [h2 _ i hi, ← hv i hi]
  exact z.2 i hi
theorem stepR_ev {a : Nat → Nat → Int32} {q o k : Nat} {b : Bool} {v v0 : Nat → Int32} {S T : sF} {c d : Nat → Bool} (n17 : nxO a q o b < 17) (h : stepR k v S c T d) (e : edV a q S o b v0) : edV a q T o b v0 := by
  obtain ⟨h1, h2, _⟩ := h
  have up := jnF_up (S := S) (k := k) (v := v) (nxO a q o b) n17 e.1
  refine ⟨by rw [h1 _ (by omega)]; exact up.1, fun i hi => ?_⟩
  rw [h2 _ i hi]
  exact le9_t (e.2 i hi) (up.2 i hi)
/-- the numbers of an op that isn't to be looked at are v0 -/
theorem stepR_sm {o k : Nat} {v v0 : Nat → Int32} {S T : sF} {c d : Nat → Bool} (ho : o < 17) (h : stepR k v S c T d) (e : c o = false → ∀ i, i < 9 → S.2 o i = v0 i) : d o = false → ∀ i, i < 9 → T.2 o i = v0 i := by
  obtain ⟨h1, h2, h3⟩ := h
  intro hd i hi
  rw [h3 o (by omega), Bool.or_eq_false_iff] at hd
  rw [h2 o i hi, ← e hd.1 i hi]
  by_cases z : o = k
  · subst z
    rw [decide_eq_true rfl, Bool.and_true] at hd
    exact (dfF_same hd.2).2 o i hi
  · exact jnF_o z
theorem edV_ed {a : Nat → Nat → Int32} {q o : Nat} {b : Bool} {v0 : Nat → Int32} {T : sF} (ok : okO (opW a q o) (opX a q o) (opY a q o) = true) (h : edV a q T o b v0) (e : ∀ i, i < 9 → T.2 o i = v0 i) : edF a q T o b :=
  ⟨h.1, fun i hi => le9_t (trF_m (w := bN b) ok (v := T.2 o) (u := v0) (fun j hj => by rw [e j hj]; exact le9_r _ _) i hi) (h.2 i hi)⟩
/-- a step keeps what stands, but for closedness -/
theorem stepR_ic {a : Nat → Nat → Int32} {q : Nat} (wf : wfA a) (hq : q < 3) {S T S0 : sF} {c d : Nat → Bool} {o : Nat} {b : Bool} {v : Nat → Int32} (ho : o < onA a q) (h13 : ¬ opW a q o = 13) (hb : b = true → otO a q o)
    (hS0 : S0.1 o = true) (hl0 : lowF a q S0) (ok0 : okV a q (S0.2 o)) (h : stepR (nxO a q o b) v S c T d) (hv : ∀ i, i < 9 → v i = trF a q o (bN b) (S0.2 o) i) (i1 : lowF a q S) (i2 : okF a q S) (i3 : S.1 0 = true) (i4 : le_v (inV a q) (S.2 0)) (i6 : ∀ o, o < 17 → c o = true → S.1 o = true) :
    lowF a q T ∧ okF a q T ∧ T.1 0 = true ∧ le_v (inV a q) (T.2 0) ∧ ∀ o, o < 17 → d o = true → T.1 o = true := by
  have h16 := (wf.2.1 q hq).2.1
  have ok := (wf.2.1 q hq).2.2 o ho
  obtain ⟨h1, h2, h3⟩ := h
  have up := jnF_up (S := S) (k := nxO a q o b) (v := v)
  refine ⟨fun U hU => ?_, fun j hj hT => ?_, ?_, fun i hi => ?_, fun j hj hd => ?_⟩
  · have u1 := i1 U hU
    have u0 := hl0 U hU
    have u2 := u0 o (by omega) hS0
    have u3 := hU.2.2 o ho u2.1 h13
    have u4 : edF a q U o b := by
      cases b with
      | false => exact u3.1
      | true => exact u3.2 (hb rfl)
    have u5 : leF (jnF S (nxO a q o b) v) U := by
      refine jnF_le u1 u4.1 (fun i hi => ?_)
      rw [hv i hi]
      exact le9_t (trF_m ok (fun j hj => u2.2 j hj) i hi) (u4.2 i hi)
    intro j hj hT
    rw [h1 j (by omega)] at hT
    exact ⟨(u5 j hj hT).1, fun i hi => by rw [h2 j i hi]; exact (u5 j hj hT).2 i hi⟩
  · have bw : bN b < 2 := by have := bN_le b; omega
    have hvv : okV a q v := okV_e hv (okV_tr wf hq ho bw ok0)
    have := okF_jn i2 (k := nxO a q o b) hvv j hj (by rw [← h1 j (by omega)]; exact hT)
    exact okV_e (fun i hi => h2 j i hi) this
  · rw [h1 0 (by omega)]; exact (up 0 (by omega) i3).1
  · rw [h2 0 i hi]; exact le9_t (i4 i hi) ((up 0 (by omega) i3).2 i hi)
  · rw [h3 j (by omega), Bool.or_eq_true] at hd
    rw [h1 j (by omega), jnF_1]
    rcases hd with hd | hd
    · rw [i6 j hj hd]; rfl
    · rw [Bool.and_eq_true] at hd
      rw [hd.2, Bool.or_true]
/-- following an op keeps what stands -/
theorem foll_ic {a : Nat → Nat → Int32} {q : Nat} (wf : wfA a) (hq : q < 3) {S T : sF} {c c0 d : Nat → Bool} {o : Nat} (ho : o < onA a q) (hi : icF a q S c) (hco : c o = true) (hc0 : ∀ j, j < 32 → c0 j = (c j && !decide (j = o))) (h : follR a q o S c0 T d) : icF a q T d ∧ phF T d < phF S c := by
  have h16 := (wf.2.1 q hq).2.1
  have ok := (wf.2.1 q hq).2.2 o ho
  obtain ⟨i1, i2, i3, i4, i5, i6⟩ := hi
  have nx17 : ∀ b, nxO a q o b < 17 := fun b => by have := nxO_le (a := a) (p := q) (o := o) (b := b); omega
  have hSo : S.1 o = true := i6 o (by omega) hco
  have okv := i2 o (by omega) hSo
  have p0 : phF S c0 < phF S c := by
    unfold phF
    have a3 : sumN 17 (fun j => bN (c0 j)) + bN (c o) = sumN 17 (fun j => bN (c j)) + bN (c0 o) := sumN_one (f := fun j => bN (c0 j)) (g := fun j => bN (c j)) (fun j hj hjk => by rw [hc0 j (by omega), decide_eq_false hjk, Bool.not_false, Bool.and_true]) (show o < 17 by omega)
    rw [hco, hc0 o (by omega), decide_eq_true rfl, Bool.not_true, Bool.and_false, show bN true = 1 from rfl, show bN false = 0 from rfl] at a3
    omega
  have j5 : ∀ o', o' < onA a q → o' ≠ o → c0 o' = false → clF a q S o' := by
    intro o' ho' hne hc
    rw [hc0 o' (by omega), decide_eq_false hne, Bool.not_false, Bool.and_true] at hc
    exact i5 o' ho' hc
  have j6 : ∀ o', o' < 17 → c0 o' = true → S.1 o' = true := by
    intro o' ho' hc
    rw [hc0 o' (by omega), Bool.and_eq_true] at hc
    exact i6 o' ho' hc.1
  rcases h with ⟨h13, hT, hd⟩ | ⟨h13, U, e, v, hv, hU, h⟩
  · subst hT
    subst hd
    refine ⟨⟨i1, i2, i3, i4, fun o' ho' hc => ?_, j6⟩, p0⟩
    by_cases z : o' = o
    · subst z
      exact fun _ z => absurd h13 z
    · exact j5 o' ho' z hc
  · have pU := stepR_ph (nx17 _) hU
    obtain ⟨k1, k2, k3, k4, k6⟩ := stepR_ic wf hq ho h13 (b := false) (fun z => nomatch z) hSo i1 okv hU hv i1 i2 i3 i4 j6
    have kc : ∀ o', o' < onA a q → o' ≠ o → e o' = false → clF a q U o' := fun o' ho' hne => stepR_cl wf hq hU ho' (j5 o' ho' hne)
    have ks := stepR_sm (v0 := S.2 o) (show o < 17 by omega) hU (fun _ i _ => rfl)
    have ke : edV a q U o false (S.2 o) := stepR_in (nx17 _) hU hv
    rcases h with ⟨hn, hT, hd⟩ | ⟨hot, w, hw, hT⟩
    · subst hT
      subst hd
      refine ⟨⟨k1, k2, k3, k4, fun o' ho' hc => ?_, k6⟩, by omega⟩
      by_cases z : o' = o
      · subst z
        exact fun _ _ => ⟨edV_ed ok ke (ks hc), fun y => absurd y hn⟩
      · exact kc o' ho' z hc
    · have pT := stepR_ph (nx17 _) hT
      obtain ⟨l1, l2, l3, l4, l6⟩ := stepR_ic wf hq ho h13 (b := true) (fun _ => hot) hSo i1 okv hT hw k1 k2 k3 k4 k6
      have lc : ∀ o', o' < onA a q → o' ≠ o → d o' = false → clF a q T o' := fun o' ho' hne => stepR_cl wf hq hT ho' (kc o' ho' hne)
      have ls := stepR_sm (v0 := S.2 o) (show o < 17 by omega) hT ks
      have le0 : edV a q T o false (S.2 o) := stepR_ev (nx17 _) hT ke
      have le1 : edV a q T o true (S.2 o) := stepR_in (nx17 _) hT hw
      refine ⟨⟨l1, l2, l3, l4, fun o' ho' hc => ?_, l6⟩, by omega⟩
      by_cases z : o' = o
      · subst z
        exact fun _ _ => ⟨edV_ed ok le0 (ls hc), fun _ => edV_ed ok le1 (ls hc)⟩
      · exact lc o' ho' z hc
/-- the class clears an op's mark -/
def clrM (M : sm_M) (q o : Nat) : sm_M := sm_u M 4 q 0 9 ((M.1 4 q 0 9) &&& ((1 <<< (nI o &&& 31)) ^^^ (-1)))
theorem clrM_fr {M : sm_M} {q o : Nat} : frS (s4f q) M (clrM M q o) := frS_u ⟨rfl, rfl, Or.inl ⟨rfl, Or.inr rfl⟩⟩
theorem clrM_f {M : sm_M} {q o : Nat} : fC (clrM M q o) q = fC M q := by
  unfold clrM fC
  simp only [u_1, Nat.reduceEqDiff, and_false, if_false, false_and]
theorem clrM_c {M : sm_M} {q o : Nat} (ho : o < 17) {j : Nat} (hj : j < 32) : chC (clrM M q o) q j = (chC M q j && !decide (j = o)) := by
  unfold chC clrM
  rw [u_1, if_pos ⟨rfl, rfl, rfl, rfl⟩, b_clr o (by omega) _ hj]
theorem P_fa10 {sc : Nat × (Nat → Int32)} {a : Nat → Nat → Int32} {q : Nat} (wf : wfA a) (hq : q < 3) (rd : Nat) : ∀ k i M u, i + k = onA a q → cx a M q → icF a q (fC M q) (chC M q) →
    ∃ N u', dn sc kFlow_followAll 10 [.inr (.inr (4, q, 0)), .inl (bI u), .inl (nI rd), .inl (nI i)] [] M = dn sc kFlow_followAll 7 [.inr (.inr (4, q, 0)), .inl (bI u'), .inl (nI (rd + 1))] [] N ∧ frS (s4f q) M N ∧ icF a q (fC N q) (chC N q) ∧
      phF (fC N q) (chC N q) ≤ phF (fC M q) (chC M q) ∧ (u' = true → u = true ∨ phF (fC N q) (chC N q) < phF (fC M q) (chC M q)) ∧ (u' = false → N = M ∧ u = false ∧ ∀ j, i ≤ j → j < onA a q → chC M q j = false) := by
  have h16 := (wf.2.1 q hq).2.1
  intro k
  induction k with
  | zero =>
    intro i M u hi r ic
    have rk := r.1.2.1 q hq
    refine ⟨M, u, ?_, frS_r, ic, Nat.le_refl _, fun h => Or.inl h, fun h => ⟨rfl, h, fun j h1 h2 => by omega⟩⟩
    rw [E_Flow_followAll_10, P_kSize rk, r1_s, if_neg (by rw [i_lt (by omega) (by omega)]; omega), nI_1]
  | succ k ih =>
    intro i M u hi r ic
    have rk := r.1.2.1 q hq
    rw [E_Flow_followAll_10, P_kSize rk, r1_s, if_pos (by rw [i_lt (by omega) (by omega)]; omega), show (16 : Int32) = nI 16 from rfl, if_pos (by rw [i_lt (by omega) (by decide)]; omega), nI_1]
    cases hb : chC M q i with
    | false =>
      rw [if_pos ((b_ask i (by omega) _).mpr hb)]
      obtain ⟨N, u', h1, h2, h3, h4, h5, h6⟩ := ih (i + 1) M u (by omega) r ic
      refine ⟨N, u', h1, h2, h3, h4, h5, fun h => ?_⟩
      obtain ⟨g1, g2, g3⟩ := h6 h
      refine ⟨g1, g2, fun j hj1 hj2 => ?_⟩
      by_cases z : j = i
      · rw [z]; exact hb
      · exact g3 j (by omega) hj2
    | true =>
      rw [if_neg (fun z => absurd ((b_ask i (by omega) _).mp z) (show ¬ bt (M.1 4 q 0 9) i = false from by unfold chC at hb; rw [hb]; decide))]
      have r1 := cx_fr (frS_w (clrM_fr (M := M) (q := q) (o := i)) s4f_4) r
      have hSo : (fC M q).1 i = true := ic.2.2.2.2.2 i (by omega) hb
      have okv := ic.2.1 i (by omega) hSo
      obtain ⟨N1, g1, g2, g3⟩ := P_follow (sc := sc) wf r1 hq (show i < onA a q by omega) (by rw [clrM_f]; exact okv)
      rw [clrM_f] at g3
      obtain ⟨ic1, ph1⟩ := foll_ic wf hq (show i < onA a q by omega) ic hb (fun j hj => clrM_c (by omega) hj) g3
      have fr1 : frS (s4f q) M N1 := frS_t clrM_fr g2
      have r2 := cx_fr (frS_w fr1 s4f_4) r
      obtain ⟨N, u', h1, h2, h3, h4, h5, h6⟩ := ih (i + 1) N1 true (by omega) r2 ic1
      refine ⟨N, u', ?_, frS_t fr1 h2, h3, by omega, fun _ => Or.inr (by omega), fun h => absurd (h6 h).2.1 (by decide)⟩
      rw [show sm_u M 4 q 0 9 ((M.1 4 q 0 9) &&& ((1 <<< (nI i &&& 31)) ^^^ (-1))) = clrM M q i from rfl, g1, r0_s]
      exact h1
theorem P_fa7 {sc : Nat × (Nat → Int32)} {a : Nat → Nat → Int32} {q : Nat} (wf : wfA a) (hq : q < 3) : ∀ m M rd, phF (fC M q) (chC M q) ≤ m → rd + m < 999 → cx a M q → icF a q (fC M q) (chC M q) →
    ∃ N, dn sc kFlow_followAll 7 [.inr (.inr (4, q, 0)), .inl 1, .inl (nI rd)] [] M = some (0, .inl 0, N) ∧ frS (s4f q) M N ∧ icF a q (fC N q) (chC N q) ∧ ∀ j, j < onA a q → chC N q j = false := by
  intro m
  induction m with
  | zero =>
    intro M rd hph hrd r ic
    obtain ⟨N, u', h1, h2, h3, h4, h5, h6⟩ := P_fa10 (sc := sc) wf hq rd (onA a q) 0 M false (by omega) r ic
    rw [E_Flow_followAll_7, show (1000 : Int32) = nI 1000 from rfl, if_pos (by rw [i_lt (by omega) (by decide)]; omega), if_neg (by decide)]
    cases hu : u' with
    | true =>
      rcases h5 hu with h | h
      · cases h
      · omega
    | false =>
      obtain ⟨g1, g2, g3⟩ := h6 hu
      subst g1
      refine ⟨N, ?_, frS_r, h3, fun j hj => g3 j (by omega) hj⟩
      rw [hu] at h1
      refine h1.trans ?_
      rw [E_Flow_followAll_7]
      split
      · rfl
      · rfl
  | succ m ih =>
    intro M rd hph hrd r ic
    obtain ⟨N, u', h1, h2, h3, h4, h5, h6⟩ := P_fa10 (sc := sc) wf hq rd (onA a q) 0 M false (by omega) r ic
    rw [E_Flow_followAll_7, show (1000 : Int32) = nI 1000 from rfl, if_pos (by rw [i_lt (by omega) (by decide)]; omega), if_neg (by decide)]
    cases hu : u' with
    | true =>
      rcases h5 hu with h | h
      · cases h
      · have r2 := cx_fr (frS_w h2 s4f_4) r
        obtain ⟨O, o1, o2, o3, o4⟩ := ih N (rd + 1) (by omega) (by omega) r2 h3
        rw [hu] at h1
        exact ⟨O, h1.trans o1, frS_t h2 o2, o3, o4⟩
    | false =>
      obtain ⟨g1, g2, g3⟩ := h6 hu
      subst g1
      refine ⟨N, ?_, frS_r, h3, fun j hj => g3 j (by omega) hj⟩
      rw [hu] at h1
      refine h1.trans ?_
      rw [E_Flow_followAll_7]
      split
      · rfl
      · rfl
/-- the class's memory at the beginning of a flow -/
def fa0 (M : sm_M) (q : Nat) : sm_M := sm_fl (sm_u (sm_u M 4 q 0 8 0) 4 q 0 9 0) 4 q 7 0
theorem fa0_fr {M : sm_M} {q : Nat} : frS (s4f q) M (fa0 M q) := by
  refine ⟨rfl, fun c p j i h => ?_⟩
  unfold s4f at h
  unfold fa0 sm_fl
  dsimp only
  rw [if_neg (by omega), u_1, if_neg (by omega), u_1, if_neg (by omega)]
theorem P_fa1 {sc : Nat × (Nat → Int32)} {a : Nat → Nat → Int32} {M : sm_M} {q : Nat} (r : cx a M q) (hq : q < 3) : ∀ n i, i + n = 3 → dn sc kFlow_followAll 1 [.inr (.inr (4, q, 0)), .inl (nI i)] [] (blk M 4 q 8 0 i (fun c => inV a q (6 + c))) = sm_r0 (dn sc kFlow_reach 0 [.inr (.inr (4, q, 0)), .inl 0] [] (blk M 4 q 8 0 3 (fun c => inV a q (6 + c)))) (fun M1 => dn sc kFlow_followAll 7 [.inr (.inr (4, q, 0)), .inl 1, .inl 0] [] M1) := by
  intro n
  induction n with
  | zero =>
    intro i hi
    obtain rfl : i = 3 := by omega
    rw [E_Flow_followAll_1, if_neg (by decide)]
  | succ n ih =>
    intro i hi
    have rc : cx a (blk M 4 q 8 0 i (fun c => inV a q (6 + c))) q := by
      refine cx_fr (M := M) ⟨rfl, fun c p j i' h => ?_⟩ r
      unfold s4 at h
      rw [blk_no (by omega)]
    have e1 : blk M 4 q 8 0 (i + 1) (fun c => inV a q (6 + c)) = sm_u (blk M 4 q 8 0 i (fun c => inV a q (6 + c))) 4 q 8 i (inV a q (6 + i)) := by rw [← blk_s, Nat.zero_add]
    rw [E_Flow_followAll_1, show (3 : Int32) = nI 3 from rfl, if_pos (by rw [i_lt (by omega) (by decide)]; omega), rc.2, P_side rc.1.2.2 (show i < 3 by omega) hq, r1_s, i_ib (show i < 3 by omega) (by decide), i_cl (by omega), nI_1, ← ih (i + 1) (by omega), e1, if_pos rfl, if_pos rfl]
    unfold inV
    rw [show 6 + i - 6 = i by omega]
    cases ho : ofA a i q with
    | true =>
      have : ¬ sdA a i q = -1 := by
        unfold ofA at ho
        rw [Bool.and_eq_true, Bool.or_eq_true, decide_eq_true_eq, decide_eq_true_eq, decide_eq_true_eq] at ho
        unfold sdA
        rw [if_pos ho.1]
        by_cases l : lA a i = q
        · rw [if_pos l]; decide
        · rw [if_neg l, if_pos (ho.2.resolve_left l)]; decide
      rw [if_neg this, if_pos (Or.inr rfl)]
    | false =>
      have : sdA a i q = -1 := by
        unfold ofA at ho
        unfold sdA
        by_cases c : i < cnA a
        · rw [if_pos c]
          rw [decide_eq_true c, Bool.true_and, Bool.or_eq_false_iff, decide_eq_false_iff_not, decide_eq_false_iff_not] at ho
          rw [if_neg ho.1, if_neg ho.2]
        · rw [if_neg c]
      rw [if_pos this, if_neg (fun z => z.elim (by omega) (by decide))]
theorem P_fAll {sc : Nat × (Nat → Int32)} {a : Nat → Nat → Int32} {M : sm_M} {q : Nat} (wf : wfA a) (r : cx a M q) (hq : q < 3) :
    ∃ N, dn sc kFlow_followAll 0 [.inr (.inr (4, q, 0))] [] M = some (0, .inl 0, N) ∧ frS (s4f q) M N ∧ solF a q (fC N q) ∧ lowF a q (fC N q) ∧ okF a q (fC N q) := by
  have r1 := cx_fr (frS_w (fa0_fr (M := M) (q := q)) s4f_4) r
  have h1 := P_fa1 (sc := sc) r1 hq 3 0 rfl
  rw [blk_0] at h1
  have hB : frS (s4f q) (fa0 M q) (blk (fa0 M q) 4 q 8 0 3 (fun c => inV a q (6 + c))) := by
    refine ⟨rfl, fun c p j i' h => ?_⟩
    unfold s4f at h
    rw [blk_no (by omega)]
  have r2 := cx_fr (frS_w hB s4f_4) r1
  have hR := rch_R (M := blk (fa0 M q) 4 q 8 0 3 (fun c => inV a q (6 + c))) (q := q) (show 0 < 17 by decide)
  have hc0 : ∀ j, (fC (blk (fa0 M q) 4 q 8 0 3 (fun c => inV a q (6 + c))) q).1 j = false := by
    intro j
    show bt ((blk (fa0 M q) 4 q 8 0 3 (fun c => inV a q (6 + c))).1 4 q 0 8) j = false
    rw [blk_no (by omega)]
    unfold fa0 sm_fl
    dsimp only
    rw [if_neg (by omega), u_1, if_neg (by omega), u_1, if_pos ⟨rfl, rfl, rfl, rfl⟩, b_0]
  have hd0 : ∀ j, chC (blk (fa0 M q) 4 q 8 0 3 (fun c => inV a q (6 + c))) q j = false := by
    intro j
    unfold chC
    rw [blk_no (by omega)]
    unfold fa0 sm_fl
    dsimp only
    rw [if_neg (by omega), u_1, if_pos ⟨rfl, rfl, rfl, rfl⟩, b_0]
  have hnw : ∀ i, i < 9 → nwC (blk (fa0 M q) 4 q 8 0 3 (fun c => inV a q (6 + c))) q i = inV a q i := by
    refine by9 (fun i hi => ?_) (fun i hi => ?_)
    · rw [nwC_n hi, blk_no (by omega)]
      unfold fa0 sm_fl
      dsimp only
      rw [if_pos ⟨rfl, rfl, rfl⟩]
      unfold inV
      rw [if_pos (Or.inl hi)]
    · rw [nwC_s]
      have := blk_in (M := fa0 M q) (c := 4) (p := q) (j := 8) (base := 0) (g := fun c => inV a q (6 + c)) hi
      rw [Nat.zero_add] at this
      exact this
  obtain ⟨R1, R2, R3⟩ := hR
  have hdf : dfF (fC (blk (fa0 M q) 4 q 8 0 3 (fun c => inV a q (6 + c))) q) 0 (nwC (blk (fa0 M q) 4 q 8 0 3 (fun c => inV a q (6 + c))) q) = true := by
    unfold dfF
    rw [hc0 0]; rfl
  have ic : icF a q (fC (rch (blk (fa0 M q) 4 q 8 0 3 (fun c => inV a q (6 + c))) q 0) q) (chC (rch (blk (fa0 M q) 4 q 8 0 3 (fun c => inV a q (6 + c))) q 0) q) := by
    have h16 := (wf.2.1 q hq).2.1
    have inn := jnF_in (S := fC (blk (fa0 M q) 4 q 8 0 3 (fun c => inV a q (6 + c))) q) (k := 0) (v := nwC (blk (fa0 M q) 4 q 8 0 3 (fun c => inV a q (6 + c))) q)
    have low := low_0 (a := a) (p := q) (S := fC (blk (fa0 M q) 4 q 8 0 3 (fun c => inV a q (6 + c))) q) (fun k _ => hc0 k) hnw
    have okj := okF_jn (a := a) (p := q) (S := fC (blk (fa0 M q) 4 q 8 0 3 (fun c => inV a q (6 + c))) q) (fun k _ h => by rw [hc0 k] at h; cases h) (k := 0) (okV_e hnw (okV_in wf))
    refine ⟨fun U hU j hj hT => ?_, fun j hj hT => ?_, ?_, fun i hi => ?_, fun o ho hc => ?_, fun o ho hc => ?_⟩
    · rw [R1 j (by omega)] at hT
      exact ⟨(low U hU j hj hT).1, fun i hi => by rw [R2 j i hi]; exact (low U hU j hj hT).2 i hi⟩
    · exact okV_e (fun i hi => R2 j i hi) (okj j hj (by rw [← R1 j (by omega)]; exact hT))
    · rw [R1 0 (by omega)]; exact inn.1
    · rw [R2 0 i hi, ← hnw i hi]; exact inn.2 i hi
    · rw [R3 o (by omega), hd0 o, hdf, Bool.false_or, Bool.true_and, decide_eq_false_iff_not] at hc
      intro hT
      rw [R1 o (by omega), jnF_1, hc0 o, decide_eq_false hc] at hT
      cases hT
    · rw [R3 o (by omega), hd0 o, hdf, Bool.false_or, Bool.true_and, decide_eq_true_eq] at hc
      subst hc
      rw [R1 0 (by omega)]; exact inn.1
  have r3 := cx_fr (frS_w (rch_s4 (M := blk (fa0 M q) 4 q 8 0 3 (fun c => inV a q (6 + c))) (q := q) (k := 0)) s4f_4) r2
  obtain ⟨N, n1, n2, n3, n4⟩ := P_fa7 (sc := sc) wf hq 493 _ 0 (phF_le _ _) (by decide) r3 ic
  refine ⟨N, ?_, frS_t fa0_fr (frS_t hB (frS_t rch_s4 n2)), ⟨n3.2.2.1, n3.2.2.2.1, fun o ho => n3.2.2.2.2.1 o ho (n4 o ho)⟩, n3.1, n3.2.1⟩
  rw [E_Flow_followAll_0, show sm_fl (sm_u (sm_u M 4 q 0 8 0) 4 q 0 9 0) 4 q 7 0 = fa0 M q from rfl, show (0 : Int32) = nI 0 from rfl, h1, show (0 : Int32) = nI 0 from rfl, P_fReach (by decide), r0_s]
  exact n1
