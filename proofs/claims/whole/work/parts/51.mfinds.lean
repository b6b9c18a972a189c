/-! LEVEL B: flows: the reference finds -/
def s10q (q c p j i : Nat) : Prop := s10p q c p j i ∧ ¬ j = 16
theorem P_mStop {sc : Nat × (Nat → Int32)} {a : Nat → Nat → Int32} {N : sm_M} {p o : Nat} (wf : wfA a) (r : cr a N) (hp : p < 3) (ho : o < 17) : dn sc kModel_isStop 0 [.inr (.inr (10, 0, 0)), .inl (nI p), .inl (nI o)] [] N = some (0, .inl (bI (decide (o < onA a p) && decide (opW a p o = 13))), N) := by
  have h16 := (wf.2.1 p hp).2.1
  rw [E_Model_isStop_0, i_ib hp (by decide), if_pos rfl, i_cl (by omega), cr_n wf r hp]
  by_cases z : o < onA a p
  · rw [if_pos (by rw [i_lt (by omega) (by omega)]; exact z), show (16 : Int32) = nI 16 from rfl, i_mul, nI_add, i_ib (show 16 * p + o < 48 by omega) (by decide), if_pos rfl, i_cl (by omega), (cr_op r p o).1, ite_1, decide_eq_true z, Bool.true_and]
  · rw [if_neg (by rw [i_lt (by omega) (by omega)]; exact z), decide_eq_false z]; rfl
theorem P_mOther {sc : Nat × (Nat → Int32)} {a : Nat → Nat → Int32} {N : sm_M} {p o : Nat} (r : cr a N) (hp : p < 3) (ho : o < 16) : dn sc kModel_hasOther 0 [.inr (.inr (10, 0, 0)), .inl (nI p), .inl (nI o)] [] N = some (0, .inl (bI (decide (opW a p o = 10) || decide (opW a p o = 11))), N) := by
  rw [E_Model_hasOther_0, show (16 : Int32) = nI 16 from rfl, i_mul, nI_add, i_ib (show 16 * p + o < 48 by omega) (by decide)]
  simp only [if_true]
  rw [i_cl (by omega), (cr_op r p o).1]
  by_cases z : opW a p o = 10
  · rw [if_pos z, decide_eq_true z]; rfl
  · rw [if_neg z, decide_eq_false z, ite_1]; rfl
theorem otO_b {a : Nat → Nat → Int32} {p o : Nat} : otO a p o = ((decide (opW a p o = 10) || decide (opW a p o = 11)) = true) := by
  unfold otO
  rw [Bool.or_eq_true, decide_eq_true_eq, decide_eq_true_eq]
/-- what stands while the reference finds -/
def iqF (a : Nat → Nat → Int32) (p : Nat) (S : sF) : Prop := lowF a p S ∧ okF a p S ∧ S.1 0 = true ∧ le_v (inV a p) (S.2 0)
theorem stepQ_R {k : Nat} {v : Nat → Int32} {S T : sF} {u u' : Bool} (h : stepQ k v S u T u') : (∀ j, j < 17 → T.1 j = (jnF S k v).1 j) ∧ ∀ j i, j < 17 → i < 9 → T.2 j i = (jnF S k v).2 j i := ⟨h.1, h.2.1⟩
theorem stepQ_iq {a : Nat → Nat → Int32} {p : Nat} (wf : wfA a) (hp : p < 3) {S T : sF} {o : Nat} {b u u' : Bool} {v : Nat → Int32} (ho : o < onA a p) (h13 : ¬ opW a p o = 13) (hb : b = true → otO a p o) (hSo : S.1 o = true)
    (h : stepQ (nxO a p o b) v S u T u') (hv : ∀ i, i < 9 → v i = trF a p o (bN b) (S.2 o) i) (iq : iqF a p S) : iqF a p T ∧ htF T ≤ htF S ∧ (u' = true → u = true ∨ htF T < htF S) ∧ (u' = false → u = false ∧ eqF S T ∧ edF a p T o b) := by
  have h16 := (wf.2.1 p hp).2.1
  obtain ⟨i1, i2, i3, i4⟩ := iq
  obtain ⟨h1, h2, h3⟩ := h
  have ok := (wf.2.1 p hp).2.2 o ho
  have n17 : nxO a p o b < 17 := by have := nxO_le (a := a) (p := p) (o := o) (b := b); omega
  have up := jnF_up (S := S) (k := nxO a p o b) (v := v)
  have bw : bN b < 2 := by have := bN_le b; omega
  have low := low_jn wf hp i1 ho hSo h13 hb hv
  have okj := okF_jn i2 (k := nxO a p o b) (okV_e hv (okV_tr wf hp ho bw (i2 o (by omega) hSo)))
  refine ⟨⟨fun U hU j hj hT => ?_, fun j hj hT => ?_, ?_, fun i hi => ?_⟩, ?_, fun hu => ?_, fun hu => ?_⟩
  · rw [h1 j hj] at hT
    exact ⟨(low U hU j hj hT).1, fun i hi => by rw [h2 j i hj hi]; exact (low U hU j hj hT).2 i hi⟩
  · exact okV_e (fun i hi => h2 j i hj hi) (okj j hj (by rw [← h1 j hj]; exact hT))
  · rw [h1 0 (by decide)]; exact (up 0 (by decide) i3).1
  · rw [h2 0 i (by decide) hi]; exact le9_t (i4 i hi) ((up 0 (by decide) i3).2 i hi)
  · have e : htF T = htF (jnF S (nxO a p o b) v) := htF_same (fun j hj => h1 j hj) (fun j i hj hi _ => h2 j i hj hi)
    rw [e]
    cases ed : dfF S (nxO a p o b) v with
    | true => exact Nat.le_of_lt (htF_jn n17 ed)
    | false =>
      obtain ⟨e1, e2⟩ := dfF_same ed
      exact Nat.le_of_eq (htF_same (fun j _ => e1 j) (fun j i _ hi _ => e2 j i hi))
  · rw [h3] at hu
    cases u with
    | true => exact Or.inl rfl
    | false =>
      rw [Bool.false_or] at hu
      have e : htF T = htF (jnF S (nxO a p o b) v) := htF_same (fun j hj => h1 j hj) (fun j i hj hi _ => h2 j i hj hi)
      rw [e]
      exact Or.inr (htF_jn n17 hu)
  · rw [h3, Bool.or_eq_false_iff] at hu
    obtain ⟨e1, e2⟩ := dfF_same hu.2
    have eq : eqF S T := fun k hk => ⟨by rw [h1 k hk, e1 k], fun _ i hi => by rw [h2 k i hk hi, e2 k i hi]⟩
    refine ⟨hu.1, eq, ?_, fun i hi => ?_⟩
    · rw [h1 _ n17]; exact (jnF_in).1
    · have t1 : le9 i (trF a p o (bN b) (T.2 o) i) (trF a p o (bN b) (S.2 o) i) := trF_m ok (fun j hj => by rw [← (eq o (by omega)).2 hSo j hj]; exact le9_r _ _) i hi
      rw [h2 _ i n17 hi]
      rw [← hv i hi] at t1
      exact le9_t t1 ((jnF_in (S := S)).2 i hi)
theorem eqF_t {S T U : sF} (h : eqF S T) (h2 : eqF T U) : eqF S U := fun k hk => ⟨(h k hk).1.trans (h2 k hk).1, fun hs i hi => ((h k hk).2 hs i hi).trans ((h2 k hk).2 ((h k hk).1 ▸ hs) i hi)⟩
theorem eqF_r (S : sF) : eqF S S := fun _ _ => ⟨rfl, fun _ _ _ => rfl⟩
theorem edF_e {a : Nat → Nat → Int32} {p o : Nat} {b : Bool} {S T : sF} (ok : okO (opW a p o) (opX a p o) (opY a p o) = true) (hn : onA a p ≤ 16) (ho : o < 17) (hS : S.1 o = true) (e : eqF S T) (h : edF a p S o b) : edF a p T o b := by
  have n17 : nxO a p o b < 17 := by have := nxO_le (a := a) (p := p) (o := o) (b := b); omega
  refine ⟨by rw [← (e _ n17).1]; exact h.1, fun i hi => ?_⟩
  have t1 : le9 i (trF a p o (bN b) (T.2 o) i) (trF a p o (bN b) (S.2 o) i) := trF_m ok (fun j hj => by rw [← (e o ho).2 hS j hj]; exact le9_r _ _) i hi
  rw [← (e _ n17).2 h.1 i hi]
  exact le9_t t1 (h.2 i hi)
theorem clF_e {a : Nat → Nat → Int32} {p o : Nat} {S T : sF} (ok : okO (opW a p o) (opX a p o) (opY a p o) = true) (hn : onA a p ≤ 16) (ho : o < 17) (e : eqF S T) (h : clF a p S o) : clF a p T o := by
  intro hT h13
  have hS : S.1 o = true := by rw [(e o ho).1]; exact hT
  obtain ⟨h1, h2⟩ := h hS h13
  exact ⟨edF_e ok hn ho hS e h1, fun z => edF_e ok hn ho hS e (h2 z)⟩
/-- an op of the reference's round -/
theorem P_mOne {sc : Nat × (Nat → Int32)} {a : Nat → Nat → Int32} {p : Nat} (wf : wfA a) (hp : p < 3) {o : Nat} (ho : o < onA a p) {N : sm_M} {u : Bool} (r : cr a N) (hu : N.1 10 0 0 18 = bI u) (iq : iqF a p (fR N p)) :
    ∃ N' u', dn sc kModel_finds 13 [.inr (.inr (10, 0, 0)), .inl (nI p), .inl (nI o)] [] N = dn sc kModel_finds 13 [.inr (.inr (10, 0, 0)), .inl (nI p), .inl (nI (o + 1))] [] N' ∧ frS (s10p p) N N' ∧ N'.1 10 0 0 18 = bI u' ∧ iqF a p (fR N' p) ∧
      htF (fR N' p) ≤ htF (fR N p) ∧ (u' = true → u = true ∨ htF (fR N' p) < htF (fR N p)) ∧ (u' = false → u = false ∧ eqF (fR N p) (fR N' p) ∧ clF a p (fR N' p) o) := by
  have h16 := (wf.2.1 p hp).2.1
  have ok := (wf.2.1 p hp).2.2 o ho
  rw [E_Model_finds_13, i_ib hp (by decide), if_pos rfl, i_cl (show p < 2147483648 by omega), cr_n wf r hp, if_pos (by rw [i_lt (by omega) (by omega)]; exact ho), show (17 : Int32) = nI 17 from rfl, i_mul, nI_add, i_ib (show 17 * p + o < 51 by omega) (by decide), if_pos rfl, i_cl (show 17 * p + o < 2147483648 by omega), nI_1]
  by_cases hc : N.1 10 0 15 (17 * p + o) = 0
  · rw [if_pos hc]
    refine ⟨N, u, rfl, frS_r, hu, iq, Nat.le_refl _, fun h => Or.inl h, fun h => ⟨h, eqF_r _, fun hT => ?_⟩⟩
    rw [fR_1, decide_eq_true hc] at hT
    cases hT
  rw [if_neg hc, P_mStop wf r hp (by omega), r1_s, decide_eq_true ho, Bool.true_and]
  by_cases h13 : opW a p o = 13
  · rw [decide_eq_true h13, if_neg (show ¬ bI true = 0 by decide)]
    exact ⟨N, u, rfl, frS_r, hu, iq, Nat.le_refl _, fun h => Or.inl h, fun h => ⟨h, eqF_r _, fun _ z => absurd h13 z⟩⟩
  rw [decide_eq_false h13, if_pos (show bI false = 0 from rfl)]
  have hSo : (fR N p).1 o = true := by rw [fR_1, decide_eq_false hc]; rfl
  obtain ⟨N1, g1, g2, u1, v, g3, g4, g5⟩ := P_mGoes (sc := sc) (b := false) wf r hp ho (iq.2.1 o (by omega) hSo) (fun z => nomatch z) hu
  obtain ⟨q1, q2, q3, q4⟩ := stepQ_iq wf hp ho h13 (b := false) (fun z => nomatch z) hSo g5 g4 iq
  have r1 := cr_f (frS_w g2 s10p_f) r
  rw [show dn sc kModel_goesOn 0 [.inr (.inr (10, 0, 0)), .inl (nI p), .inl (nI o), .inl 0] [] N = _ from g1, r0_s, P_mOther r1 hp (by omega), r1_s]
  by_cases hot : otO a p o
  · rw [otO_b.mp hot, if_neg (by decide)]
    have hSo1 : (fR N1 p).1 o = true := by
      rw [g5.1 o (by omega)]
      exact (jnF_up o (by omega) hSo).1
    obtain ⟨N2, k1, k2, u2, w, k3, k4, k5⟩ := P_mGoes (sc := sc) (b := true) wf r1 hp ho (q1.2.1 o (by omega) hSo1) (fun _ => hot) g3
    obtain ⟨w1, w2, w3, w4⟩ := stepQ_iq wf hp ho h13 (b := true) (fun _ => hot) hSo1 k5 k4 q1
    refine ⟨N2, u2, ?_, frS_t g2 k2, k3, w1, Nat.le_trans w2 q2, fun h => ?_, fun h => ?_⟩
    · rw [show dn sc kModel_goesOn 0 [.inr (.inr (10, 0, 0)), .inl (nI p), .inl (nI o), .inl 1] [] N1 = _ from k1, r0_s]
    · rcases w3 h with z | z
      · rcases q3 z with y | y
        · exact Or.inl y
        · exact Or.inr (by omega)
      · exact Or.inr (by omega)
    · obtain ⟨z1, z2, z3⟩ := w4 h
      obtain ⟨y1, y2, y3⟩ := q4 z1
      exact ⟨y1, eqF_t y2 z2, fun _ _ => ⟨edF_e ok h16 (by omega) hSo1 z2 y3, fun _ => z3⟩⟩
  · have : (decide (opW a p o = 10) || decide (opW a p o = 11)) = false := by
      cases h : (decide (opW a p o = 10) || decide (opW a p o = 11)) with
      | true => exact absurd (otO_b.mpr h) hot
      | false => rfl
    rw [this, if_pos (show bI false = 0 from rfl)]
    refine ⟨N1, u1, rfl, g2, g3, q1, q2, q3, fun h => ?_⟩
    obtain ⟨y1, y2, y3⟩ := q4 h
    exact ⟨y1, y2, fun _ _ => ⟨y3, fun z => absurd z hot⟩⟩
theorem P_m13 {sc : Nat × (Nat → Int32)} {a : Nat → Nat → Int32} {p : Nat} (wf : wfA a) (hp : p < 3) : ∀ k i N u, i + k = onA a p → cr a N → N.1 10 0 0 18 = bI u → iqF a p (fR N p) →
    ∃ N' u', dn sc kModel_finds 13 [.inr (.inr (10, 0, 0)), .inl (nI p), .inl (nI i)] [] N = dn sc kModel_finds 11 [.inr (.inr (10, 0, 0)), .inl (nI p)] [] N' ∧ frS (s10p p) N N' ∧ N'.1 10 0 0 18 = bI u' ∧ iqF a p (fR N' p) ∧
      htF (fR N' p) ≤ htF (fR N p) ∧ (u' = true → u = true ∨ htF (fR N' p) < htF (fR N p)) ∧ (u' = false → u = false ∧ eqF (fR N p) (fR N' p) ∧ ∀ o, i ≤ o → o < onA a p → clF a p (fR N' p) o) := by
  have h16 := (wf.2.1 p hp).2.1
  intro k
  induction k with
  | zero =>
    intro i N u hi r hu iq
    refine ⟨N, u, ?_, frS_r, hu, iq, Nat.le_refl _, fun h => Or.inl h, fun h => ⟨h, eqF_r _, fun o h1 h2 => by omega⟩⟩
    rw [E_Model_finds_13, i_ib hp (by decide), if_pos rfl, i_cl (show p < 2147483648 by omega), cr_n wf r hp, if_neg (by rw [i_lt (by omega) (by omega)]; omega)]
  | succ k ih =>
    intro i N u hi r hu iq
    obtain ⟨N1, u1, a1, a2, a3, a4, a5, a6, a7⟩ := P_mOne (sc := sc) wf hp (show i < onA a p by omega) r hu iq
    have r1 := cr_f (frS_w a2 s10p_f) r
    obtain ⟨N2, u2, b1, b2, b3, b4, b5, b6, b7⟩ := ih (i + 1) N1 u1 (by omega) r1 a3 a4
    refine ⟨N2, u2, a1.trans b1, frS_t a2 b2, b3, b4, Nat.le_trans b5 a5, fun h => ?_, fun h => ?_⟩
    · rcases b6 h with z | z
      · rcases a6 z with y | y
        · exact Or.inl y
        · exact Or.inr (by omega)
      · exact Or.inr (by omega)
    · obtain ⟨z1, z2, z3⟩ := b7 h
      obtain ⟨y1, y2, y3⟩ := a7 z1
      refine ⟨y1, eqF_t y2 z2, fun o h1 h2 => ?_⟩
      by_cases z : o = i
      · subst z
        exact clF_e ((wf.2.1 p hp).2.2 o h2) h16 (by omega) z2 y3
      · exact z3 o (by omega) h2
theorem fR_18 {N : sm_M} {p : Nat} {x : Int32} : fR (sm_u N 10 0 0 18 x) p = fR N p := by
  unfold fR
  refine Prod.ext ?_ ?_
  · funext k
    dsimp only
    rw [u_1, if_neg (by omega)]
  · funext k i
    dsimp only
    rw [u_1, if_neg (by omega)]
theorem P_m11 {sc : Nat × (Nat → Int32)} {a : Nat → Nat → Int32} {p : Nat} (wf : wfA a) (hp : p < 3) : ∀ m N, htF (fR N p) ≤ m → cr a N → N.1 10 0 0 18 = 1 → iqF a p (fR N p) →
    ∃ N', dn sc kModel_finds 11 [.inr (.inr (10, 0, 0)), .inl (nI p)] [] N = some (0, .inl 0, N') ∧ frS (s10p p) N N' ∧ N'.1 10 0 0 18 = 0 ∧ iqF a p (fR N' p) ∧ ∀ o, o < onA a p → clF a p (fR N' p) o := by
  intro m
  induction m with
  | zero =>
    intro N hm r hu iq
    have f0 : frS (s10p p) N (sm_u N 10 0 0 18 0) := frS_u (by unfold s10p; omega)
    obtain ⟨N1, u1, b1, b2, b3, b4, b5, b6, b7⟩ := P_m13 (sc := sc) wf hp (onA a p) 0 (sm_u N 10 0 0 18 0) false (by omega) (cr_f (frS_w f0 s10p_f) r) (by rw [u_1, if_pos ⟨rfl, rfl, rfl, rfl⟩]; rfl) (by rw [fR_18]; exact iq)
    rw [fR_18] at b5 b6 b7
    have e11 : dn sc kModel_finds 11 [.inr (.inr (10, 0, 0)), .inl (nI p)] [] N = dn sc kModel_finds 13 [.inr (.inr (10, 0, 0)), .inl (nI p), .inl 0] [] (sm_u N 10 0 0 18 0) := by rw [E_Model_finds_11, hu, if_neg (by decide)]
    cases hu1 : u1 with
    | true =>
      rcases b6 hu1 with z | z
      · cases z
      · omega
    | false =>
      refine ⟨N1, ?_, frS_t f0 b2, by rw [b3, hu1]; rfl, b4, fun o ho => (b7 hu1).2.2 o (by omega) ho⟩
      refine e11.trans (b1.trans ?_)
      rw [E_Model_finds_11, b3, hu1]; exact if_pos rfl
  | succ m ih =>
    intro N hm r hu iq
    have f0 : frS (s10p p) N (sm_u N 10 0 0 18 0) := frS_u (by unfold s10p; omega)
    obtain ⟨N1, u1, b1, b2, b3, b4, b5, b6, b7⟩ := P_m13 (sc := sc) wf hp (onA a p) 0 (sm_u N 10 0 0 18 0) false (by omega) (cr_f (frS_w f0 s10p_f) r) (by rw [u_1, if_pos ⟨rfl, rfl, rfl, rfl⟩]; rfl) (by rw [fR_18]; exact iq)
    rw [fR_18] at b5 b6 b7
    have e11 : dn sc kModel_finds 11 [.inr (.inr (10, 0, 0)), .inl (nI p)] [] N = dn sc kModel_finds 13 [.inr (.inr (10, 0, 0)), .inl (nI p), .inl 0] [] (sm_u N 10 0 0 18 0) := by rw [E_Model_finds_11, hu, if_neg (by decide)]
    cases hu1 : u1 with
    | true =>
      rcases b6 hu1 with z | z
      · cases z
      · obtain ⟨N2, c1, c2, c3, c4, c5⟩ := ih N1 (by omega) (cr_f (frS_w (frS_t f0 b2) s10p_f) r) (by rw [b3, hu1]; rfl) b4
        exact ⟨N2, e11.trans (b1.trans c1), frS_t f0 (frS_t b2 c2), c3, c4, c5⟩
    | false =>
      refine ⟨N1, ?_, frS_t f0 b2, by rw [b3, hu1]; rfl, b4, fun o ho => (b7 hu1).2.2 o (by omega) ho⟩
      refine e11.trans (b1.trans ?_)
      rw [E_Model_finds_11, b3, hu1]; exact if_pos rfl
theorem P_mf1 {sc : Nat × (Nat → Int32)} {M : sm_M} {p : Nat} (hp : p < 3) : ∀ n i, i + n = 17 → dn sc kModel_finds 1 [.inr (.inr (10, 0, 0)), .inl (nI p), .inl (nI i)] [] (blk M 10 0 15 (17 * p) i (fun _ => 0)) = dn sc kModel_finds 4 [.inr (.inr (10, 0, 0)), .inl (nI p), .inl 0] [] (blk M 10 0 15 (17 * p) 17 (fun _ => 0)) := by
  intro n
  induction n with
  | zero =>
    intro i hi
    obtain rfl : i = 17 := by omega
    rw [E_Model_finds_1, if_neg (by decide)]
  | succ n ih =>
    intro i hi
    have e1 : blk M 10 0 15 (17 * p) (i + 1) (fun _ => 0) = sm_u (blk M 10 0 15 (17 * p) i (fun _ => 0)) 10 0 15 (17 * p + i) 0 := by rw [← blk_s]
    rw [E_Model_finds_1, show (17 : Int32) = nI 17 from rfl, if_pos (by rw [i_lt (by omega) (by decide)]; omega), i_mul, nI_add, i_ib (show 17 * p + i < 51 by omega) (by decide), if_pos rfl, i_cl (by omega), nI_1, ← ih (i + 1) (by omega), e1]
    rfl
theorem P_mf4 {sc : Nat × (Nat → Int32)} {a : Nat → Nat → Int32} {M : sm_M} {p : Nat} (wf : wfA a) (r : cr a M) (hp : p < 3) : ∀ n i, i + n = 9 → dn sc kModel_finds 4 [.inr (.inr (10, 0, 0)), .inl (nI p), .inl (nI i)] [] (blk M 10 0 18 0 i (inV a p)) = sm_r0 (dn sc kModel_comesTo 0 [.inr (.inr (10, 0, 0)), .inl (nI p), .inl 0] [] (blk M 10 0 18 0 9 (inV a p))) (fun M1 => dn sc kModel_finds 11 [.inr (.inr (10, 0, 0)), .inl (nI p)] [] (sm_u M1 10 0 0 18 1)) := by
  intro n
  induction n with
  | zero =>
    intro i hi
    obtain rfl : i = 9 := by omega
    rw [E_Model_finds_4, if_neg (by decide)]
  | succ n ih =>
    intro i hi
    have e1 : blk M 10 0 18 0 (i + 1) (inV a p) = sm_u (blk M 10 0 18 0 i (inV a p)) 10 0 18 i (inV a p i) := by rw [← blk_s, Nat.zero_add]
    have f1 : frS s10f M (blk M 10 0 18 0 i (inV a p)) := ⟨rfl, fun c p' j i' h => by unfold s10f at h; rw [blk_no (by omega)]⟩
    have r1 := cr_f f1 r
    rw [E_Model_finds_4, show (9 : Int32) = nI 9 from rfl, if_pos (by rw [i_lt (by omega) (by decide)]; omega), i_ib (show i < 9 by omega) (by decide)]
    simp only [if_true]
    rw [i_cl (by omega), nI_1, ← ih (i + 1) (by omega), e1, show inV a p i = (if i < 6 ∨ ofA a (i - 6) p = true then 0 else -1) from rfl]
    by_cases q : i < 6
    · rw [show (6 : Int32) = nI 6 from rfl, if_pos (by rw [i_lt (by omega) (by decide)]; exact q), if_pos (Or.inl q)]
    · have e6 : nI i - 6 = nI (i - 6) := by
        obtain ⟨k, rfl⟩ : ∃ k, i = 6 + k := ⟨i - 6, by omega⟩
        rw [Nat.add_sub_cancel_left]
        have : ∀ k, k < 3 → nI (6 + k) - 6 = nI k := by decide
        exact this k (by omega)
      rw [e6, show (6 : Int32) = nI 6 from rfl, if_neg (by rw [i_lt (by omega) (by decide)]; exact q), P_mIsOf wf r1 (show i - 6 < 3 by omega) hp, r1_s]
      cases ofA a (i - 6) p with
      | false => rw [if_pos (show bI false = 0 from rfl), if_neg (fun z => z.elim q (by decide))]
      | true => rw [if_neg (show ¬ bI true = 0 by decide), if_pos (Or.inr rfl)]
theorem P_mFinds {sc : Nat × (Nat → Int32)} {a : Nat → Nat → Int32} {N : sm_M} {p : Nat} (wf : wfA a) (r : cr a N) (hp : p < 3) (hu : N.1 10 0 0 18 = 0) :
    ∃ N', dn sc kModel_finds 0 [.inr (.inr (10, 0, 0)), .inl (nI p)] [] N = some (0, .inl 0, N') ∧ frS (s10p p) N N' ∧ N'.1 10 0 0 18 = 0 ∧ solF a p (fR N' p) ∧ lowF a p (fR N' p) ∧ okF a p (fR N' p) := by
  have h1 := P_mf1 (sc := sc) (M := N) hp 17 0 rfl
  rw [blk_0] at h1
  have F1 : frS (s10p p) N (blk N 10 0 15 (17 * p) 17 (fun _ => 0)) := ⟨rfl, fun c p' j i h => by unfold s10p at h; rw [blk_1, if_neg (fun z => h (by omega))]⟩
  have r1 := cr_f (frS_w F1 s10p_f) r
  have h4 := P_mf4 (sc := sc) wf r1 hp 9 0 rfl
  rw [blk_0] at h4
  have F2 : frS (s10p p) N (blk (blk N 10 0 15 (17 * p) 17 (fun _ => 0)) 10 0 18 0 9 (inV a p)) := frS_t F1 ⟨rfl, fun c p' j i h => by unfold s10p at h; rw [blk_no (by omega)]⟩
  have r2 := cr_f (frS_w F2 s10p_f) r
  have hc0 : ∀ k, k < 17 → (fR (blk (blk N 10 0 15 (17 * p) 17 (fun _ => 0)) 10 0 18 0 9 (inV a p)) p).1 k = false := by
    intro k hk
    rw [fR_1, blk_no (by omega), blk_in hk]; rfl
  have hnw : ∀ i, i < 9 → nwR (blk (blk N 10 0 15 (17 * p) 17 (fun _ => 0)) 10 0 18 0 9 (inV a p)) i = inV a p i := by
    intro i hi
    have := blk_in (M := blk N 10 0 15 (17 * p) 17 (fun _ => 0)) (c := 10) (p := 0) (j := 18) (base := 0) (g := inV a p) hi
    rw [Nat.zero_add] at this
    exact this
  have hu2 : (blk (blk N 10 0 15 (17 * p) 17 (fun _ => 0)) 10 0 18 0 9 (inV a p)).1 10 0 0 18 = bI false := by
    rw [blk_no (by omega), blk_no (by omega), hu]; rfl
  obtain ⟨N1, c1, c2, u', c3, R1, R2, R3⟩ := P_mComes (sc := sc) hp (show 0 < 17 by decide) hu2
  have inn := jnF_in (S := fR (blk (blk N 10 0 15 (17 * p) 17 (fun _ => 0)) 10 0 18 0 9 (inV a p)) p) (k := 0) (v := nwR (blk (blk N 10 0 15 (17 * p) 17 (fun _ => 0)) 10 0 18 0 9 (inV a p)))
  have low := low_0 (a := a) (p := p) hc0 hnw
  have okj := okF_jn (a := a) (p := p) (S := fR (blk (blk N 10 0 15 (17 * p) 17 (fun _ => 0)) 10 0 18 0 9 (inV a p)) p) (fun k hk h => by rw [hc0 k hk] at h; cases h) (k := 0) (okV_e hnw (okV_in wf))
  have iq : iqF a p (fR N1 p) := by
    refine ⟨fun U hU j hj hT => ?_, fun j hj hT => ?_, ?_, fun i hi => ?_⟩
    · rw [R1 j hj] at hT
      exact ⟨(low U hU j hj hT).1, fun i hi => by rw [R2 j i hj hi]; exact (low U hU j hj hT).2 i hi⟩
    · exact okV_e (fun i hi => R2 j i hj hi) (okj j hj (by rw [← R1 j hj]; exact hT))
    · rw [R1 0 (by decide)]; exact inn.1
    · rw [R2 0 i (by decide) hi, ← hnw i hi]; exact inn.2 i hi
  have F3 : frS (s10p p) N (sm_u N1 10 0 0 18 1) := frS_t F2 (frS_t c2 (frS_u (by unfold s10p; omega)))
  obtain ⟨N2, d1, d2, d3, d4, d5⟩ := P_m11 (sc := sc) wf hp 476 (sm_u N1 10 0 0 18 1) (htF_le _) (cr_f (frS_w F3 s10p_f) r) (by rw [u_1, if_pos ⟨rfl, rfl, rfl, rfl⟩]) (by rw [fR_18]; exact iq)
  refine ⟨N2, ?_, frS_t F3 d2, d3, ⟨d4.2.2.1, d4.2.2.2, d5⟩, d4.1, d4.2.1⟩
  refine (E_Model_finds_0 sc N (nI p)).trans (Eq.trans h1 (Eq.trans h4 ?_))
  rw [show dn sc kModel_comesTo 0 [.inr (.inr (10, 0, 0)), .inl (nI p), .inl 0] [] (blk (blk N 10 0 15 (17 * p) 17 (fun _ => 0)) 10 0 18 0 9 (inV a p)) = _ from c1, r0_s]
  exact d1
