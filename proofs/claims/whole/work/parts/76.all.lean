/-! LEVEL B: the run: all processes together; messages, steps and spots are written -/
def jM (c _q j i : Nat) : Prop := c = 7 ∨ (c = 0 ∧ (j = 6 ∨ (j = 0 ∧ 7 ≤ i)))
def jN (c q j i : Nat) : Prop := c = 10 ∧ q = 0 ∧ ((26 ≤ j ∧ j ≤ 28) ∨ (35 ≤ j ∧ j ≤ 38) ∨ (j = 0 ∧ ¬ (38 ≤ i ∧ i ≤ 40)))
theorem Q_j {p : Nat} {M N M' N' : sm_M} {mk T b tc : Nat} (q : Q p M N mk T b tc) (hM : frS jM M M') (hN : frS jN N N') (ri : RI N') : Q p M' N' mk T b tc := by
  obtain ⟨q1, q2, q3, q4, q5, q6, q7⟩ := q
  refine ⟨PV_o q1 ?_ ?_ ?_ ?_ ?_ (fun j h1 h2 => aR_fr hN (fun v hv z => by unfold jN at z; omega)), RD_fr q2 (hM.2 6 0 0 1 (by unfold jM; omega)) (fun i => hM.2 6 0 1 i (by unfold jM; omega)) (hN.2 10 0 0 40 (by unfold jN; omega)) (fun i => hN.2 10 0 42 i (by unfold jN; omega)), ri, (hM.2 6 0 0 2 (by unfold jM; omega)).trans q4, (hN.2 10 0 0 39 (by unfold jN; omega)).trans q5, (hN.2 10 0 0 38 (by unfold jN; omega)).trans q6, (hM.2 6 0 0 3 (by unfold jM; omega)).trans q7⟩
  · funext v; exact hM.2 0 p 2 v (by unfold jM; omega)
  · funext v; exact hM.2 0 p 3 v (by unfold jM; omega)
  · funext v; exact hM.2 0 p 4 v (by unfold jM; omega)
  · funext v; exact hM.2 0 p 5 v (by unfold jM; omega)
  · funext v; unfold lpC; rw [hM.2 0 p 0 6 (by unfold jM; omega)]
theorem RI_j {N N' : sm_M} (r : RI N) (h : frS jN N N') (hw : ∀ k i x, k < 6 → Wt N' k i x → Wt N k i x) : RI N' := by
  obtain ⟨r1, r2, r3⟩ := r
  have e : ∀ j p, 29 ≤ j → j ≤ 34 → aR N' j p = aR N j p := fun j p h1 h2 => aR_fr h (fun v hv z => by unfold jN at z; omega)
  refine ⟨fun p q v w hp hq hv hw' => ?_, fun p v k i hp hv hk => ?_, fun k i k' i' x hk hk' hx h1 h2 => r3 k i k' i' x hk hk' hx (hw k i x hk h1) (hw k' i' x hk' h2)⟩
  · rw [e 29 p (by decide) (by decide), e 29 q (by decide) (by decide), e 30 p (by decide) (by decide), e 30 q (by decide) (by decide)]
    exact r1 p q v w hp hq hv hw'
  · rw [e 29 p (by decide) (by decide), e 30 p (by decide) (by decide)]
    exact fun h1 h2 => r2 p v k i hp hv hk h1 (hw k i _ hk h2)
def QA (M N : sm_M) (mk T b tc : Nat) : Prop := ∀ q, q < 3 → Q q M N mk T b tc
theorem QA_j {M N M' N' : sm_M} {mk T b tc : Nat} (q : QA M N mk T b tc) (hM : frS jM M M') (hN : frS jN N N') (ri : RI N') : QA M' N' mk T b tc := fun p hp => Q_j (q p hp) hM hN ri
theorem QA_op {p : Nat} {M N M' N' : sm_M} {mk T b tc mk' b' tc' : Nat} (h : QA M N mk T b tc) (q : Q p M' N' mk' T b' tc') (hM : frS (fM p) M M') (hN : frS (fN p) N N') (h1 : mk ≤ mk') (h2 : b ≤ b') (h3 : tc ≤ tc') : QA M' N' mk' T b' tc' := by
  intro r hr
  by_cases z : r = p
  · rw [z]; exact q
  · obtain ⟨q1, _⟩ := h r hr
    have pv : PV r M' N' mk b tc := by
      refine PV_o q1 ?_ ?_ ?_ ?_ ?_ (fun j g1 g2 => fN_q hN z (by omega) (by omega))
      · funext v; exact hM.2 0 r 2 v (by unfold fM; omega)
      · funext v; exact hM.2 0 r 3 v (by unfold fM; omega)
      · funext v; exact hM.2 0 r 4 v (by unfold fM; omega)
      · funext v; exact hM.2 0 r 5 v (by unfold fM; omega)
      · funext v; unfold lpC; rw [hM.2 0 r 0 6 (by unfold fM; omega)]
    exact ⟨⟨pv.1, VR_mk pv.2 h1 h2 h3⟩, q.2⟩
theorem F_new {M N : sm_M} {mk T b tc : Nat} (q : QA M N mk T b tc) (rm : RM M N mk) (hmk : mk < 2000000) : Fresh N (nI mk) := by
  refine Q_new (q 0 (by decide)) hmk (fun r v hr hv g => ?_) (fun k i x hk w => ?_)
  · exact (q r hr).1.2.2.1 v hv (by rw [g]; decide)
  · obtain ⟨⟨m, m1, m2, m3⟩, m4⟩ := w
    obtain ⟨m', g1, g2, g3, g4⟩ := rm k hk
    have : m = m' := by
      have e := m2.symm.trans g3
      rw [i_eq (by omega) (by omega)] at e
      exact e
    obtain ⟨e1, e2⟩ := g4 i (by omega)
    rw [← m4, ← e1]
    rcases e2 with ⟨y, n, y1, _, y2, _⟩ | ⟨n, _, y2, _⟩
    · exact Or.inr ⟨y, y1, y2⟩
    · exact Or.inl y2
theorem mgR_mk {v d s : Int32} {mk mk' : Nat} (h : mgR v d s mk) (hm : mk ≤ mk') : mgR v d s mk' := h.imp (fun ⟨y, n, y1, z⟩ => ⟨y, n, by omega, z⟩) id
theorem RM_fr {M N M' N' : sm_M} {mk mk' : Nat} (r : RM M N mk) (hM : ∀ j i, M'.1 7 0 j i = M.1 7 0 j i) (hN : ∀ j i, 36 ≤ j → j ≤ 38 → N'.1 10 0 j i = N.1 10 0 j i) (hm : mk ≤ mk') : RM M' N' mk' := by
  intro k hk
  obtain ⟨m, m1, m2, m3, m4⟩ := r k hk
  refine ⟨m, m1, (hM 1 k).trans m2, (hN 36 k (by decide) (by decide)).trans m3, fun i hi => ?_⟩
  rw [hM, hM, hN 37 _ (by decide) (by decide), hN 38 _ (by decide) (by decide)]
  exact ⟨(m4 i hi).1, mgR_mk (m4 i hi).2 hm⟩
def psR (N : sm_M) (k m : Nat) (v s : Int32) : sm_M := sm_u (sm_u (sm_u N 10 0 37 (2 * k + m) v) 10 0 38 (2 * k + m) s) 10 0 36 k (nI (m + 1))
theorem psR_fr {N : sm_M} {k m : Nat} {v s : Int32} : frS jN N (psR N k m v s) := frS_t (frS_u (by unfold jN; omega)) (frS_t (frS_u (by unfold jN; omega)) (frS_u (by unfold jN; omega)))
theorem adC_fr {M : sm_M} {k m : Nat} {v d : Int32} : frS jM M (adC M k m v d) := frS_t (frS_u (Or.inl rfl)) (frS_t (frS_u (Or.inl rfl)) (frS_u (Or.inl rfl)))
theorem u_at {M : sm_M} {c p j k i : Nat} {x : Int32} : (sm_u M c p j k x).1 c p j i = if i = k then x else M.1 c p j i := by
  by_cases z : i = k
  · rw [z, u_hit, if_pos rfl]
  · rw [u_mis (by omega), if_neg z]
theorem ad_1 {M : sm_M} {k m i : Nat} {v d : Int32} : (adC M k m v d).1 7 0 1 i = if i = k then nI (m + 1) else M.1 7 0 1 i := by
  unfold adC
  rw [u_at, u_mis (by omega), u_mis (by omega)]
theorem ad_2 {M : sm_M} {k m i : Nat} {v d : Int32} : (adC M k m v d).1 7 0 2 i = if i = 2 * k + m then v else M.1 7 0 2 i := by
  unfold adC
  rw [u_mis (by omega), u_mis (by omega), u_at]
theorem ad_3 {M : sm_M} {k m i : Nat} {v d : Int32} : (adC M k m v d).1 7 0 3 i = if i = 2 * k + m then d else M.1 7 0 3 i := by
  unfold adC
  rw [u_mis (by omega), u_at, u_mis (by omega)]
theorem ps_1 {N : sm_M} {k m i : Nat} {v d : Int32} : (psR N k m v d).1 10 0 36 i = if i = k then nI (m + 1) else N.1 10 0 36 i := by
  unfold psR
  rw [u_at, u_mis (by omega), u_mis (by omega)]
theorem ps_2 {N : sm_M} {k m i : Nat} {v d : Int32} : (psR N k m v d).1 10 0 37 i = if i = 2 * k + m then v else N.1 10 0 37 i := by
  unfold psR
  rw [u_mis (by omega), u_mis (by omega), u_at]
theorem ps_3 {N : sm_M} {k m i : Nat} {v d : Int32} : (psR N k m v d).1 10 0 38 i = if i = 2 * k + m then d else N.1 10 0 38 i := by
  unfold psR
  rw [u_mis (by omega), u_at, u_mis (by omega)]
theorem RM_push {M N : sm_M} {mk k m : Nat} {v d s : Int32} (r : RM M N mk) (hk : k < 6) (hm : N.1 10 0 36 k = nI m) (h2 : m < 2) (hg : mgR v d s mk) : RM (adC M k m v d) (psR N k m v s) mk := by
  intro k' hk'
  by_cases z : k' = k
  · subst z
    obtain ⟨m', m1, m2, m3, m4⟩ := r k' hk
    have : m = m' := by
      have e := hm.symm.trans m3
      rw [i_eq (by omega) (by omega)] at e
      exact e
    subst this
    refine ⟨m + 1, by omega, ad_1.trans (if_pos rfl), ps_1.trans (if_pos rfl), fun i hi => ?_⟩
    rw [ad_2, ad_3, ps_2, ps_3]
    by_cases y : i = m
    · rw [y, if_pos rfl, if_pos rfl, if_pos rfl, if_pos rfl]
      exact ⟨rfl, hg⟩
    · have y' : ¬ 2 * k' + i = 2 * k' + m := by omega
      rw [if_neg y', if_neg y', if_neg y', if_neg y']
      exact m4 i (by omega)
  · obtain ⟨m', m1, m2, m3, m4⟩ := r k' hk'
    refine ⟨m', m1, (ad_1.trans (if_neg z)).trans m2, (ps_1.trans (if_neg z)).trans m3, fun i hi => ?_⟩
    have y' : ¬ 2 * k' + i = 2 * k + m := by omega
    rw [ad_2, ad_3, ps_2, ps_3, if_neg y', if_neg y', if_neg y', if_neg y']
    exact m4 i hi
theorem RI_push {N : sm_M} {k m : Nat} {v s : Int32} (r : RI N) (hk : k < 6) (hm : N.1 10 0 36 k = nI m) (h2 : m < 2) (hf : v = -1 ∨ Fresh N v) (hn : ∀ p v', p < 3 → v' < 6 → aR N 29 p v' = 1 → ¬ aR N 30 p v' = -1) : RI (psR N k m v s) := by
  have hw : ∀ k' i x, k' < 6 → Wt (psR N k m v s) k' i x → Wt N k' i x ∨ (k' = k ∧ i = m ∧ x = v) := by
    intro k' i x hk' ⟨⟨m', g1, g2, g3⟩, g4⟩
    unfold psR at g2 g4
    rw [u_mis (by omega), u_mis (by omega)] at g4
    by_cases z : k' = k
    · subst z
      rw [u_hit, i_eq (by omega) (by omega)] at g2
      by_cases y : i = m
      · subst y
        rw [u_hit] at g4
        exact Or.inr ⟨rfl, rfl, g4.symm⟩
      · rw [u_mis (by omega)] at g4
        exact Or.inl ⟨⟨m, by omega, hm, by omega⟩, g4⟩
    · rw [u_mis (by omega), u_mis (by omega), u_mis (by omega)] at g2
      rw [u_mis (by omega)] at g4
      exact Or.inl ⟨⟨m', g1, g2, g3⟩, g4⟩
  obtain ⟨r1, r2, r3⟩ := r
  have e : ∀ j p, 29 ≤ j → j ≤ 34 → aR (psR N k m v s) j p = aR N j p := fun j p h1 h2 => aR_fr psR_fr (fun v hv z => by unfold jN at z; omega)
  refine ⟨fun p q v w hp hq hv hw' => ?_, fun p w k' i hp hv hk' => ?_, fun k1 i1 k2 i2 x hk1 hk2 hx g1 g2 => ?_⟩
  · rw [e 29 p (by decide) (by decide), e 29 q (by decide) (by decide), e 30 p (by decide) (by decide), e 30 q (by decide) (by decide)]
    exact r1 p q v w hp hq hv hw'
  · rw [e 29 p (by decide) (by decide), e 30 p (by decide) (by decide)]
    intro h1 g
    rcases hw k' i _ hk' g with y | ⟨_, _, y⟩
    · exact r2 p w k' i hp hv hk' h1 y
    · rcases hf with z | z
      · exact hn p w hp hv h1 (y.trans z)
      · exact z.1 p w hp hv h1 y
  · rcases hw k1 i1 x hk1 g1 with y1 | ⟨y1, y2, y3⟩
    · rcases hw k2 i2 x hk2 g2 with z1 | ⟨z1, z2, z3⟩
      · exact r3 k1 i1 k2 i2 x hk1 hk2 hx y1 z1
      · rcases hf with f | f
        · exact absurd (z3.trans f) hx
        · exact absurd (z3 ▸ y1) (f.2 k1 i1 hk1)
    · rcases hw k2 i2 x hk2 g2 with z1 | ⟨z1, z2, z3⟩
      · rcases hf with f | f
        · exact absurd (y3.trans f) hx
        · exact absurd (y3 ▸ z1) (f.2 k2 i2 hk2)
      · exact ⟨y1.trans z1.symm, y2.trans z2.symm⟩
def tkR (N : sm_M) (k m : Nat) : sm_M := sm_u (sm_u (sm_u N 10 0 37 (2 * k) (N.1 10 0 37 (2 * k + 1))) 10 0 38 (2 * k) (N.1 10 0 38 (2 * k + 1))) 10 0 36 k (nI (m - 1))
theorem tkR_fr {N : sm_M} {k m : Nat} : frS jN N (tkR N k m) := frS_t (frS_u (by unfold jN; omega)) (frS_t (frS_u (by unfold jN; omega)) (frS_u (by unfold jN; omega)))
theorem rmC_fr {M : sm_M} {k m : Nat} : frS jM M (rmC M k m) := by
  unfold rmC
  split
  · exact frS_t (frS_u (Or.inl rfl)) (frS_t (frS_u (Or.inl rfl)) (frS_u (Or.inl rfl)))
  · exact frS_u (Or.inl rfl)
theorem P_mTakes {sc : Nat × (Nat → Int32)} {N : sm_M} {k m : Nat} (hk : k < 6) (hm : N.1 10 0 36 k = nI m) (h0 : 0 < m) (h2 : m ≤ 2) : dn sc kModel_takes 0 [.inr (.inr (10, 0, 0)), .inl (nI k)] [] N = some (0, .inl (N.1 10 0 38 (2 * k)), tkR N k m) := by
  rw [E_Model_takes_0, i_2m, nI_1, i_ib (show 2 * k < 12 by omega) (by decide), i_ib (show 2 * k + 1 < 12 by omega) (by decide), i_ib hk (by decide)]
  simp only [if_true]
  rw [i_cl (show 2 * k < 2147483648 by omega), i_cl (show 2 * k + 1 < 2147483648 by omega), i_cl (show k < 2147483648 by omega), u_mis (show ¬ (10 = 10 ∧ 0 = 0 ∧ 38 = 37 ∧ 2 * k + 1 = 2 * k) by omega), u_mis (show ¬ (10 = 10 ∧ 0 = 0 ∧ 36 = 38 ∧ k = 2 * k) by omega), u_mis (show ¬ (10 = 10 ∧ 0 = 0 ∧ 36 = 37 ∧ k = 2 * k) by omega), hm]
  rcases (show m = 1 ∨ m = 2 by omega) with rfl | rfl <;> rfl
theorem tk_1 {N : sm_M} {k m i : Nat} : (tkR N k m).1 10 0 36 i = if i = k then nI (m - 1) else N.1 10 0 36 i := by
  unfold tkR
  rw [u_at, u_mis (by omega), u_mis (by omega)]
theorem tk_2 {N : sm_M} {k m i : Nat} : (tkR N k m).1 10 0 37 i = if i = 2 * k then N.1 10 0 37 (2 * k + 1) else N.1 10 0 37 i := by
  unfold tkR
  rw [u_mis (by omega), u_mis (by omega), u_at]
theorem tk_3 {N : sm_M} {k m i : Nat} : (tkR N k m).1 10 0 38 i = if i = 2 * k then N.1 10 0 38 (2 * k + 1) else N.1 10 0 38 i := by
  unfold tkR
  rw [u_mis (by omega), u_at, u_mis (by omega)]
theorem rm_1 {M : sm_M} {k m i : Nat} (hm : m = 1 ∨ m = 2) : (rmC M k m).1 7 0 1 i = if i = k then nI (m - 1) else M.1 7 0 1 i := by
  unfold rmC
  rcases hm with rfl | rfl
  · rw [if_neg (by decide), u_at]; rfl
  · rw [if_pos rfl, u_at, u_mis (by omega), u_mis (by omega)]; rfl
theorem rm_2 {M : sm_M} {k i : Nat} : (rmC M k 2).1 7 0 2 i = if i = 2 * k then M.1 7 0 2 (2 * k + 1) else M.1 7 0 2 i := by
  unfold rmC
  rw [if_pos rfl, u_mis (by omega), u_mis (by omega), u_at]
theorem rm_3 {M : sm_M} {k i : Nat} : (rmC M k 2).1 7 0 3 i = if i = 2 * k then M.1 7 0 3 (2 * k + 1) else M.1 7 0 3 i := by
  unfold rmC
  rw [if_pos rfl, u_mis (by omega), u_at, u_mis (by omega)]
theorem RM_pop {M N : sm_M} {mk k m : Nat} (r : RM M N mk) (hk : k < 6) (hm : N.1 10 0 36 k = nI m) (h0 : 0 < m) (h2 : m ≤ 2) : RM (rmC M k m) (tkR N k m) mk := by
  intro k' hk'
  by_cases z : k' = k
  · subst z
    obtain ⟨m', m1, m2, m3, m4⟩ := r k' hk
    have : m = m' := by
      have e := hm.symm.trans m3
      rw [i_eq (by omega) (by omega)] at e
      exact e
    subst this
    have hm12 : m = 1 ∨ m = 2 := by omega
    refine ⟨m - 1, by omega, (rm_1 hm12).trans (if_pos rfl), tk_1.trans (if_pos rfl), fun i hi => ?_⟩
    obtain rfl : m = 2 := by omega
    obtain rfl : i = 0 := by omega
    rw [Nat.add_zero, rm_2, rm_3, tk_2, tk_3, if_pos rfl, if_pos rfl, if_pos rfl, if_pos rfl]
    exact m4 1 (by decide)
  · obtain ⟨m', m1, m2, m3, m4⟩ := r k' hk'
    have e : ∀ j i, (j = 1 → ¬ i = k) → (¬ j = 1 → ¬ i = 2 * k) → (rmC M k m).1 7 0 j i = M.1 7 0 j i := by
      intro j i g1 g2
      unfold rmC
      split
      · rw [u_mis (fun z => g1 z.2.2.1 z.2.2.2), u_mis (fun z => g2 (by omega) z.2.2.2), u_mis (fun z => g2 (by omega) z.2.2.2)]
      · rw [u_mis (fun z => g1 z.2.2.1 z.2.2.2)]
    refine ⟨m', m1, (e 1 k' (fun _ => z) (by omega)).trans m2, ?_, fun i hi => ?_⟩
    · unfold tkR; rw [u_mis (by omega), u_mis (by omega), u_mis (by omega)]; exact m3
    · rw [e 2 _ (by omega) (by omega), e 3 _ (by omega) (by omega)]
      unfold tkR
      rw [u_mis (by omega), u_mis (by omega), u_mis (by omega), u_mis (by omega), u_mis (by omega), u_mis (by omega)]
      exact m4 i hi
theorem Wt_pop {N : sm_M} {k m k' i : Nat} {x : Int32} (hk' : k' < 6) (hm : N.1 10 0 36 k = nI m) (h0 : 0 < m) (h2 : m ≤ 2) (w : Wt (tkR N k m) k' i x) : (k' = k → Wt N k (i + 1) x) ∧ (¬ k' = k → Wt N k' i x) := by
  obtain ⟨⟨m', g1, g2, g3⟩, g4⟩ := w
  rw [tk_1] at g2
  rw [tk_2] at g4
  refine ⟨fun z => ?_, fun z => ?_⟩
  · subst z
    rw [if_pos rfl, i_eq (by omega) (by omega)] at g2
    obtain rfl : i = 0 := by omega
    rw [if_pos (by omega)] at g4
    exact ⟨⟨m, h2, hm, by omega⟩, g4⟩
  · rw [if_neg z] at g2
    rw [if_neg (by omega)] at g4
    exact ⟨⟨m', g1, g2, g3⟩, g4⟩
theorem RI_pop {N : sm_M} {k m : Nat} (r : RI N) (hk : k < 6) (hm : N.1 10 0 36 k = nI m) (h0 : 0 < m) (h2 : m ≤ 2) : RI (tkR N k m) := by
  obtain ⟨r1, r2, r3⟩ := r
  have e : ∀ j p, 29 ≤ j → j ≤ 34 → aR (tkR N k m) j p = aR N j p := fun j p h1 h2 => aR_fr tkR_fr (fun v hv z => by unfold jN at z; omega)
  refine ⟨fun p q v w hp hq hv hw' => ?_, fun p w k' i hp hv hk' => ?_, fun k1 i1 k2 i2 x hk1 hk2 hx g1 g2 => ?_⟩
  · rw [e 29 p (by decide) (by decide), e 29 q (by decide) (by decide), e 30 p (by decide) (by decide), e 30 q (by decide) (by decide)]
    exact r1 p q v w hp hq hv hw'
  · rw [e 29 p (by decide) (by decide), e 30 p (by decide) (by decide)]
    intro h1 g
    obtain ⟨a1, a2⟩ := Wt_pop hk' hm h0 h2 g
    by_cases z : k' = k
    · exact r2 p w k (i + 1) hp hv hk h1 (a1 z)
    · exact r2 p w k' i hp hv hk' h1 (a2 z)
  · obtain ⟨a1, a2⟩ := Wt_pop hk1 hm h0 h2 g1
    obtain ⟨b1, b2⟩ := Wt_pop hk2 hm h0 h2 g2
    by_cases z1 : k1 = k
    · by_cases z2 : k2 = k
      · have := r3 k (i1 + 1) k (i2 + 1) x hk hk hx (a1 z1) (b1 z2)
        exact ⟨z1.trans z2.symm, by omega⟩
      · have := r3 k (i1 + 1) k2 i2 x hk hk2 hx (a1 z1) (b2 z2)
        exact absurd this.1.symm z2
    · by_cases z2 : k2 = k
      · have := r3 k1 i1 k (i2 + 1) x hk1 hk hx (a2 z1) (b1 z2)
        exact absurd this.1 z1
      · exact r3 k1 i1 k2 i2 x hk1 hk2 hx (a2 z1) (b2 z2)
/-- what came is nowhere any more -/
theorem F_pop {N : sm_M} {k m : Nat} {x : Int32} (r : RI N) (hk : k < 6) (hm : N.1 10 0 36 k = nI m) (h0 : 0 < m) (h2 : m ≤ 2) (hx : N.1 10 0 37 (2 * k) = x) (hn : ¬ x = -1) : Fresh (tkR N k m) x := by
  have e : ∀ j p, 29 ≤ j → j ≤ 34 → aR (tkR N k m) j p = aR N j p := fun j p h1 h2 => aR_fr tkR_fr (fun v hv z => by unfold jN at z; omega)
  have w0 : Wt N k 0 x := ⟨⟨m, h2, hm, h0⟩, hx⟩
  refine ⟨fun q v hq hv g gx => ?_, fun k' i hk' w => ?_⟩
  · rw [e 29 q (by decide) (by decide)] at g
    rw [e 30 q (by decide) (by decide)] at gx
    exact r.2.1 q v k 0 hq hv hk g (gx ▸ w0)
  · obtain ⟨a1, a2⟩ := Wt_pop hk' hm h0 h2 w
    by_cases z : k' = k
    · have := (r.2.2 k (i + 1) k 0 x hk hk hn (a1 z) w0).2
      omega
    · exact z (r.2.2 k' i k 0 x hk' hk hn (a2 z) w0).1
theorem qN_inj {a : Nat → Nat → Int32} {c p c' p' : Nat} (wf : wfA a) (h : ofA a c p = true) (h' : ofA a c' p' = true) (e : qN a c p = qN a c' p') : c = c' ∧ p = p' := by
  obtain ⟨_, _, _, _, _, _, _, g⟩ := of_c wf h
  obtain ⟨_, _, _, _, _, _, _, g'⟩ := of_c wf h'
  unfold qN at e
  have : c = c' := by split at e <;> split at e <;> omega
  subst this
  rcases g with l | ⟨l, r⟩
  · rw [if_pos l] at e
    rcases g' with l' | ⟨l', r'⟩
    · exact ⟨rfl, by omega⟩
    · rw [if_neg l'] at e; omega
  · rw [if_neg l] at e
    rcases g' with l' | ⟨l', r'⟩
    · rw [if_pos l'] at e; omega
    · exact ⟨rfl, by omega⟩
theorem RS_fr {a : Nat → Nat → Int32} {M N M' N' : sm_M} (r : RS a M N) (hM : ∀ p j i, p < 3 → (j = 6 ∨ (j = 0 ∧ 7 ≤ i)) → M'.1 0 p j i = M.1 0 p j i) (hN : ∀ j i, ((26 ≤ j ∧ j ≤ 28) ∨ j = 35) → N'.1 10 0 j i = N.1 10 0 j i) : RS a M' N' := by
  intro p hp
  obtain ⟨h1, h2, h3, h4, h5⟩ := r p hp
  rw [hM p 0 7 hp (by omega), hM p 0 8 hp (by omega), hM p 0 9 hp (by omega), hN 26 p (by omega), hN 27 p (by omega), hN 28 p (by omega)]
  refine ⟨h1, h2, h3, fun c hc => ?_, fun c hc => ?_⟩
  · rw [hM p 6 c hp (by omega)]; exact h4 c hc
  · rw [hM p 6 c hp (by omega), hN 35 _ (by omega)]; exact h5 c hc
theorem RS_step {a : Nat → Nat → Int32} {M N : sm_M} {p c s : Nat} (wf : wfA a) (r : RS a M N) (ho : ofA a c p = true) (hs : s < pnA a (prA a c)) : RS a (sm_u M 0 p 6 c (nI s)) (sm_u N 10 0 35 (qN a c p) (nI s)) := by
  obtain ⟨c1, c2, _⟩ := of_c wf ho
  have h8 := (wf.1 _ (wf.2.2.2.2 _ c1).2.2.2.1).2.1
  intro q hq
  obtain ⟨h1, h2, h3, h4, h5⟩ := r q hq
  rw [u_mis (by omega), u_mis (by omega), u_mis (by omega), u_mis (by omega), u_mis (by omega), u_mis (by omega)]
  refine ⟨h1, h2, h3, fun c' hc' => ?_, fun c' hc' => ?_⟩
  · by_cases z : q = p ∧ c' = c
    · rw [z.1, z.2, u_hit]; exact ⟨s, by omega, rfl⟩
    · rw [u_mis (fun y => z ⟨y.2.1, y.2.2.2⟩)]; exact h4 c' hc'
  · by_cases z : q = p ∧ c' = c
    · rw [z.1, z.2, u_hit, u_hit]; exact ⟨s, hs, rfl, rfl⟩
    · rw [u_mis (fun y => z ⟨y.2.1, y.2.2.2⟩), u_mis (fun y => z (by have := qN_inj wf hc' ho y.2.2.2; exact ⟨this.2, this.1⟩))]
      exact h5 c' hc'
theorem RS_spot {a : Nat → Nat → Int32} {M N : sm_M} {p o : Nat} (r : RS a M N) (ho : o ≤ onA a p) : RS a (sm_u M 0 p 0 9 (nI o)) (sm_u N 10 0 28 p (nI o)) := by
  intro q hq
  obtain ⟨h1, h2, h3, h4, h5⟩ := r q hq
  rw [u_mis (by omega), u_mis (by omega), u_mis (by omega), u_mis (by omega)]
  refine ⟨h1, h2, ?_, fun c hc => ?_, fun c hc => ?_⟩
  · by_cases z : q = p
    · rw [z, u_hit, u_hit]; exact ⟨o, ho, rfl, rfl⟩
    · rw [u_mis (by omega), u_mis (by omega)]; exact h3
  · rw [u_mis (by omega)]; exact h4 c hc
  · rw [u_mis (by omega), u_mis (by omega)]; exact h5 c hc
theorem RS_life {a : Nat → Nat → Int32} {M N : sm_M} {p l : Nat} (r : RS a M N) (hl : l < 3) : RS a (sm_u M 0 p 0 7 (nI l)) (sm_u N 10 0 26 p (nI l)) := by
  intro q hq
  obtain ⟨h1, h2, h3, h4, h5⟩ := r q hq
  rw [u_mis (show ¬ (0 = 0 ∧ q = p ∧ 0 = 0 ∧ 8 = 7) by omega), u_mis (show ¬ (0 = 0 ∧ q = p ∧ 0 = 0 ∧ 9 = 7) by omega), u_mis (show ¬ (10 = 10 ∧ 0 = 0 ∧ 27 = 26 ∧ q = p) by omega), u_mis (show ¬ (10 = 10 ∧ 0 = 0 ∧ 28 = 26 ∧ q = p) by omega)]
  refine ⟨?_, h2, h3, fun c hc => ?_, fun c hc => ?_⟩
  · by_cases z : q = p
    · rw [z, u_hit, u_hit]; exact ⟨l, hl, rfl, rfl⟩
    · rw [u_mis (by omega), u_mis (by omega)]; exact h1
  · rw [u_mis (by omega)]; exact h4 c hc
  · rw [u_mis (by omega), u_mis (by omega)]; exact h5 c hc
theorem RS_brk {a : Nat → Nat → Int32} {M N : sm_M} {p : Nat} {x : Int32} (r : RS a M N) : RS a (sm_u M 0 p 0 8 x) (sm_u N 10 0 27 p x) := by
  intro q hq
  obtain ⟨h1, h2, h3, h4, h5⟩ := r q hq
  rw [u_mis (show ¬ (0 = 0 ∧ q = p ∧ 0 = 0 ∧ 7 = 8) by omega), u_mis (show ¬ (0 = 0 ∧ q = p ∧ 0 = 0 ∧ 9 = 8) by omega), u_mis (show ¬ (10 = 10 ∧ 0 = 0 ∧ 26 = 27 ∧ q = p) by omega), u_mis (show ¬ (10 = 10 ∧ 0 = 0 ∧ 28 = 27 ∧ q = p) by omega)]
  refine ⟨h1, ?_, h3, fun c hc => ?_, fun c hc => ?_⟩
  · by_cases z : q = p
    · rw [z, u_hit, u_hit]
    · rw [u_mis (by omega), u_mis (by omega)]; exact h2
  · rw [u_mis (by omega)]; exact h4 c hc
  · rw [u_mis (by omega), u_mis (by omega)]; exact h5 c hc
/-- the cells that a run changes, in the class and in the reference -/
def sRC (c _q _j _i : Nat) : Prop := c = 0 ∨ c = 6 ∨ c = 7
def sRN (c q j i : Nat) : Prop := c = 10 ∧ q = 0 ∧ (26 ≤ j ∨ (j = 0 ∧ 38 ≤ i ∧ i ≤ 40))
theorem fM_sRC {p : Nat} {M M' : sm_M} (h : frS (fM p) M M') : frS sRC M M' := frS_w h (fun c q j i z => by unfold fM at z; unfold sRC; omega)
theorem fN_sRN {p : Nat} {N N' : sm_M} (h : frS (fN p) N N') : frS sRN N N' := frS_w h (fun c q j i z => by unfold fN at z; unfold sRN; omega)
theorem jM_sRC {M M' : sm_M} (h : frS jM M M') : frS sRC M M' := frS_w h (fun c q j i z => by unfold jM at z; unfold sRC; omega)
theorem sRC_u {M : sm_M} {p j i : Nat} {x : Int32} : frS sRC M (sm_u M 0 p j i x) := frS_u (Or.inl rfl)
theorem sRN_u {N : sm_M} {j i : Nat} {x : Int32} (h : 26 ≤ j) : frS sRN N (sm_u N 10 0 j i x) := frS_u ⟨rfl, rfl, Or.inl h⟩
theorem psR_sRN {N : sm_M} {k m : Nat} {v s : Int32} : frS sRN N (psR N k m v s) := frS_t (sRN_u (by decide)) (frS_t (sRN_u (by decide)) (sRN_u (by decide)))
theorem tkR_sRN {N : sm_M} {k m : Nat} : frS sRN N (tkR N k m) := frS_t (sRN_u (by decide)) (frS_t (sRN_u (by decide)) (sRN_u (by decide)))
theorem rTel_run {a : Nat → Nat → Int32} {M M' : sm_M} (h : frS sRC M M') (t : rTel a M) : rTel a M' := rTel_fr h (fun c p j i z => by unfold sRC at z; omega) t
theorem cr_run {a : Nat → Nat → Int32} {N N' : sm_M} (h : frS sRN N N') (r : cr a N) : cr a N' :=
  ⟨(h.2 10 0 0 5 (by unfold sRN; omega)).trans r.1, fun j h1 h2 => by
    refine Eq.trans ?_ (r.2 j h1 h2)
    funext i
    exact h.2 10 0 j i (by unfold sRN; omega)⟩
