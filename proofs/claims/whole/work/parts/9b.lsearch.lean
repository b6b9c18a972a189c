/-! LEVEL B: layouts: the search, and the class's -/
/-- one thing that a process can do in a layout -/
noncomputable def gLs (a : Nat → Nat → Int32) (r : Nat → Nat) (i : Nat) (s : ((Nat → Nat → Nat) × Nat) × Bool) : ((Nat → Nat → Nat) × Nat) × Bool := match nxL a r (i / 2) (i % 2) with
  | none => s
  | some h => (adS s.1 h, true)
noncomputable def goS (a : Nat → Nat → Int32) (r : Nat → Nat) : Nat → Nat → ((Nat → Nat → Nat) × Nat) × Bool → ((Nat → Nat → Nat) × Nat) × Bool
  | 0, _, s => s
  | n + 1, i, s => goS a r n (i + 1) (gLs a r i s)
def finS (s : (Nat → Nat → Nat) × Nat) (f : Bool) : Int32 := if 1000 < s.2 then -1 else bI f
noncomputable def seS (a : Nat → Nat → Int32) : Nat → Nat → (Nat → Nat → Nat) × Nat → Bool → Int32
  | 0, _, s, f => finS s f
  | k + 1, i, s, f => if i < s.2 ∧ i < 1000 ∧ s.2 ≤ 1000 then seS a k (i + 1) (goS a (s.1 i) 6 0 (s, false)).1 (f || (!(goS a (s.1 i) 6 0 (s, false)).2 && !allE (s.1 i))) else finS s f
/-- no layouts -/
def noS : (Nat → Nat → Nat) × Nat := (fun _ _ => 0, 0)
/-- whether processes can be stuck -/
noncomputable def stkA (a : Nat → Nat → Int32) : Int32 := seS a 1001 0 (adS noS (fun _ => 0)) false
theorem gLs_k {a : Nat → Nat → Int32} {r : Nat → Nat} {i : Nat} {s : ((Nat → Nat → Nat) × Nat) × Bool} : s.1.2 ≤ (gLs a r i s).1.2 ∧ ∀ k, k < s.1.2 → (gLs a r i s).1.1 k = s.1.1 k := by
  unfold gLs
  split
  · exact ⟨Nat.le_refl _, fun _ _ => rfl⟩
  · exact adS_k
theorem goS_k {a : Nat → Nat → Int32} {r : Nat → Nat} : ∀ n i (s : ((Nat → Nat → Nat) × Nat) × Bool), s.1.2 ≤ (goS a r n i s).1.2 ∧ ∀ k, k < s.1.2 → (goS a r n i s).1.1 k = s.1.1 k := by
  intro n
  induction n with
  | zero => intro i s; exact ⟨Nat.le_refl _, fun _ _ => rfl⟩
  | succ n ih =>
    intro i s
    obtain ⟨h1, h2⟩ := ih (i + 1) (gLs a r i s)
    obtain ⟨g1, g2⟩ := gLs_k (a := a) (r := r) (i := i) (s := s)
    exact ⟨Nat.le_trans g1 h1, fun k hk => (h2 k (by omega)).trans (g2 k hk)⟩
theorem P_lGo1 {sc : Nat × (Nat → Int32)} {a : Nat → Nat → Int32} {M : sm_M} {s : (Nat → Nat → Nat) × Nat} {h : Nat → Nat} {m : Bool} {i : Nat} (wf : wfA a) (ok : ∀ p, p < 3 → ok1 a p) (x : CX a M) (l : LT a M s) (g : Gd a h) (hi : i < 6) :
    ∃ M', dn sc kLayouts_goOn 3 [.inr (.inr (5, 0, 0)), .inr (.inl (lN (eN h))), .inl (bI m), .inl (nI (i / 2)), .inl (nI (i % 2))] [] M = dn sc kLayouts_goOn 3 [.inr (.inr (5, 0, 0)), .inr (.inl (lN (eN h))), .inl (bI (gLs a h i (s, m)).2), .inl (nI (i / 2)), .inl (nI (i % 2 + 1))] [] M' ∧ LT a M' (gLs a h i (s, m)).1 ∧ fr5 M M' := by
  have hp : i / 2 < 3 := by omega
  rw [E_Layouts_goOn_3, show (2 : Int32) = nI 2 from rfl, if_pos (by rw [i_lt (by omega) (by decide)]; omega), P_lNext wf x hp (show i % 2 < 2 by omega) (ok _ hp) g, r2_s, nI_1]
  unfold gLs
  cases e : nxL a h (i / 2) (i % 2) with
  | none =>
    refine ⟨M, ?_, l, fr5_r⟩
    rw [if_pos (show lg_cmp (oL none) (-1) = 0 from (lg_cmp_eq _ _).mpr rfl)]
  | some h' =>
    have g' := Gd_nx wf hp (ok _ hp) g e
    have he := eN_lt (wfh_d (Gd_w g'))
    obtain ⟨M', h1, h2, h3⟩ := P_lReach (sc := sc) l g'
    refine ⟨M', ?_, h2, h3⟩
    rw [if_neg (show ¬ lg_cmp (oL (some h')) (-1) = 0 from fun z => lN_m1 (a := eN h') (by omega) ((lg_cmp_eq _ _).mp z)), show oL (some h') = lN (eN h') from rfl, h1, r0_s]
    rfl
theorem P_lGo2 {sc : Nat × (Nat → Int32)} {a : Nat → Nat → Int32} {M : sm_M} {s : (Nat → Nat → Nat) × Nat} {h : Nat → Nat} {m : Bool} {p : Nat} (wf : wfA a) (ok : ∀ p, p < 3 → ok1 a p) (x : CX a M) (l : LT a M s) (g : Gd a h) (hp : p < 3) :
    ∃ M', dn sc kLayouts_goOn 1 [.inr (.inr (5, 0, 0)), .inr (.inl (lN (eN h))), .inl (bI m), .inl (nI p)] [] M = dn sc kLayouts_goOn 1 [.inr (.inr (5, 0, 0)), .inr (.inl (lN (eN h))), .inl (bI (goS a h 2 (2 * p) (s, m)).2), .inl (nI (p + 1))] [] M' ∧ LT a M' (goS a h 2 (2 * p) (s, m)).1 ∧ fr5 M M' := by
  obtain ⟨M1, a1, a2, a3⟩ := P_lGo1 (sc := sc) (m := m) (i := 2 * p) wf ok x l g (by omega)
  obtain ⟨M2, b1, b2, b3⟩ := P_lGo1 (sc := sc) (m := (gLs a h (2 * p) (s, m)).2) (i := 2 * p + 1) wf ok (CX_5 a3 x) a2 g (by omega)
  refine ⟨M2, ?_, b2, fr5_t a3 b3⟩
  rw [show 2 * p / 2 = p by omega, show 2 * p % 2 = 0 by omega] at a1
  rw [show (2 * p + 1) / 2 = p by omega, show (2 * p + 1) % 2 = 1 by omega] at b1
  rw [E_Layouts_goOn_1, show (3 : Int32) = nI 3 from rfl, if_pos (by rw [i_lt (by omega) (by decide)]; exact hp)]
  refine Eq.trans a1 (b1.trans ?_)
  rw [E_Layouts_goOn_3, if_neg (by decide), nI_1]
  rfl
theorem P_lGo {sc : Nat × (Nat → Int32)} {a : Nat → Nat → Int32} {M : sm_M} {s : (Nat → Nat → Nat) × Nat} {h : Nat → Nat} (wf : wfA a) (ok : ∀ p, p < 3 → ok1 a p) (x : CX a M) (l : LT a M s) (g : Gd a h) :
    ∃ M', dn sc kLayouts_goOn 0 [.inr (.inr (5, 0, 0)), .inr (.inl (lN (eN h)))] [] M = some (0, .inl (bI (goS a h 6 0 (s, false)).2), M') ∧ LT a M' (goS a h 6 0 (s, false)).1 ∧ fr5 M M' := by
  obtain ⟨M1, a1, a2, a3⟩ := P_lGo2 (sc := sc) (m := false) (p := 0) wf ok x l g (by decide)
  obtain ⟨M2, b1, b2, b3⟩ := P_lGo2 (sc := sc) (m := (goS a h 2 0 (s, false)).2) (p := 1) wf ok (CX_5 a3 x) a2 g (by decide)
  obtain ⟨M3, c1, c2, c3⟩ := P_lGo2 (sc := sc) (m := (goS a h 2 2 (goS a h 2 0 (s, false))).2) (p := 2) wf ok (CX_5 (fr5_t a3 b3) x) b2 g (by decide)
  refine ⟨M3, ?_, c2, fr5_t a3 (fr5_t b3 c3)⟩
  rw [E_Layouts_goOn_0]
  refine Eq.trans a1 (Eq.trans b1 (Eq.trans c1 ?_))
  rw [E_Layouts_goOn_1, if_neg (by decide)]
  show (if bI (goS a h 6 0 (s, false)).2 = 0 then _ else _) = _
  exact bI_K
theorem P_lFin {sc : Nat × (Nat → Int32)} {a : Nat → Nat → Int32} {M : sm_M} {s : (Nat → Nat → Nat) × Nat} {f : Bool} (l : LT a M s) : dn sc kLayouts_search 8 [.inr (.inr (5, 0, 0)), .inl (bI f)] [] M = some (0, .inl (finS s f), M) := by
  have := l.2.1
  rw [E_Layouts_search_8, l.1, show (1000 : Int32) = nI 1000 from rfl]
  unfold finS
  by_cases z : 1000 < s.2
  · rw [if_pos (by rw [i_lt (by decide) (by omega)]; exact z), if_pos z]
  · rw [if_neg (by rw [i_lt (by decide) (by omega)]; exact z), if_neg z]
theorem P_lSearch1 {sc : Nat × (Nat → Int32)} {a : Nat → Nat → Int32} (wf : wfA a) (ok : ∀ p, p < 3 → ok1 a p) : ∀ k i (M : sm_M) (s : (Nat → Nat → Nat) × Nat) (f : Bool), i + k = 1001 → CX a M → LT a M s →
    ∃ M', dn sc kLayouts_search 1 [.inr (.inr (5, 0, 0)), .inl (bI f), .inl (nI i)] [] M = some (0, .inl (seS a k i s f), M') ∧ fr5 M M' := by
  intro k
  induction k with
  | zero =>
    intro i M s f hi x l
    have := l.2.1
    refine ⟨M, ?_, fr5_r⟩
    rw [E_Layouts_search_1, l.1, if_neg (by rw [i_lt (by omega) (by omega)]; omega), P_lFin l]; rfl
  | succ k ih =>
    intro i M s f hi x l
    have hs := l.2.1
    rw [E_Layouts_search_1, l.1, show (1000 : Int32) = nI 1000 from rfl]
    unfold seS
    by_cases z1 : i < s.2
    rotate_left
    · refine ⟨M, ?_, fr5_r⟩
      rw [if_neg (by rw [i_lt (by omega) (by omega)]; exact z1), if_neg (fun z => z1 z.1), P_lFin l]
    by_cases z2 : i < 1000
    rotate_left
    · refine ⟨M, ?_, fr5_r⟩
      rw [if_pos (by rw [i_lt (by omega) (by omega)]; exact z1), if_neg (by rw [i_lt (by omega) (by omega)]; exact z2), if_neg (fun z => z2 z.2.1), P_lFin l]
    by_cases z3 : s.2 ≤ 1000
    rotate_left
    · refine ⟨M, ?_, fr5_r⟩
      rw [if_pos (by rw [i_lt (by omega) (by omega)]; exact z1), if_pos (by rw [i_lt (by omega) (by omega)]; exact z2), if_pos (by rw [i_lt (by omega) (by omega)]; omega), if_neg (fun z => z3 z.2.2), P_lFin l]
    obtain ⟨r1, r2⟩ := l.2.2.1 i z1
    obtain ⟨M1, g1, g2, g3⟩ := P_lGo (sc := sc) wf ok x l r2
    have gk := goS_k (a := a) (r := s.1 i) 6 0 (s, false)
    obtain ⟨M2, i1, i2⟩ := ih (i + 1) M1 _ (f || (!(goS a (s.1 i) 6 0 (s, false)).2 && !allE (s.1 i))) (by omega) (CX_5 g3 x) g2
    refine ⟨M2, ?_, fr5_t g3 i2⟩
    rw [if_pos (by rw [i_lt (by omega) (by omega)]; exact z1), if_pos (by rw [i_lt (by omega) (by omega)]; exact z2), if_neg (by rw [i_lt (by omega) (by omega)]; omega), if_pos (show i < s.2 ∧ i < 1000 ∧ s.2 ≤ 1000 from ⟨z1, z2, z3⟩), i_ib (show i < 1001 by omega) (by decide), if_pos rfl, i_cl (show i < 2147483648 by omega), r1, g1, r1_s, nI_1]
    have r3 : M1.2 5 0 4 i = lN (eN (s.1 i)) := by
      have := (g2.2.2.1 i (Nat.lt_of_lt_of_le z1 gk.1)).1
      rwa [gk.2 i z1] at this
    cases e : (goS a (s.1 i) 6 0 (s, false)).2 with
    | true =>
      rw [e] at i1
      rw [if_neg (show ¬ bI true = 0 by decide)]
      rw [show (f || (!true && !allE (s.1 i))) = f by cases f <;> rfl] at i1 ⊢
      exact i1
    | false =>
      rw [e] at i1
      rw [if_pos (show bI false = 0 from rfl), if_pos rfl, r3, P_lAll (wfh_d (Gd_w r2)), r1_s]
      cases e2 : allE (s.1 i) with
      | true =>
        rw [e2] at i1
        rw [if_neg (show ¬ bI true = 0 by decide)]
        rw [show (f || (!false && !true)) = f by cases f <;> rfl] at i1 ⊢
        exact i1
      | false =>
        rw [e2] at i1
        rw [if_pos (show bI false = 0 from rfl)]
        rw [show (f || (!false && !false)) = true by cases f <;> rfl] at i1 ⊢
        exact i1
theorem P_lSearch {sc : Nat × (Nat → Int32)} {a : Nat → Nat → Int32} {M : sm_M} (wf : wfA a) (ok : ∀ p, p < 3 → ok1 a p) (x : CX a M) : ∃ M', dn sc kLayouts_search 0 [.inr (.inr (5, 0, 0))] [] M = some (0, .inl (stkA a), M') ∧ fr5 M M' := by
  have l : LT a (sm_u (sm_fl M 5 0 5 0) 5 0 0 5 0) noS := by
    have e : ∀ j, (sm_u (sm_fl M 5 0 5 0) 5 0 0 5 0).1 5 0 5 j = 0 := fun j => by
      rw [u_mis (by omega), fl_1, if_pos ⟨rfl, rfl, rfl⟩]
    refine ⟨u_hit, by decide, fun k hk => absurd hk (Nat.not_lt_zero _), fun j _ => ⟨0, Nat.le_refl _, e j⟩, ?_, fun k hk => absurd hk (Nat.not_lt_zero _)⟩
    rw [cntT_0 _ (fun j _ => by rw [e j]; rfl)]
    exact Nat.zero_le _
  have f0 : fr5 M (sm_u (sm_fl M 5 0 5 0) 5 0 0 5 0) := fr5_t fr5_f fr5_u
  obtain ⟨M1, a1, a2, a3⟩ := P_lReach (sc := sc) l (Gd_0 wf ok)
  obtain ⟨M2, b1, b2⟩ := P_lSearch1 (sc := sc) wf ok 1001 0 M1 _ false (by decide) (CX_5 (fr5_t f0 a3) x) a2
  refine ⟨M2, ?_, fr5_t f0 (fr5_t a3 b2)⟩
  rw [E_Layouts_search_0]
  rw [show lN (eN (fun _ => 0)) = (0 : Int64) from rfl] at a1
  rw [a1, r0_s]
  exact b1
theorem P_lAnswer {sc : Nat × (Nat → Int32)} {a : Nat → Nat → Int32} {M : sm_M} (wf : wfA a) (ok : ∀ p, p < 3 → ok1 a p) (x : CX a M) (k : M.1 5 0 0 6 = 0 ∨ M.1 5 0 0 7 = stkA a) : ∃ M', dn sc kLayouts_answer 0 [.inr (.inr (5, 0, 0))] [] M = some (0, .inl (stkA a), M') ∧ fr5 M M' ∧ M'.1 5 0 0 7 = stkA a := by
  rw [E_Layouts_answer_0]
  by_cases z : M.1 5 0 0 6 = 0
  · obtain ⟨M1, h1, h2⟩ := P_lSearch (sc := sc) (M := sm_u M 5 0 0 6 1) wf ok (CX_5 fr5_u x)
    rw [if_pos z, h1, r1_s, u_hit]
    exact ⟨_, rfl, fr5_t fr5_u (fr5_t h2 fr5_u), u_hit⟩
  · rw [if_neg z, k.resolve_left z]
    exact ⟨M, rfl, fr5_r, k.resolve_left z⟩
