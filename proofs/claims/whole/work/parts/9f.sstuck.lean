/-! LEVEL B: stuck on both sides; what stands of all -/
def frw (S : Nat → Nat → Nat → Nat → Prop) (M N : sm_M) : Prop := ∀ c p j i, ¬ S c p j i → N.1 c p j i = M.1 c p j i
theorem frw_S {S : Nat → Nat → Nat → Nat → Prop} {M N : sm_M} (h : frw S M N) : frS S M (N.1, M.2) := ⟨rfl, h⟩
theorem BI_frw {S : Nat → Nat → Nat → Nat → Prop} {a : Nat → Nat → Int32} {M N : sm_M} (h : frw S M N) (hS : ∀ c p j i, S c p j i → ¬ sBI c p j i) (b : BI a M) : BI a N := by
  have k : BI a (N.1, M.2) := BI_fr (frw_S (M := M) (N := N) h) hS b
  exact k
theorem JR_frw {S : Nat → Nat → Nat → Nat → Prop} {a : Nat → Nat → Int32} {M N : sm_M} {B B' : Nat} (h : frw S M N) (hS : ∀ c p j i, S c p j i → ¬ (c = 0 ∨ (c = 3 ∧ j = 0 ∧ i = 5) ∨ c = 6 ∨ c = 7 ∨ (c = 10 ∧ p = 0 ∧ (26 ≤ j ∨ (j = 0 ∧ (i = 24 ∨ (38 ≤ i ∧ i ≤ 40))))))) (hB : B ≤ B') (r : JR a M B) : JR a N B' := by
  have k : JR a (N.1, M.2) B' := JR_fr (frw_S (M := M) (N := N) h) hS hB r
  exact k
/-- what the class knows of being stuck -/
def LI (a : Nat → Nat → Int32) (M : sm_M) : Prop := M.1 5 0 0 6 = 0 ∨ ((∀ p, p < 3 → ok1 a p) ∧ M.1 5 0 0 7 = stkA a)
def GI (a : Nat → Nat → Int32) (M : sm_M) (B : Nat) : Prop := BI a M ∧ JR a M B ∧ LI a M
/-- a call on both sides; all stands behind it -/
def GSM (dC : Option sm_R) (dR : sm_M → Option sm_R) (mp : Nat → Int32) (B : Nat) : Prop :=
  ∃ e x M1, dC = some (e, .inl x, M1) ∧ ∀ N, eqT M1 N → ∃ y N1, dR N = some (0, .inl y, N1) ∧ N1.1 10 0 0 0 = mp e ∧ (e = 0 → x = y) ∧ ∃ b, GI b N1 B
theorem LI_c {a : Nat → Nat → Int32} {M N : sm_M} (h6 : N.1 5 0 0 6 = M.1 5 0 0 6) (h7 : N.1 5 0 0 7 = M.1 5 0 0 7) (l : LI a M) : LI a N := by
  unfold LI
  rw [h6, h7]
  exact l
theorem SIM_G {dC : Option sm_R} {dR : sm_M → Option sm_R} {mp : Nat → Int32} {a : Nat → Nat → Int32} {M : sm_M} {B B' : Nat} (g : GI a M B) (hB : B ≤ B') (s : SIM dC dR mp a M) : GSM dC dR mp B' := by
  obtain ⟨b, j, l⟩ := g
  obtain ⟨e, x, M1, h1, h2, h3⟩ := s
  refine ⟨e, x, M1, h1, fun N hN => ?_⟩
  obtain ⟨y, N1, k1, k2, k3, k4, k5⟩ := h3 N hN
  have j1 := JR_fr h2 (fun c p j i z => by unfold s4a at z; omega) hB j
  have j2 := JR_eq hN (Nat.le_refl _) j1
  have j3 := JR_fr k4 (fun c p j i z => by unfold s10g s10f at z; omega) (Nat.le_refl _) j2
  have c5 : ∀ i, N1.1 5 0 0 i = M.1 5 0 0 i := fun i => (k4.2 5 0 0 i (by unfold s10g s10f; omega)).trans ((eqT_cell hN (by decide) 0 0 i).trans (h2.2 5 0 0 i (by unfold s4a; omega)))
  exact ⟨y, N1, k1, k2, k3, a, k5, j3, LI_c (c5 6) (c5 7) l⟩
theorem SIR_G {dC : Option sm_R} {dR : sm_M → Option sm_R} {mp : Nat → Int32} {a : Nat → Nat → Int32} {M : sm_M} {B B' : Nat} (g : GI a M B) (s : SIR dC dR mp a M B') : GSM dC dR mp B' := by
  obtain ⟨b, j, l⟩ := g
  obtain ⟨e, x, M1, h1, h2, h3⟩ := s
  refine ⟨e, x, M1, h1, fun N hN => ?_⟩
  obtain ⟨y, N1, k1, k2, k3, k4, k5⟩ := h3 N hN
  have b1 := BI_fr h2 (fun c p j i z => by unfold sRX sRC at z; unfold sBI; omega) b
  have b2 := BI_eq hN b1
  have b3 := BI_fr k4 (fun c p j i z => by unfold sRY sRN at z; unfold sBI; omega) b2
  have c5 : ∀ i, N1.1 5 0 0 i = M.1 5 0 0 i := fun i => (k4.2 5 0 0 i (by unfold sRY sRN; omega)).trans ((eqT_cell hN (by decide) 0 0 i).trans (h2.2 5 0 0 i (by unfold sRX sRC; omega)))
  exact ⟨y, N1, k1, k2, k3, a, b3, k5, LI_c (c5 6) (c5 7) l⟩
theorem cF_ne {a : Nat → Nat → Int32} {q : Nat} (h16 : onA a q ≤ 16) : (cF a q = 0) = (cO a q = -1) := by
  refine propext ⟨fun h => ?_, cF_0⟩
  by_cases z : cO a q = -1
  · exact z
  · exfalso
    obtain ⟨o, o1, o2, o3⟩ := cO_of h16 z
    unfold cF at h
    rw [if_neg z, o3, i_cl (by omega)] at h
    unfold hasE at o2
    rw [h, decide_eq_true rfl, Bool.not_true, Bool.and_false] at o2
    cases o2
/-- find, with the cells of one process alone -/
theorem BI_find1 {sc : Nat × (Nat → Int32)} {a : Nat → Nat → Int32} {M : sm_M} (b : BI a M) {q : Nat} (hq : q < 3) :
    ∃ M1, dn sc kFlow_find 0 [.inr (.inr (4, q, 0))] [] M = some (0, .inr (.inr (4, q, 0)), M1) ∧ frS (s4 q) M M1 ∧ BI a M1 ∧ knC a M1 q := by
  obtain ⟨N, h1, h2, h3⟩ := P_fFind (sc := sc) b.2.1 (BI_cx b hq) hq (b.2.2.2.1 q hq).2
  refine ⟨N, h1, h2, ?_, h3⟩
  obtain ⟨M1, k1, _, k3, _⟩ := BI_find (sc := sc) b hq
  have e := (Prod.mk.inj (Prod.mk.inj (Option.some.inj (k1.symm.trans h1))).2).2
  rw [← e]
  exact k3
theorem P_tStk {sc : Nat × (Nat → Int32)} {a : Nat → Nat → Int32} : ∀ n i (M : sm_M), i + n = 3 → BI a M → (∀ q, q < i → knC a M q) →
    ∃ M', frS s4a M M' ∧ BI a M' ∧ (((∀ q, i ≤ q → q < 3 → cF a q = 0) ∧ (∀ q, q < 3 → knC a M' q) ∧ dn sc kTop_stuck 1 [.inr (.inr (9, 0, 0)), .inl (nI i)] [] M = sm_r1 (dn sc kLayouts_answer 0 [.inr (.inr (5, 0, 0))] [] M') (fun x2 M1 => some (0, .inl x2, M1))) ∨
      ((∃ q, i ≤ q ∧ q < 3 ∧ ¬ cF a q = 0) ∧ dn sc kTop_stuck 1 [.inr (.inr (9, 0, 0)), .inl (nI i)] [] M = some (3, .inl 0, M'))) := by
  intro n
  induction n with
  | zero =>
    intro i M hi b k
    obtain rfl : i = 3 := by omega
    refine ⟨M, frS_r, b, Or.inl ⟨fun q h1 h2 => by omega, k, ?_⟩⟩
    rw [E_Top_stuck_1, if_neg (by decide)]
  | succ n ih =>
    intro i M hi b k
    have hi3 : i < 3 := by omega
    obtain ⟨M1, h1, h2, h3, h4⟩ := BI_find1 (sc := sc) b hi3
    have hw : frS s4a M M1 := frS_w h2 (fun c p j i z => ⟨z.1, z.2.2⟩)
    have e1 : dn sc kTop_stuck 1 [.inr (.inr (9, 0, 0)), .inl (nI i)] [] M = if cF a i = 0 then dn sc kTop_stuck 1 [.inr (.inr (9, 0, 0)), .inl (nI (i + 1))] [] M1 else some (3, .inl 0, M1) := by
      rw [E_Top_stuck_1, show (3 : Int32) = nI 3 from rfl, if_pos (by rw [i_lt (by omega) (by decide)]; exact hi3), i_ib hi3 (by decide), if_pos rfl, i_cl (show i < 2147483648 by omega), h1]
      show sm_r1 (dn sc kFlow_firstError 0 [.inr (.inr (4, i, 0))] [] M1) _ = _
      rw [E_Flow_firstError_0, r1_s, h4.2.2.2, nI_1]
    by_cases z : cF a i = 0
    · rw [if_pos z] at e1
      obtain ⟨M2, g1, g2, g3⟩ := ih (i + 1) M1 (by omega) h3 (fun q hq => by
        by_cases y : q = i
        · subst y; exact h4
        · exact knC_tag (fun j i' => h2.2 _ _ _ _ (fun w => y w.2.1)) (k q (by omega)))
      refine ⟨M2, frS_t hw g1, g2, ?_⟩
      rw [e1]
      rcases g3 with ⟨x1, x2, x3⟩ | ⟨⟨q, q1, q2, q3⟩, x3⟩
      · refine Or.inl ⟨fun q y1 y2 => ?_, x2, x3⟩
        by_cases y : q = i
        · subst y; exact z
        · exact x1 q (by omega) y2
      · exact Or.inr ⟨⟨q, by omega, q2, q3⟩, x3⟩
    · rw [if_neg z] at e1
      exact ⟨M1, hw, h3, Or.inr ⟨⟨i, Nat.le_refl _, hi3, z⟩, e1⟩⟩
/-- the reference's stuck up to the search -/
theorem P_mStk {sc : Nat × (Nat → Int32)} {a : Nat → Nat → Int32} {N : sm_M} (b : BI a N) : ∃ N', frS s10f N N' ∧ BI a N' ∧ dn sc kModel_stuck 0 [.inr (.inr (10, 0, 0))] [] N = dn sc kModel_stuck 5 [.inr (.inr (10, 0, 0))] [.inl (if cO a 0 = -1 ∧ cO a 1 = -1 ∧ cO a 2 = -1 then 0 else 1)] N' := by
  obtain ⟨N1, a1, a2, a3, _⟩ := BI_first (sc := sc) b (p := 0) (by decide)
  obtain ⟨N2, b1, b2, b3, _⟩ := BI_first (sc := sc) a3 (p := 1) (by decide)
  obtain ⟨N3, c1, c2, c3, _⟩ := BI_first (sc := sc) b3 (p := 2) (by decide)
  rw [E_Model_stuck_0, show dn sc kModel_firstError 0 [.inr (.inr (10, 0, 0)), .inl 0] [] N = _ from a1, r1_s]
  by_cases z0 : cO a 0 = -1
  rotate_left
  · exact ⟨N1, a2, a3, by rw [if_neg z0, if_neg (fun y => z0 y.1)]⟩
  rw [if_pos z0, show dn sc kModel_firstError 0 [.inr (.inr (10, 0, 0)), .inl 1] [] N1 = _ from b1, r1_s]
  by_cases z1 : cO a 1 = -1
  rotate_left
  · exact ⟨N2, frS_t a2 b2, b3, by rw [if_neg z1, if_neg (fun y => z1 y.2.1)]⟩
  rw [if_pos z1, show dn sc kModel_firstError 0 [.inr (.inr (10, 0, 0)), .inl 2] [] N2 = _ from c1, r1_s]
  refine ⟨N3, frS_t a2 (frS_t b2 c2), c3, ?_⟩
  by_cases z2 : cO a 2 = -1
  · rw [if_pos z2, if_pos ⟨z0, z1, z2⟩]
  · rw [if_neg z2, if_neg (fun y => z2 y.2.2)]
def mpS (e : Nat) : Int32 := if e = 3 then 1 else nI e
theorem S_stuck {sc : Nat × (Nat → Int32)} {a : Nat → Nat → Int32} {M : sm_M} {B B' : Nat} (g : GI a M B) (hB : B ≤ B') : GSM (dn sc kTop_stuck 0 [.inr (.inr (9, 0, 0))] [] M) (fun N => dn sc kModel_stuck 0 [.inr (.inr (10, 0, 0))] [] N) mpS B' := by
  obtain ⟨b, j, l⟩ := g
  have wf := b.2.1
  obtain ⟨M1, h1, h2, h3⟩ := P_tStk (sc := sc) 3 0 M (by decide) b (fun q hq => absurd hq (Nat.not_lt_zero _))
  have e0 : dn sc kTop_stuck 0 [.inr (.inr (9, 0, 0))] [] M = dn sc kTop_stuck 1 [.inr (.inr (9, 0, 0)), .inl (nI 0)] [] M := E_Top_stuck_0 sc M
  have j1 := JR_fr h1 (fun c p j i z => by unfold s4a at z; omega) hB j
  have c5 : ∀ i, M1.1 5 0 0 i = M.1 5 0 0 i := fun i => h1.2 5 0 0 i (by unfold s4a; omega)
  rcases h3 with ⟨x1, x2, x3⟩ | ⟨⟨q, q1, q2, q3⟩, x3⟩
  · have ok : ∀ p, p < 3 → ok1 a p := fun p hp => ⟨cS_k (x2 p hp).1, (cF_ne (on16 wf hp)).mp (x1 p (Nat.zero_le _) hp)⟩
    have cx1 : CX a M1 := ⟨h2.1, fun p hp => ⟨(h2.2.2.2.1 p hp).1, x2 p hp⟩⟩
    obtain ⟨M2, m1, m2, m3⟩ := P_lAnswer (sc := sc) (M := M1) wf ok cx1 (by rw [c5, c5]; exact l.imp id (fun z => z.2))
    have w5 : frw (fun c _ _ _ => c = 5) M1 M2 := fun c p j i hc => by rw [(m2 c hc).1]
    have b2 := BI_frw w5 (fun c p j i z => by unfold sBI; omega) h2
    have j2 := JR_frw w5 (fun c p j i z => by omega) (Nat.le_refl _) j1
    refine ⟨0, stkA a, M2, by rw [e0, x3, m1, r1_s], fun N hN => ?_⟩
    obtain ⟨N1, n1, n2, n3⟩ := P_mStk (sc := sc) (BI_eq hN b2)
    obtain ⟨N2, p1, p2⟩ := P_mSt8 (sc := sc) wf ok n2.2.2.1
    have fN : frw (fun c p j i => s10f c p j i ∨ (c = 10 ∧ p = 0 ∧ j = 0 ∧ i = 0) ∨ (c = 10 ∧ s10l p j i)) N N2 := by
      intro c p j i z
      have z1 : ¬ s10f c p j i := fun y => z (Or.inl y)
      have z2 : ¬ (c = 10 ∧ p = 0 ∧ j = 0 ∧ i = 0) := fun y => z (Or.inr (Or.inl y))
      have z3 : ¬ (c = 10 ∧ s10l p j i) := fun y => z (Or.inr (Or.inr y))
      have e1 : N2.1 c p j i = (sm_u N1 10 0 0 0 0).1 c p j i := by
        by_cases y : c = 10
        · subst y
          exact p2.2 p j i (fun w => z3 ⟨rfl, w⟩)
        · rw [(p2.1 c y).1]
      rw [e1, u_mis z2]
      exact n1.2 c p j i z1
    refine ⟨stkA a, N2, ?_, ?_, fun _ => rfl, a, BI_frw (S := fun c p j i => (c = 10 ∧ p = 0 ∧ j = 0 ∧ i = 0) ∨ (c = 10 ∧ s10l p j i)) (fun c p j i z => ?_) (fun c p j i z => by unfold s10l at z; unfold sBI; omega) n2, JR_frw fN (fun c p j i z => by unfold s10f s10l at z; omega) (Nat.le_refl _) (JR_eq hN (Nat.le_refl _) j2), Or.inr ⟨ok, ?_⟩⟩
    · dsimp only
      rw [n3, if_pos ⟨(ok 0 (by decide)).2, (ok 1 (by decide)).2, (ok 2 (by decide)).2⟩, E_Model_stuck_5, if_pos rfl, p1]
    · rw [p2.2 0 0 0 (by unfold s10l; omega), u_hit]; rfl
    · have z2 : ¬ (c = 10 ∧ p = 0 ∧ j = 0 ∧ i = 0) := fun y => z (Or.inl y)
      have z3 : ¬ (c = 10 ∧ s10l p j i) := fun y => z (Or.inr y)
      rw [← u_mis (M := N1) (x := 0) z2]
      by_cases y : c = 10
      · subst y
        exact p2.2 p j i (fun w => z3 ⟨rfl, w⟩)
      · rw [(p2.1 c y).1]
    · rw [fN 5 0 0 7 (by unfold s10f; omega), eqT_cell hN (by decide)]
      exact m3
  · refine ⟨3, 0, M1, by rw [e0, x3], fun N hN => ?_⟩
    obtain ⟨N1, n1, n2, n3⟩ := P_mStk (sc := sc) (BI_eq hN h2)
    have no : ¬ (cO a 0 = -1 ∧ cO a 1 = -1 ∧ cO a 2 = -1) := by
      rintro ⟨y0, y1, y2⟩
      apply q3
      rw [cF_ne (on16 wf q2)]
      rcases (by omega : q = 0 ∨ q = 1 ∨ q = 2) with y | y | y <;> subst y <;> assumption
    have fN : frS s10g N (sm_u N1 10 0 0 0 1) := frS_t (frS_w n1 (fun _ _ _ _ z => Or.inl z)) thr_fr
    refine ⟨0, sm_u N1 10 0 0 0 1, ?_, u_hit, fun h => by omega, a, BI_thr n2, JR_fr fN (fun c p j i z => by unfold s10g s10f at z; omega) (Nat.le_refl _) (JR_eq hN (Nat.le_refl _) j1), ?_⟩
    · dsimp only
      rw [n3, if_neg no, E_Model_stuck_5, if_neg (by decide), E_Model_stuck_8, u_hit, if_pos (by decide)]
    · have e5 : ∀ i, (sm_u N1 10 0 0 0 1).1 5 0 0 i = M.1 5 0 0 i := fun i => (fN.2 5 0 0 i (by unfold s10g s10f; omega)).trans ((eqT_cell hN (by decide) 0 0 i).trans (c5 i))
      exact LI_c (e5 6) (e5 7) l
