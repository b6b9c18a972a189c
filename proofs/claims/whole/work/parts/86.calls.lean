/-! LEVEL B: the run: calls on both sides, in one memory -/
theorem RD_mem {M N M' N' : sm_M} (h : RD M N) (hM : ∀ j i, M'.1 6 0 j i = M.1 6 0 j i) (hN : ∀ j i, N'.1 10 0 j i = N.1 10 0 j i) : RD M' N' := RD_fr h (hM _ _) (fun i => hM _ _) (hN _ _) (fun i => hN _ _)
theorem PS_mem {a : Nat → Nat → Int32} {M N M' N' : sm_M} {mk T b tc : Nat} (h : PS a M N mk T b tc) (hM : ∀ c p j i, (c = 0 ∨ c = 6 ∨ c = 7) → M'.1 c p j i = M.1 c p j i) (hN : ∀ j i, N'.1 10 0 j i = N.1 10 0 j i) : PS a M' N' mk T b tc := by
  obtain ⟨q, rm, rs⟩ := h
  have ea : ∀ j p, aR N' j p = aR N j p := by
    intro j p
    funext v
    unfold aR
    rw [hN]
  have ew : Wt N' = Wt N := by
    funext k i x
    unfold Wt
    rw [hN, hN]
  refine ⟨fun p hp => ?_, RM_fr rm (fun j i => hM 7 0 j i (by decide)) (fun j i _ _ => hN j i) (Nat.le_refl _), RS_fr rs (fun p j i _ _ => hM 0 p j i (by decide)) (fun j i _ => hN j i)⟩
  obtain ⟨q1, q2, q3, q4, q5, q6, q7⟩ := q p hp
  refine ⟨PV_o q1 ?_ ?_ ?_ ?_ ?_ (fun j _ _ => ea j p), RD_mem q2 (fun j i => hM 6 0 j i (by decide)) hN, ?_, (hM 6 0 0 2 (by decide)).trans q4, (hN 0 39).trans q5, (hN 0 38).trans q6, (hM 6 0 0 3 (by decide)).trans q7⟩
  · funext v; exact hM 0 p 2 v (by decide)
  · funext v; exact hM 0 p 3 v (by decide)
  · funext v; exact hM 0 p 4 v (by decide)
  · funext v; exact hM 0 p 5 v (by decide)
  · funext v; unfold lpC; rw [hM 0 p 0 6 (by decide)]
  · unfold RI
    simp only [ea, ew]
    exact q3
/-- what variables have and had -/
def VK (M : sm_M) : Prop := ∀ p v, p < 3 → v < 6 → xC M p v = aR M 30 p v ∧ kC M p v = aR M 31 p v
theorem VK_of {a : Nat → Nat → Int32} {N : sm_M} {mk T b tc : Nat} (h : PS a N N mk T b tc) : VK N := fun p v hp hv => ((h.1 p hp).1.1 v hv).2
theorem VK_c {M N : sm_M} (h : VK M) (h0 : ∀ p j i, N.1 0 p j i = M.1 0 p j i) (h1 : ∀ j i, 30 ≤ j → N.1 10 0 j i = M.1 10 0 j i) : VK N := by
  intro p v hp hv
  obtain ⟨e1, e2⟩ := h p v hp hv
  unfold xC kC aR at *
  rw [h0, h0, h1 30 _ (by decide), h1 31 _ (by decide)]
  exact ⟨e1, e2⟩
/-- what stands of the run in one memory: B bounds the values and the times -/
def JR (a : Nat → Nat → Int32) (M : sm_M) (B : Nat) : Prop := ((M.1 3 0 0 5 = 0 ∧ M.1 10 0 0 24 = 0) ∨ (M.1 3 0 0 5 = 1 ∧ M.1 10 0 0 24 = 1 ∧ ∃ mk t tc, mk ≤ B ∧ t ≤ B ∧ tc ≤ B ∧ PS a M M mk t t tc)) ∧ (RD M M ∧ VK M) ∧ ∃ mk, mk ≤ B ∧ M.1 6 0 0 2 = nI mk ∧ M.1 10 0 0 39 = nI mk
theorem JR_fr {S : Nat → Nat → Nat → Nat → Prop} {a : Nat → Nat → Int32} {M N : sm_M} {B B' : Nat} (h : frS S M N) (hS : ∀ c p j i, S c p j i → ¬ (c = 0 ∨ (c = 3 ∧ j = 0 ∧ i = 5) ∨ c = 6 ∨ c = 7 ∨ (c = 10 ∧ p = 0 ∧ (26 ≤ j ∨ (j = 0 ∧ (i = 24 ∨ (38 ≤ i ∧ i ≤ 40))))))) (hB : B ≤ B') (r : JR a M B) : JR a N B' := by
  obtain ⟨r1, r2, mk, m1, m2, m3⟩ := r
  have e := fun c p j i (z : (c = 0 ∨ (c = 3 ∧ j = 0 ∧ i = 5) ∨ c = 6 ∨ c = 7 ∨ (c = 10 ∧ p = 0 ∧ (26 ≤ j ∨ (j = 0 ∧ (i = 24 ∨ (38 ≤ i ∧ i ≤ 40))))))) => h.2 c p j i (fun y => hS c p j i y z)
  refine ⟨?_, ⟨RD_fr r2.1 (e 6 0 0 1 (by decide)) (fun i => e 6 0 1 i (by omega)) (e 10 0 0 40 (by decide)) (fun i => e 10 0 42 i (by omega)), VK_c r2.2 (fun p j i => e 0 p j i (by omega)) (fun j i hj => e 10 0 j i (by omega))⟩, mk, by omega, (e 6 0 0 2 (by decide)).trans m2, (e 10 0 0 39 (by decide)).trans m3⟩
  rw [e 3 0 0 5 (by decide), e 10 0 0 24 (by decide)]
  refine r1.imp id (fun ⟨g1, g2, mk, t, tc, b1, b2, b3, ps⟩ => ⟨g1, g2, mk, t, tc, by omega, by omega, by omega, ?_⟩)
  have hM := fun p j i => e 0 p j i (by omega)
  obtain ⟨q, rm, rs⟩ := ps
  have ea : ∀ j p, 29 ≤ j → aR N j p = aR M j p := by
    intro j p hj
    funext v
    unfold aR
    rw [e 10 0 j _ (by omega)]
  have ew : Wt N = Wt M := by
    funext k i x
    unfold Wt
    rw [e 10 0 36 _ (by omega), e 10 0 37 _ (by omega)]
  refine ⟨fun p hp => ?_, RM_fr rm (fun j i => e 7 0 j i (by omega)) (fun j i _ _ => e 10 0 j i (by omega)) (Nat.le_refl _), RS_fr rs (fun p j i _ _ => hM p j i) (fun j i _ => e 10 0 j i (by omega))⟩
  obtain ⟨q1, q2, q3, q4, q5, q6, q7⟩ := q p hp
  refine ⟨PV_o q1 ?_ ?_ ?_ ?_ ?_ (fun j _ _ => ea j p (by omega)), RD_fr q2 (e 6 0 0 1 (by decide)) (fun i => e 6 0 1 i (by omega)) (e 10 0 0 40 (by decide)) (fun i => e 10 0 42 i (by omega)), ?_, (e 6 0 0 2 (by decide)).trans q4, (e 10 0 0 39 (by decide)).trans q5, (e 10 0 0 38 (by decide)).trans q6, (e 6 0 0 3 (by decide)).trans q7⟩
  · funext v; exact hM p 2 v
  · funext v; exact hM p 3 v
  · funext v; exact hM p 4 v
  · funext v; exact hM p 5 v
  · funext v; unfold lpC; rw [hM p 0 6]
  · unfold RI
    simp only [ea 29 _ (by decide), ea 30 _ (by decide), ew]
    exact q3
/-- the cells that a call of the run changes; a call on both sides: mp: what the reference tells of what the class throws -/
def sRX (c q j i : Nat) : Prop := c = 3 ∨ sRC c q j i
def sRY (c q j i : Nat) : Prop := sRN c q j i ∨ (c = 10 ∧ q = 0 ∧ j = 0 ∧ (i = 0 ∨ i = 24))
def SIR (dC : Option sm_R) (dR : sm_M → Option sm_R) (mp : Nat → Int32) (a : Nat → Nat → Int32) (M : sm_M) (B : Nat) : Prop :=
  ∃ e x M1, dC = some (e, .inl x, M1) ∧ frS sRX M M1 ∧ ∀ N, eqT M1 N → ∃ y N1, dR N = some (0, .inl y, N1) ∧ N1.1 10 0 0 0 = mp e ∧ (e = 0 → x = y) ∧ frS sRY N N1 ∧ JR a N1 B
theorem thr_sRN {N : sm_M} {x : Int32} : frS sRY N (sm_u N 10 0 0 0 x) := frS_u (Or.inr ⟨rfl, rfl, rfl, Or.inl rfl⟩)
theorem sRC_X {M N : sm_M} (h : frS sRC M N) : frS sRX M N := frS_w h (fun _ _ _ _ z => Or.inr z)
theorem sRN_Y {M N : sm_M} (h : frS sRN M N) : frS sRY M N := frS_w h (fun _ _ _ _ z => Or.inl z)
theorem JR_eq {a : Nat → Nat → Int32} {M N : sm_M} {B B' : Nat} (h : eqT M N) (hB : B ≤ B') (r : JR a M B) : JR a N B' := by
  obtain ⟨r1, r2, mk, m1, m2, m3⟩ := r
  have e : ∀ c p j i, c ≤ 10 → N.1 c p j i = M.1 c p j i := fun c p j i hc => by rw [(h c hc).1]
  refine ⟨?_, ⟨RD_mem r2.1 (fun j i => e _ _ _ _ (by decide)) (fun j i => e _ _ _ _ (by decide)), VK_c r2.2 (fun p j i => e _ _ _ _ (by decide)) (fun j i _ => e _ _ _ _ (by decide))⟩, mk, by omega, (e _ _ _ _ (by decide)).trans m2, (e _ _ _ _ (by decide)).trans m3⟩
  rw [e 3 0 0 5 (by decide), e 10 0 0 24 (by decide)]
  exact r1.imp id (fun ⟨g1, g2, mk, t, tc, b1, b2, b3, ps⟩ => ⟨g1, g2, mk, t, tc, by omega, by omega, by omega, PS_mem ps (fun c p j i hc => e c p j i (by omega)) (fun j i => e _ _ _ _ (by decide))⟩)
theorem JR_thr {a : Nat → Nat → Int32} {N : sm_M} {B B' : Nat} {x : Int32} (hB : B ≤ B') (r : JR a N B) : JR a (sm_u N 10 0 0 0 x) B' :=
  JR_fr (S := fun c p j i => c = 10 ∧ p = 0 ∧ j = 0 ∧ i = 0) (frS_u ⟨rfl, rfl, rfl, rfl⟩) (fun c p j i z => by omega) hB r
theorem eqT_cell {M N : sm_M} (h : eqT M N) {c : Nat} (hc : c ≤ 10) (p j i : Nat) : N.1 c p j i = M.1 c p j i := by rw [(h c hc).1]
/-- two memories of a run become one -/
theorem JR_join {a : Nat → Nat → Int32} {M M1 N N1 : sm_M} {mk t tc B : Nat} (on : M.1 3 0 0 5 = 1) (fm : frS sRC M M1) (he : eqT M1 N) (on2 : N.1 10 0 0 24 = 1) (fn : frS sRN N N1) (ps : PS a M1 N1 mk t t tc) (h1 : mk ≤ B) (h2 : t ≤ B) (h3 : tc ≤ B) : JR a N1 B := by
  have e : ∀ c p j i, c ≤ 9 → N1.1 c p j i = M1.1 c p j i := fun c p j i hc => (fn.2 c p j i (fun z => by unfold sRN at z; omega)).trans (eqT_cell he (by omega) p j i)
  have pj : PS a N1 N1 mk t t tc := PS_mem ps (fun c p j i hc => e c p j i (by omega)) (fun _ _ => rfl)
  obtain ⟨_, q2, _, q4, q5, _, _⟩ := pj.1 0 (by decide)
  exact ⟨Or.inr ⟨(e 3 0 0 5 (by decide)).trans ((fm.2 3 0 0 5 (by unfold sRC; omega)).trans on), (fn.2 10 0 0 24 (by unfold sRN; omega)).trans on2, mk, t, tc, h1, h2, h3, pj⟩, ⟨q2, VK_of pj⟩, mk, h1, q4, q5⟩
def mpG (e : Nat) : Int32 := if e = 3 then 2 else nI e
def mpR (e : Nat) : Int32 := if e = 2 then 1 else if e = 3 then 2 else nI e
/-- the class's memory behind a run's call, and the reference's before it -/
theorem PS_on {a : Nat → Nat → Int32} {M M1 N : sm_M} {mk t tc : Nat} {x : Int32} (fm : frS sRC M M1) (he : eqT M1 N) (ps : PS a M M mk t t tc) : PS a M (sm_u N 10 0 0 0 x) mk t t tc := by
  have h : PS a M N mk t t tc := PS_mem ps (fun _ _ _ _ _ => rfl) (fun j i => (eqT_cell he (by decide) 0 j i).trans (fm.2 10 0 j i (by unfold sRC; omega)))
  obtain ⟨q, rm, rs⟩ := h
  refine ⟨fun p hp => ?_, RM_fr rm (fun _ _ => rfl) (fun j i _ _ => u_mis (by omega)) (Nat.le_refl _), RS_fr rs (fun _ _ _ _ _ => rfl) (fun j i _ => u_mis (by omega))⟩
  have fn : frS jN N (sm_u N 10 0 0 0 x) := frS_u (by unfold jN; omega)
  exact Q_j (q p hp) frS_r fn (RI_j (q p hp).2.2.1 fn (fun k i y _ w => by rw [Wt_35 (by omega)] at w; exact w))
theorem S_run {sc : Nat × (Nat → Int32)} {a : Nat → Nat → Int32} {M : sm_M} {B : Nat} (b : BI a M) (j : JR a M B) (hB : B + 202 < 2000000) (seed turns : Int32) : SIR (dn sc kTop_run 0 [.inr (.inr (9, 0, 0)), .inl seed, .inl turns] [] M) (fun N => dn sc kModel_run 0 [.inr (.inr (10, 0, 0)), .inl seed, .inl turns] [] N) mpR a M (B + 200) := by
  have wf := b.2.1
  have e5 : ∀ (N : sm_M) (x : Int32), 0 < x → dn sc kModel_run 5 [.inr (.inr (10, 0, 0)), .inl seed, .inl turns] [.inl x, .inr (.inr (10, 0, 0))] N = some (0, .inl 0, sm_u N 10 0 0 0 x) := fun N x hx => by rw [E_Model_run_5, u_hit, if_pos hx]
  have bad : ∀ (hc : turns < 1 ∨ 200 < turns), SIR (dn sc kTop_run 0 [.inr (.inr (9, 0, 0)), .inl seed, .inl turns] [] M) (fun N => dn sc kModel_run 0 [.inr (.inr (10, 0, 0)), .inl seed, .inl turns] [] N) mpR a M (B + 200) := by
    intro hc
    refine ⟨2, 0, M, ?_, frS_r, fun N hN => ⟨0, sm_u N 10 0 0 0 1, ?_, u_hit, fun h => by omega, thr_sRN, JR_thr (Nat.le_refl _) (JR_eq hN (by omega) j)⟩⟩
    · rw [E_Top_run_0]
      by_cases z : turns < 1
      · rw [if_pos z]
      · rw [if_neg z, if_pos (hc.resolve_left z)]
    · dsimp only
      rw [E_Model_run_0, P_in, r1_s]
      have : (!decide (turns < 1) && !decide (200 < turns)) = false := by
        rcases hc with z | z
        · rw [decide_eq_true z]; rfl
        · rw [decide_eq_true z, Bool.not_true, Bool.and_false]
      rw [this, if_pos (show bI false = 0 from rfl), e5 N 1 (by decide)]
  by_cases t1 : turns < 1
  · exact bad (Or.inl t1)
  by_cases t2 : 200 < turns
  · exact bad (Or.inr t2)
  have ein : (!decide (turns < 1) && !decide (200 < turns)) = true := by rw [decide_eq_false t1, decide_eq_false t2]; rfl
  obtain ⟨n, n1, rfl⟩ : ∃ n, n ≤ 200 ∧ turns = nI n := by
    have h0 : ¬ turns < 0 := fun z => t1 (by
      rw [Int32.lt_iff_toInt_lt] at z ⊢
      rw [show (0 : Int32).toInt = 0 from rfl] at z
      rw [show (1 : Int32).toInt = 1 from rfl]
      omega)
    obtain ⟨k, hk, rfl⟩ := nI_of h0
    refine ⟨k, ?_, rfl⟩
    rw [show (200 : Int32) = nI 200 from rfl, i_lt (by decide) hk] at t2
    omega
  obtain ⟨j1, j2, mk0, j3⟩ := j
  rcases j1 with ⟨o1, o2⟩ | ⟨o1, o2, mk, t, tc, b1, b2, b3, ps⟩
  · refine ⟨3, 0, M, ?_, frS_r, fun N hN => ⟨0, sm_u N 10 0 0 0 2, ?_, u_hit, fun h => by omega, thr_sRN, JR_thr (Nat.le_refl _) (JR_eq hN (show B ≤ B + 200 by omega) ⟨Or.inl ⟨o1, o2⟩, j2, mk0, j3⟩)⟩⟩
    · rw [E_Top_run_0, if_neg t1, if_neg t2, E_Course_isOn_0, o1, if_pos rfl, r1_s, if_pos rfl]
    · dsimp only
      rw [E_Model_run_0, P_in, r1_s, ein, if_neg (show ¬ bI true = 0 by decide), eqT_cell hN (by decide), o2, if_pos rfl, e5 N 2 (by decide)]
  · have tl := b.1
    have r := b.2.2.1
    obtain ⟨k, M1, N0, k1, g1, _, _, ⟨f1, _⟩⟩ := T_draw (sc := sc) wf n1 n 0 seed M M mk t tc (by omega) tl r ps (by omega) (by omega) (by omega)
    refine ⟨0, nI k, M1, ?_, sRC_X f1, fun N hN => ?_⟩
    · rw [E_Top_run_0, if_neg t1, if_neg t2, E_Course_isOn_0, o1, if_neg (show ¬ (1 : Int32) = 0 by decide), if_pos rfl, r1_s, if_neg (show ¬ (1 : Int32) = 0 by decide), E_Course_draw_0, show dn sc kCourse_draw 1 [.inr (.inr (3, 0, 0)), .inl (nI n), .inl seed, .inl 0] [] M = _ from g1, r1_s]
    · have rN : cr a (sm_u N 10 0 0 0 0) := by
        refine ⟨(u_mis (by omega)).trans ((eqT_cell hN (by decide) 0 0 5).trans ((f1.2 10 0 0 5 (by unfold sRC; omega)).trans r.1)), fun j h1 h2 => ?_⟩
        refine Eq.trans ?_ (r.2 j h1 h2)
        funext i
        exact (u_mis (by omega)).trans ((eqT_cell hN (by decide) 0 j i).trans (f1.2 10 0 j i (by unfold sRC; omega)))
      have psN := PS_on (x := 0) f1 hN ps
      obtain ⟨k', M1', N1, k1', g1', g2', ⟨mk', t', tc', c1, c2, c3, c4⟩, ⟨f1', f2'⟩⟩ := T_draw (sc := sc) wf n1 n 0 seed M (sm_u N 10 0 0 0 0) mk t tc (by omega) tl rN psN (by omega) (by omega) (by omega)
      have ee := Prod.mk.inj (Prod.mk.inj (Option.some.inj (g1.symm.trans g1'))).2
      have ek : nI k = nI k' := Sum.inl.inj ee.1
      have eM : M1 = M1' := ee.2
      subst eM
      have o24 : (sm_u N 10 0 0 0 0).1 10 0 0 24 = 1 := (u_mis (by omega)).trans ((eqT_cell hN (by decide) 0 0 24).trans ((f1.2 10 0 0 24 (by unfold sRC; omega)).trans o2))
      have hN' : eqT M1 (sm_u N 10 0 0 0 0) ∨ True := Or.inr trivial
      clear hN'
      refine ⟨nI k', N1, ?_, (f2'.2 10 0 0 0 (by unfold sRN; omega)).trans u_hit, fun _ => ek, frS_t thr_sRN (sRN_Y f2'), ?_⟩
      · dsimp only
        have e24 : N.1 10 0 0 24 = 1 := (eqT_cell hN (by decide) 0 0 24).trans ((f1.2 10 0 0 24 (by unfold sRC; omega)).trans o2)
        rw [E_Model_run_0, P_in, r1_s, ein, if_neg (show ¬ bI true = 0 by decide), e24, if_neg (show ¬ (1 : Int32) = 0 by decide), E_Model_run_5, u_hit, if_neg (show ¬ (0 : Int32) < 0 by decide), P_mCnt wf tl rN psN, r1_s]
        exact g2'
      · have e9 : ∀ c p j i, c ≤ 9 → N1.1 c p j i = M1.1 c p j i := fun c p j i hc => (f2'.2 c p j i (fun z => by unfold sRN at z; omega)).trans ((u_mis (by omega)).trans (eqT_cell hN (by omega) p j i))
        have pj : PS a N1 N1 mk' t' t' tc' := PS_mem c4 (fun c p j i hc => e9 c p j i (by omega)) (fun _ _ => rfl)
        obtain ⟨_, q2, _, q4, q5, _, _⟩ := pj.1 0 (by decide)
        exact ⟨Or.inr ⟨(e9 3 0 0 5 (by decide)).trans ((f1.2 3 0 0 5 (by unfold sRC; omega)).trans o1), (f2'.2 10 0 0 24 (by unfold sRN; omega)).trans o24, mk', t', tc', by omega, by omega, by omega, pj⟩, ⟨q2, VK_of pj⟩, mk', by omega, q4, q5⟩
