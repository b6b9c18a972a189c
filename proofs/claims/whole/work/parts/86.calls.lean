/-! LEVEL B: the run: calls on both sides, in one memory -/
theorem RD_mem {M N M' N' : sm_M} (h : RD M N) (hM : ∀ j i, M'.1 6 0 j i = M.1 6 0 j i) (hN : ∀ j i, N'.1 10 0 j i = N.1 10 0 j i) : RD M' N' := RD_fr h (hM _ _) (fun i => hM _ _) (hN _ _) (fun i => hN _ _)
theorem PS_mem {a : Nat → Nat → Int32} {M N M' N' : sm_M} {mk T b tc : Nat} (h : PS a M N mk T b tc) (hM : ∀ c p j i, (c = 0 ∨ c = 6 ∨ c = 7) → M'.1 c p j i = M.1 c p j i) (hN : ∀ j i, N'.1 10 0 j i = N.1 10 0 j i) : PS a M' N' mk T b tc := by
  obtain ⟨q, rm, rs⟩ := h
  have ea : ∀ j p, aR N' j p = aR N j p := by
    intro j p
    funext v
    unfold aR
    rw [hN]
  have ew : Wt N' = Wt N := by
    funext k i x
    unfold Wt
    rw [hN, hN]
  refine ⟨fun p hp => ?_, RM_fr rm (fun j i => hM 7 0 j i (by decide)) (fun j i _ _ => hN j i) (Nat.le_refl _), RS_fr rs (fun p j i _ _ => hM 0 p j i (by decide)) (fun j i _ => hN j i)⟩
  obtain ⟨q1, q2, q3, q4, q5, q6, q7⟩ := q p hp
  refine ⟨PV_o q1 ?_ ?_ ?_ ?_ ?_ (fun j _ _ => ea j p), RD_mem q2 (fun j i => hM 6 0 j i (by decide)) hN, ?_, (hM 6 0 0 2 (by decide)).trans q4, (hN 0 39).trans q5, (hN 0 38).trans q6, (hM 6 0 0 3 (by decide)).trans q7⟩
  · funext v; exact hM 0 p 2 v (by decide)
  · funext v; exact hM 0 p 3 v (by decide)
  · funext v; exact hM 0 p 4 v (by decide)
  · funext v; exact hM 0 p 5 v (by decide)
  · funext v; unfold lpC; rw [hM 0 p 0 6 (by decide)]
  · unfold RI
    simp only [ea, ew]
    exact q3
/-- what stands of the run in one memory: B bounds the values and the times -/
def JR (a : Nat → Nat → Int32) (M : sm_M) (B : Nat) : Prop := ((M.1 3 0 0 5 = 0 ∧ M.1 10 0 0 24 = 0) ∨ (M.1 3 0 0 5 = 1 ∧ M.1 10 0 0 24 = 1 ∧ ∃ mk t tc, mk ≤ B ∧ t ≤ B ∧ tc ≤ B ∧ PS a M M mk t t tc)) ∧ RD M M ∧ ∃ mk, mk ≤ B ∧ M.1 6 0 0 2 = nI mk ∧ M.1 10 0 0 39 = nI mk
theorem JR_fr {S : Nat → Nat → Nat → Nat → Prop} {a : Nat → Nat → Int32} {M N : sm_M} {B B' : Nat} (h : frS S M N) (hS : ∀ c p j i, S c p j i → ¬ (c = 0 ∨ (c = 3 ∧ j = 0 ∧ i = 5) ∨ c = 6 ∨ c = 7 ∨ (c = 10 ∧ p = 0 ∧ (26 ≤ j ∨ (j = 0 ∧ (i = 24 ∨ (38 ≤ i ∧ i ≤ 40))))))) (hB : B ≤ B') (r : JR a M B) : JR a N B' := by
  obtain ⟨r1, r2, mk, m1, m2, m3⟩ := r
  have e := fun c p j i (z : (c = 0 ∨ (c = 3 ∧ j = 0 ∧ i = 5) ∨ c = 6 ∨ c = 7 ∨ (c = 10 ∧ p = 0 ∧ (26 ≤ j ∨ (j = 0 ∧ (i = 24 ∨ (38 ≤ i ∧ i ≤ 40))))))) => h.2 c p j i (fun y => hS c p j i y z)
  refine ⟨?_, RD_fr r2 (e 6 0 0 1 (by decide)) (fun i => e 6 0 1 i (by omega)) (e 10 0 0 40 (by decide)) (fun i => e 10 0 42 i (by omega)), mk, by omega, (e 6 0 0 2 (by decide)).trans m2, (e 10 0 0 39 (by decide)).trans m3⟩
  rw [e 3 0 0 5 (by decide), e 10 0 0 24 (by decide)]
  refine r1.imp id (fun ⟨g1, g2, mk, t, tc, b1, b2, b3, ps⟩ => ⟨g1, g2, mk, t, tc, by omega, by omega, by omega, ?_⟩)
  have hM := fun p j i => e 0 p j i (by omega)
  obtain ⟨q, rm, rs⟩ := ps
  have ea : ∀ j p, 29 ≤ j → aR N j p = aR M j p := by
    intro j p hj
    funext v
    unfold aR
    rw [e 10 0 j _ (by omega)]
  have ew : Wt N = Wt M := by
    funext k i x
    unfold Wt
    rw [e 10 0 36 _ (by omega), e 10 0 37 _ (by omega)]
  refine ⟨fun p hp => ?_, RM_fr rm (fun j i => e 7 0 j i (by omega)) (fun j i _ _ => e 10 0 j i (by omega)) (Nat.le_refl _), RS_fr rs (fun p j i _ _ => hM p j i) (fun j i _ => e 10 0 j i (by omega))⟩
  obtain ⟨q1, q2, q3, q4, q5, q6, q7⟩ := q p hp
  refine ⟨PV_o q1 ?_ ?_ ?_ ?_ ?_ (fun j _ _ => ea j p (by omega)), RD_fr q2 (e 6 0 0 1 (by decide)) (fun i => e 6 0 1 i (by omega)) (e 10 0 0 40 (by decide)) (fun i => e 10 0 42 i (by omega)), ?_, (e 6 0 0 2 (by decide)).trans q4, (e 10 0 0 39 (by decide)).trans q5, (e 10 0 0 38 (by decide)).trans q6, (e 6 0 0 3 (by decide)).trans q7⟩
  · funext v; exact hM p 2 v
  · funext v; exact hM p 3 v
  · funext v; exact hM p 4 v
  · funext v; exact hM p 5 v
  · funext v; unfold lpC; rw [hM p 0 6]
  · unfold RI
    simp only [ea 29 _ (by decide), ea 30 _ (by decide), ew]
    exact q3
/-- a run's call on both sides: mp: what the reference tells of what the class throws -/
def SIR (dC : Option sm_R) (dR : sm_M → Option sm_R) (mp : Nat → Int32) (a : Nat → Nat → Int32) (M : sm_M) (B : Nat) : Prop :=
  ∃ e x M1, dC = some (e, .inl x, M1) ∧ frS sRC M M1 ∧ ∀ N, eqT M1 N → ∃ y N1, dR N = some (0, .inl y, N1) ∧ N1.1 10 0 0 0 = mp e ∧ (e = 0 → x = y) ∧ frS sRN N N1 ∧ JR a N1 B
theorem thr_sRN {N : sm_M} {x : Int32} : frS sRN N (sm_u N 10 0 0 0 x) := frS_u ⟨rfl, rfl, Or.inr ⟨rfl, Or.inl rfl⟩⟩
theorem JR_eq {a : Nat → Nat → Int32} {M N : sm_M} {B B' : Nat} (h : eqT M N) (hB : B ≤ B') (r : JR a M B) : JR a N B' := by
  obtain ⟨r1, r2, mk, m1, m2, m3⟩ := r
  have e : ∀ c p j i, c ≤ 10 → N.1 c p j i = M.1 c p j i := fun c p j i hc => by rw [(h c hc).1]
  refine ⟨?_, RD_mem r2 (fun j i => e _ _ _ _ (by decide)) (fun j i => e _ _ _ _ (by decide)), mk, by omega, (e _ _ _ _ (by decide)).trans m2, (e _ _ _ _ (by decide)).trans m3⟩
  rw [e 3 0 0 5 (by decide), e 10 0 0 24 (by decide)]
  exact r1.imp id (fun ⟨g1, g2, mk, t, tc, b1, b2, b3, ps⟩ => ⟨g1, g2, mk, t, tc, by omega, by omega, by omega, PS_mem ps (fun c p j i hc => e c p j i (by omega)) (fun j i => e _ _ _ _ (by decide))⟩)
theorem JR_thr {a : Nat → Nat → Int32} {N : sm_M} {B B' : Nat} {x : Int32} (hB : B ≤ B') (r : JR a N B) : JR a (sm_u N 10 0 0 0 x) B' :=
  JR_fr (S := fun c p j i => c = 10 ∧ p = 0 ∧ j = 0 ∧ i = 0) (frS_u ⟨rfl, rfl, rfl, rfl⟩) (fun c p j i z => by omega) hB r
theorem eqT_cell {M N : sm_M} (h : eqT M N) {c : Nat} (hc : c ≤ 10) (p j i : Nat) : N.1 c p j i = M.1 c p j i := by rw [(h c hc).1]
/-- two memories of a run become one -/
theorem JR_join {a : Nat → Nat → Int32} {M M1 N N1 : sm_M} {mk t tc B : Nat} (fm : frS sRC M M1) (he : eqT M1 N) (fn : frS sRN N N1) (on1 : N1.1 3 0 0 5 = 1) (on2 : N1.1 10 0 0 24 = 1) (ps : PS a M1 N1 mk t t tc) (h1 : mk ≤ B) (h2 : t ≤ B) (h3 : tc ≤ B) : JR a N1 B := by
  have e : ∀ c p j i, c ≤ 9 → N1.1 c p j i = M1.1 c p j i := fun c p j i hc => (fn.2 c p j i (fun z => by unfold sRN at z; omega)).trans (eqT_cell he (by omega) p j i)
  have pj : PS a N1 N1 mk t t tc := PS_mem ps (fun c p j i hc => e c p j i (by omega)) (fun _ _ => rfl)
  obtain ⟨_, q2, _, q4, q5, _, _⟩ := pj.1 0 (by decide)
  exact ⟨Or.inr ⟨on1, on2, mk, t, tc, h1, h2, h3, pj⟩, q2, mk, h1, q4, q5⟩
def mpG (e : Nat) : Int32 := if e = 3 then 2 else nI e
def mpR (e : Nat) : Int32 := if e = 2 then 1 else if e = 3 then 2 else nI e
