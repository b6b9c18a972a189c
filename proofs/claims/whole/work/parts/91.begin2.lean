/-! LEVEL B: the run begins: both sides in one memory -/
theorem PS_zero {a : Nat → Nat → Int32} {M : sm_M} (wf : wfA a) (vk : VK M) (h2 : ∀ p v, p < 3 → M.1 0 p 2 v = 0) (h6 : ∀ p v, p < 3 → M.1 0 p 6 v = 0) (h0 : ∀ p, p < 3 → M.1 0 p 0 7 = 0 ∧ M.1 0 p 0 8 = 0 ∧ M.1 0 p 0 9 = 0) (hl : M.1 6 0 0 1 = 0 ∧ M.1 6 0 0 2 = 0 ∧ M.1 6 0 0 3 = 0) (h7 : ∀ k, M.1 7 0 1 k = 0)
    (g : ∀ p, p < 3 → M.1 10 0 26 p = 0 ∧ M.1 10 0 27 p = 0 ∧ M.1 10 0 28 p = 0) (g29 : ∀ i, i < 18 → M.1 10 0 29 i = 0) (g35 : ∀ k, k < 6 → M.1 10 0 35 k = 0 ∧ M.1 10 0 36 k = 0) (gl : M.1 10 0 0 38 = 0 ∧ M.1 10 0 0 39 = 0 ∧ M.1 10 0 0 40 = 0) : PS a M M 0 0 0 0 := by
  have a0 : ∀ p v, p < 3 → v < 6 → aR M 29 p v = 0 := fun p v hp hv => by rw [← aR_i hv]; exact g29 _ (by omega)
  have w0 : ∀ k i x, k < 6 → ¬ Wt M k i x := by
    intro k i x hk ⟨⟨m, m1, m2, m3⟩, _⟩
    rw [(g35 k hk).2, show (0 : Int32) = nI 0 from rfl, i_eq (by omega) (by omega)] at m2
    omega
  have n01 : ∀ {p v : Nat} {y : Int32}, p < 3 → v < 6 → ¬ y = 0 → ¬ aR M 29 p v = y := fun hp hv hy z => hy (z.symm.trans (a0 _ _ hp hv))
  refine ⟨fun p hp => ⟨⟨fun v hv => ⟨(h2 p v hp).trans (a0 p v hp hv).symm, vk p v hp hv⟩, fun v hv => ⟨0, by decide, a0 p v hp hv⟩, fun v hv z => absurd (a0 p v hp hv) z, fun v hv z => absurd z (n01 hp hv (by decide)), fun v hv z => absurd z (n01 hp hv (by decide)), fun v hv z => z.elim (fun y => absurd y (n01 hp hv (by decide))) (fun y => absurd y (n01 hp hv (by decide))), fun v w hv hw z => absurd z (n01 hp hv (by decide)), fun v w hv hw z => absurd z (n01 hp hv (by decide))⟩, ⟨0, by decide, hl.1, gl.2.2, fun i hi => absurd hi (Nat.not_lt_zero _)⟩, ⟨fun p q v w hp hq hv hw z => absurd z (n01 hp hv (by decide)), fun p v k i hp hv hk z => absurd z (n01 hp hv (by decide)), fun k i k' i' x hk hk' hx z => absurd z (w0 k i x hk)⟩, hl.2.1, gl.2.1, gl.1, hl.2.2⟩, fun k hk => ⟨0, by decide, h7 k, (g35 k hk).2, fun i hi => absurd hi (Nat.not_lt_zero _)⟩, fun p hp => ⟨⟨0, by decide, (h0 p hp).1, (g p hp).1⟩, (h0 p hp).2.1.trans (g p hp).2.1.symm, ⟨0, Nat.zero_le _, (h0 p hp).2.2, (g p hp).2.2⟩, fun c hc => ⟨0, by decide, h6 p c hp⟩, fun c hc => ?_⟩⟩
  obtain ⟨c1, c2, _⟩ := of_c wf hc
  exact ⟨0, (wf.2.2.2.2 c c1).2.2.2.2.2.2.2.1, h6 p c hp, (g35 _ (qN_6 c2)).1⟩
theorem S_begin {sc : Nat × (Nat → Int32)} {a : Nat → Nat → Int32} {M : sm_M} {B : Nat} (b : BI a M) (j : JR a M B) : SIR (dn sc kTop_begin 0 [.inr (.inr (9, 0, 0))] [] M) (fun N => dn sc kModel_begin 0 [.inr (.inr (10, 0, 0))] [] N) mpG a M B := by
  have vk := j.2.1.2
  have fC : frS sRX M (begC M) := by
    refine ⟨rfl, fun c p j i h => ?_⟩
    unfold sRX sRC at h
    rw [begC_1, if_neg (by omega), if_neg (by omega), if_neg (by omega), if_neg (by omega)]
  refine ⟨0, 0, begC M, by rw [E_Top_begin_0, P_restart, r0_s], fC, fun N hN => ?_⟩
  obtain ⟨N1, n1, n2, n3⟩ := P_mBegin (sc := sc) N
  have eC : ∀ c p j i, c ≤ 9 → N1.1 c p j i = (begC M).1 c p j i := fun c p j i hc => by
    rw [n3, if_neg (by omega), if_neg (by omega)]
    exact eqT_cell hN (by omega) p j i
  have eR : ∀ j i, 30 ≤ j → j ≤ 31 → N1.1 10 0 j i = M.1 10 0 j i := fun j i h1 h2 => by
    rw [n3, if_neg (by omega), if_neg (by omega), eqT_cell hN (by decide)]
    exact fC.2 10 0 j i (by unfold sRX sRC; omega)
  have vk1 : VK N1 := by
    intro p v hp hv
    obtain ⟨e1, e2⟩ := vk p v hp hv
    have c3 : ∀ j, 3 ≤ j → j ≤ 4 → N1.1 0 p j v = M.1 0 p j v := fun j h1 h2 => by
      rw [eC _ _ _ _ (by decide), begC_1, if_neg (by omega), if_neg (by omega), if_neg (by omega), if_neg (by omega)]
    unfold xC kC aR at *
    rw [c3 3 (by decide) (by decide), c3 4 (by decide) (by decide), eR 30 _ (by decide) (by decide), eR 31 _ (by decide) (by decide)]
    exact ⟨e1, e2⟩
  have z0 : ∀ p j i, p < 3 → (j = 2 ∨ j = 6 ∨ (j = 0 ∧ 6 ≤ i ∧ i ≤ 9)) → N1.1 0 p j i = 0 := fun p j i hp h => by
    rw [eC _ _ _ _ (by decide), begC_1, if_pos ⟨rfl, hp, h⟩]
  have z6 : ∀ i, 1 ≤ i → i ≤ 3 → N1.1 6 0 0 i = 0 := fun i h1 h2 => by
    rw [eC _ _ _ _ (by decide), begC_1, if_neg (by omega), if_neg (by omega), if_pos (by omega)]
  have zr : ∀ j i, ((j = 0 ∧ (i = 0 ∨ i = 38 ∨ i = 39 ∨ i = 40)) ∨ ((26 ≤ j ∧ j ≤ 28) ∧ i < 3) ∨ (j = 29 ∧ i < 18) ∨ ((j = 35 ∨ j = 36) ∧ i < 6)) → N1.1 10 0 j i = 0 := fun j i h => by
    rw [n3, if_neg (by omega), if_pos ⟨rfl, rfl, h⟩]
  have ps : PS a N1 N1 0 0 0 0 := PS_zero b.2.1 vk1 (fun p v hp => z0 p 2 v hp (by omega)) (fun p v hp => z0 p 6 v hp (by omega)) (fun p hp => ⟨z0 p 0 7 hp (by omega), z0 p 0 8 hp (by omega), z0 p 0 9 hp (by omega)⟩) ⟨z6 1 (by decide) (by decide), z6 2 (by decide) (by decide), z6 3 (by decide) (by decide)⟩
    (fun k => by rw [eC _ _ _ _ (by decide), begC_1, if_neg (by omega), if_pos ⟨rfl, rfl, rfl⟩]) (fun p hp => ⟨zr 26 p (by omega), zr 27 p (by omega), zr 28 p (by omega)⟩) (fun i hi => zr 29 i (by omega)) (fun k hk => ⟨zr 35 k (by omega), zr 36 k (by omega)⟩) ⟨zr 0 38 (by omega), zr 0 39 (by omega), zr 0 40 (by omega)⟩
  refine ⟨0, N1, n1, zr 0 0 (by omega), fun _ => rfl, ⟨n2, fun c p j i h => ?_⟩, Or.inr ⟨?_, ?_, 0, 0, 0, Nat.zero_le _, Nat.zero_le _, Nat.zero_le _, ps⟩, ⟨(ps.1 0 (by decide)).2.1, vk1⟩, 0, Nat.zero_le _, z6 2 (by decide) (by decide), zr 0 39 (by omega)⟩
  · unfold sRY sRN at h
    rw [n3, if_neg (by omega), if_neg (by omega)]
  · rw [eC _ _ _ _ (by decide), begC_1, if_neg (by omega), if_neg (by omega), if_neg (by omega), if_pos ⟨rfl, rfl, rfl, rfl⟩]
  · rw [n3, if_pos ⟨rfl, rfl, rfl, rfl⟩]
