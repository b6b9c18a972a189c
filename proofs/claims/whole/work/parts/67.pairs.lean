/-! LEVEL B: the run: what both sides do to the variables of a process, in pairs -/
/-- the variables of a process, the class's in M, the reference's in N -/
def PV (p : Nat) (M N : sm_M) (mk t tc : Nat) : Prop := (∀ v, v < 6 → hC M p v = aR N 29 p v ∧ xC M p v = aR N 30 p v ∧ kC M p v = aR N 31 p v) ∧
  VR (aR N 29 p) (aR N 30 p) (aR N 31 p) (sC M p) (lpC M p) (aR N 32 p) (aR N 33 p) (aR N 34 p) (6 * p) mk t tc
/-- dropped values -/
def RD (M N : sm_M) : Prop := ∃ d, d ≤ 200 ∧ M.1 6 0 0 1 = nI d ∧ N.1 10 0 0 40 = nI d ∧ ∀ i, i < d → M.1 6 0 1 i = N.1 10 0 42 i
theorem RD_dp {M N : sm_M} {x : Int32} (r : RD M N) : RD (dpC M x) (dpR N x) := by
  obtain ⟨d, hd, h1, h2, h3⟩ := r
  unfold dpC dpR
  by_cases z : d < 200
  · have l1 : M.1 6 0 0 1 < 200 := by rw [h1, show (200 : Int32) = nI 200 from rfl, i_lt (by omega) (by decide)]; exact z
    have l2 : N.1 10 0 0 40 < 200 := by rw [h2, show (200 : Int32) = nI 200 from rfl, i_lt (by omega) (by decide)]; exact z
    rw [if_pos l1, if_pos l2, h1, h2, nI_1, i_cl (by omega)]
    refine ⟨d + 1, by omega, u_hit, u_hit, fun i hi => ?_⟩
    have a1 : (sm_u (sm_u M 6 0 1 d x) 6 0 0 1 (nI (d + 1))).1 6 0 1 i = (sm_u M 6 0 1 d x).1 6 0 1 i := u_mis (by omega)
    have a2 : (sm_u (sm_u N 10 0 42 d x) 10 0 0 40 (nI (d + 1))).1 10 0 42 i = (sm_u N 10 0 42 d x).1 10 0 42 i := u_mis (by omega)
    rw [a1, a2]
    by_cases y : i = d
    · rw [y, u_hit, u_hit]
    · rw [u_mis (by omega), u_mis (by omega)]
      exact h3 i (by omega)
  · have l1 : ¬ M.1 6 0 0 1 < 200 := by rw [h1, show (200 : Int32) = nI 200 from rfl, i_lt (by omega) (by decide)]; exact z
    have l2 : ¬ N.1 10 0 0 40 < 200 := by rw [h2, show (200 : Int32) = nI 200 from rfl, i_lt (by omega) (by decide)]; exact z
    rw [if_neg l1, if_neg l2]
    exact ⟨d, hd, h1, h2, h3⟩
theorem RD_fr {M N M' N' : sm_M} (r : RD M N) (h1 : M'.1 6 0 0 1 = M.1 6 0 0 1) (h2 : ∀ i, M'.1 6 0 1 i = M.1 6 0 1 i) (h3 : N'.1 10 0 0 40 = N.1 10 0 0 40) (h4 : ∀ i, N'.1 10 0 42 i = N.1 10 0 42 i) : RD M' N' := by
  obtain ⟨d, hd, a1, a2, a3⟩ := r
  exact ⟨d, hd, h1.trans a1, h3.trans a2, fun i hi => by rw [h2, h4]; exact a3 i hi⟩
theorem PV_dp {p : Nat} {M N : sm_M} {mk t tc : Nat} {x : Int32} (r : PV p M N mk t tc) : PV p (dpC M x) (dpR N x) mk t tc := by
  unfold PV at r ⊢
  rw [dpR_a (by decide), dpR_a (by decide), dpR_a (by decide), dpR_a (by decide), dpR_a (by decide), dpR_a (by decide)]
  have e1 : sC (dpC M x) p = sC M p := by funext v; exact dpC_c (by decide)
  have e2 : lpC (dpC M x) p = lpC M p := by funext v; unfold lpC; rw [dpC_c (by decide)]
  rw [e1, e2]
  refine ⟨fun v hv => ?_, r.2⟩
  have h1 : hC (dpC M x) p v = hC M p v := dpC_c (by decide)
  have h2 : xC (dpC M x) p v = xC M p v := dpC_c (by decide)
  have h3 : kC (dpC M x) p v = kC M p v := dpC_c (by decide)
  rw [h1, h2, h3]
  exact r.1 v hv
/-- a variable's has, value, kind in a memory with some written -/
theorem sC_j {M : sm_M} {c q j i p : Nat} {y : Int32} (h : ¬ (c = 0 ∧ q = p ∧ j = 5)) : sC (sm_u M c q j i y) p = sC M p := by funext v; exact u_mis (by omega)
theorem lpC_j {M : sm_M} {c q j i p : Nat} {y : Int32} (h : ¬ (c = 0 ∧ q = p ∧ j = 0 ∧ i = 6)) : lpC (sm_u M c q j i y) p = lpC M p := by funext v; unfold lpC; rw [u_mis (by omega)]
theorem up_eq {f g : Nat → Int32} {a v : Nat} {y : Int32} (h : f v = g v) : upL f a y v = upL g a y v := by
  unfold upL
  rw [h]
theorem hC_u {M : sm_M} {p a : Nat} {y : Int32} : hC (sm_u M 0 p 2 a y) p = upL (hC M p) a y := by
  funext v
  unfold hC upL
  by_cases z : v = a
  · rw [if_pos z, z, u_hit]
  · rw [if_neg z, u_mis (by omega)]
theorem xC_u {M : sm_M} {p a : Nat} {y : Int32} : xC (sm_u M 0 p 3 a y) p = upL (xC M p) a y := by
  funext v
  unfold xC upL
  by_cases z : v = a
  · rw [if_pos z, z, u_hit]
  · rw [if_neg z, u_mis (by omega)]
theorem kC_u {M : sm_M} {p a : Nat} {y : Int32} : kC (sm_u M 0 p 4 a y) p = upL (kC M p) a y := by
  funext v
  unfold kC upL
  by_cases z : v = a
  · rw [if_pos z, z, u_hit]
  · rw [if_neg z, u_mis (by omega)]
theorem sC_u {M : sm_M} {p a : Nat} {y : Int32} : sC (sm_u M 0 p 5 a y) p = upL (sC M p) a y := by
  funext v
  unfold sC upL
  by_cases z : v = a
  · rw [if_pos z, z, u_hit]
  · rw [if_neg z, u_mis (by omega)]
theorem hC_j {M : sm_M} {c q j i p : Nat} {y : Int32} (h : ¬ (c = 0 ∧ q = p ∧ j = 2)) : hC (sm_u M c q j i y) p = hC M p := by funext v; exact u_mis (by omega)
theorem xC_j {M : sm_M} {c q j i p : Nat} {y : Int32} (h : ¬ (c = 0 ∧ q = p ∧ j = 3)) : xC (sm_u M c q j i y) p = xC M p := by funext v; exact u_mis (by omega)
theorem kC_j {M : sm_M} {c q j i p : Nat} {y : Int32} (h : ¬ (c = 0 ∧ q = p ∧ j = 4)) : kC (sm_u M c q j i y) p = kC M p := by funext v; exact u_mis (by omega)
theorem lpM_e {M : sm_M} {p : Nat} {L : Int32} : hC (lpM M p L) p = hC M p ∧ xC (lpM M p L) p = xC M p ∧ kC (lpM M p L) p = kC M p ∧ sC (lpM M p L) p = sC M p := ⟨hC_j (by omega), xC_j (by omega), kC_j (by omega), sC_j (by omega)⟩
theorem lpM_b {M : sm_M} {p : Nat} {L : Int32} : lpC (lpM M p L) p = bt L := by funext v; unfold lpC; rw [lpM_l]
/-- a variable that owned hands over, or what it has is freed: class and reference -/
theorem PV_gone {p : Nat} {M N : sm_M} {mk t tc u : Nat} {L : Int32} (r : PV p M N mk t tc) (hu : u < 6)
    (hl : ∀ v, v < 6 → ¬ v = u → (bt L v = false ↔ (lpC M p v = false ∧ ¬ (hC M p u = 1 ∧ xC M p v = xC M p u ∧ (hC M p v = 2 ∨ hC M p v = 3))))) : PV p (sm_u (lpM M p L) 0 p 2 u 0) (sm_u N 10 0 29 (6 * p + u) 0) mk t tc := by
  obtain ⟨r1, r2⟩ := r
  obtain ⟨e1, e2, e3, e4⟩ := lpM_e (M := M) (p := p) (L := L)
  unfold PV
  rw [aR_u hu, aR_j (by omega), aR_j (by omega), aR_j (by omega), aR_j (by omega), aR_j (by omega), hC_u, xC_j (by omega), kC_j (by omega), sC_j (by omega), lpC_j (by omega), e1, e2, e3, e4, lpM_b]
  refine ⟨fun v hv => ⟨up_eq (r1 v hv).1, (r1 v hv).2⟩, VR_vac r2 hu (fun v hv hvu => ?_)⟩
  rw [hl v hv hvu, (r1 v hv).1, (r1 v hv).2.1, (r1 u hu).1, (r1 u hu).2.1]
theorem PV_vac {p : Nat} {M N : sm_M} {mk t tc a : Nat} {L : Int32} (r : PV p M N mk t tc) (ha : a < 6)
    (hl : ∀ v, v < 6 → ¬ v = a → (bt L v = false ↔ (lpC M p v = false ∧ ¬ (hC M p a = 1 ∧ xC M p v = xC M p a ∧ (hC M p v = 2 ∨ hC M p v = 3))))) : PV p (vacM M p a L) (leM N p a) mk t tc := by
  obtain ⟨q1, _, q3⟩ := r.1 a ha
  have q2 := (r.1 a ha).2.1
  unfold vacM leM
  rw [q1, q3, q2]
  by_cases z : aR N 29 p a = 1 ∧ aR N 31 p a = 1
  · rw [if_pos z, if_pos z]
    have e : dpC (lpM M p L) (aR N 30 p a) = lpM (dpC M (aR N 30 p a)) p L := by
      unfold dpC lpM
      have h1 : (sm_u M 0 p 0 6 L).1 6 0 0 1 = M.1 6 0 0 1 := u_mis (by omega)
      rw [h1]
      split
      · rw [u_comm (show ¬(0 = 6 ∧ p = 0 ∧ 0 = 1 ∧ 6 = (M.1 6 0 0 1).toNatClampNeg) by omega), u_comm (show ¬(0 = 6 ∧ p = 0 ∧ 0 = 0 ∧ 6 = 1) by omega)]
      · rfl
    rw [e]
    refine PV_gone (PV_dp r) ha (fun v hv hva => ?_)
    have f1 : ∀ w, hC (dpC M (aR N 30 p a)) p w = hC M p w := fun w => dpC_c (by decide)
    have f2 : ∀ w, xC (dpC M (aR N 30 p a)) p w = xC M p w := fun w => dpC_c (by decide)
    have f3 : lpC (dpC M (aR N 30 p a)) p v = lpC M p v := by unfold lpC; rw [dpC_c (by decide)]
    rw [f1, f1, f2, f2, f3]
    exact hl v hv hva
  · rw [if_neg z, if_neg z]
    exact PV_gone r ha hl
theorem RD_vac {p : Nat} {M N : sm_M} {mk t tc a : Nat} {L : Int32} (r : PV p M N mk t tc) (ha : a < 6) (d : RD M N) : RD (vacM M p a L) (leM N p a) := by
  obtain ⟨q1, q2, q3⟩ := r.1 a ha
  unfold vacM leM
  rw [q1, q3, q2]
  by_cases z : aR N 29 p a = 1 ∧ aR N 31 p a = 1
  · rw [if_pos z, if_pos z]
    have d1 : RD (lpM M p L) N := RD_fr d (u_mis (by omega)) (fun i => u_mis (by omega)) rfl (fun _ => rfl)
    exact RD_fr (RD_dp d1) (u_mis (by omega)) (fun i => u_mis (by omega)) (u_mis (by omega)) (fun i => u_mis (by omega))
  · rw [if_neg z, if_neg z]
    exact RD_fr d ((u_mis (by omega)).trans (u_mis (by omega))) (fun i => (u_mis (by omega)).trans (u_mis (by omega))) (u_mis (by omega)) (fun i => u_mis (by omega))
theorem PV_own {p : Nat} {M N : sm_M} {mk t tc a y : Nat} {kd : Int32} (r : PV p M N mk t tc) (hp : p < 3) (ha : a < 6) (h0 : hC M p a = 0) (hy : y < mk) (ht : t < 2000000) (htc : tc < 2000000) (hk : ∃ n, n < 3 ∧ kd = nI n) (hno : ∀ o, o < 6 → aR N 29 p o = 1 → ¬ aR N 30 p o = nI y) (hM : M.1 6 0 0 3 = nI tc) (hN : N.1 10 0 0 38 = nI (t + 1)) :
    PV p (putM M p a (nI y) kd) (owM N p a (nI y) kd) mk (t + 1) (tc + 1) := by
  obtain ⟨r1, r2⟩ := r
  have eR : aR (owM N p a (nI y) kd) 29 p = upL (aR N 29 p) a 1 ∧ aR (owM N p a (nI y) kd) 30 p = upL (aR N 30 p) a (nI y) ∧ aR (owM N p a (nI y) kd) 31 p = upL (aR N 31 p) a kd ∧ aR (owM N p a (nI y) kd) 32 p = upL (aR N 32 p) a (nI (t + 1)) ∧ aR (owM N p a (nI y) kd) 33 p = upL (aR N 33 p) a (nI (t + 1)) ∧ aR (owM N p a (nI y) kd) 34 p = upL (aR N 34 p) a (-1) := by
    unfold owM
    rw [hN]
    refine ⟨?_, ?_, ?_, ?_, ?_, ?_⟩
    · rw [aR_j (by omega), aR_j (by omega), aR_j (by omega), aR_j (by omega), aR_j (by omega), aR_u ha]
    · rw [aR_j (by omega), aR_j (by omega), aR_j (by omega), aR_j (by omega), aR_u ha, aR_j (by omega)]
    · rw [aR_j (by omega), aR_j (by omega), aR_j (by omega), aR_u ha, aR_j (by omega), aR_j (by omega)]
    · rw [aR_j (by omega), aR_j (by omega), aR_u ha, aR_j (by omega), aR_j (by omega), aR_j (by omega)]
    · rw [aR_j (by omega), aR_u ha, aR_j (by omega), aR_j (by omega), aR_j (by omega), aR_j (by omega)]
    · rw [aR_u ha, aR_j (by omega), aR_j (by omega), aR_j (by omega), aR_j (by omega), aR_j (by omega)]
  obtain ⟨f1, f2, f3, f4, f5, f6⟩ := eR
  have eC : hC (putM M p a (nI y) kd) p = upL (hC M p) a 1 ∧ xC (putM M p a (nI y) kd) p = upL (xC M p) a (nI y) ∧ kC (putM M p a (nI y) kd) p = upL (kC M p) a kd ∧ sC (putM M p a (nI y) kd) p = upL (sC M p) a (nI (tc + 1)) ∧ lpC (putM M p a (nI y) kd) p = lpC M p := by
    unfold putM
    rw [hM, nI_1]
    refine ⟨?_, ?_, ?_, ?_, ?_⟩
    · rw [hC_j (by omega), hC_j (by omega), hC_j (by omega), hC_j (by omega), hC_u]
    · rw [xC_j (by omega), xC_j (by omega), xC_j (by omega), xC_u, xC_j (by omega)]
    · rw [kC_j (by omega), kC_j (by omega), kC_u, kC_j (by omega), kC_j (by omega)]
    · rw [sC_u, sC_j (by omega), sC_j (by omega), sC_j (by omega), sC_j (by omega)]
    · rw [lpC_j (by omega), lpC_j (by omega), lpC_j (by omega), lpC_j (by omega), lpC_j (by omega)]
  obtain ⟨g1, g2, g3, g4, g5⟩ := eC
  unfold PV
  rw [f1, f2, f3, f4, f5, f6, g1, g2, g3, g4, g5]
  exact ⟨fun v hv => ⟨up_eq (r1 v hv).1, up_eq (r1 v hv).2.1, up_eq (r1 v hv).2.2⟩, VR_own r2 ha ((r1 a ha).1.symm.trans h0) hy (by omega) ht htc hk hno⟩
/-- loans of an owner's value end -/
theorem PV_loans {p : Nat} {M N : sm_M} {mk t tc u : Nat} {L : Int32} (r : PV p M N mk t tc) (hp : p < 3) (hu : u < 6) (h1 : hC M p u = 1)
    (hl : ∀ v, v < 6 → (bt L v = false ↔ (lpC M p v = false ∧ ¬ (¬ v = u ∧ hC M p v = 3 ∧ xC M p v = xC M p u)))) : PV p (lpM M p L) (sm_u N 10 0 34 (6 * p + u) (-1)) mk t tc := by
  obtain ⟨r1, r2⟩ := r
  obtain ⟨e1, e2, e3, e4⟩ := lpM_e (M := M) (p := p) (L := L)
  unfold PV
  rw [aR_u hu, aR_j (by omega), aR_j (by omega), aR_j (by omega), aR_j (by omega), aR_j (by omega), e1, e2, e3, e4, lpM_b]
  have h1' : aR N 29 p u = 1 := (r1 u hu).1.symm.trans h1
  refine ⟨r1, VR_read r2 (by omega) hu hu h1' rfl (Or.inl rfl) (fun g => absurd (h1'.symm.trans g) i32_0.2.2.2.2.2.2.1) (fun v hv => ?_)⟩
  rw [hl v hv, (r1 v hv).1, (r1 v hv).2.1, (r1 u hu).2.1]
/-- a value is read by a variable -/
theorem PV_read {p : Nat} {M N : sm_M} {mk t tc u o : Nat} {L : Int32} (r : PV p M N mk t tc) (hp : p < 3) (hu : u < 6) (ho : o < 6) (h1 : aR N 29 p o = 1) (hx : aR N 30 p o = aR N 30 p u)
    (hl : ∀ v, v < 6 → (bt L v = false ↔ (lpC M p v = false ∧ ¬ (¬ v = u ∧ hC M p v = 3 ∧ xC M p v = xC M p u)))) : PV p (lpM M p L) (usM N p u o false) mk t tc := by
  obtain ⟨r1, r2⟩ := r
  obtain ⟨e1, e2, e3, e4⟩ := lpM_e (M := M) (p := p) (L := L)
  have eu : usM N p u o false = sm_u N 10 0 34 (6 * p + o) (if aR N 34 p o = nI (6 * p + u) then nI (6 * p + u) else -1) := by
    unfold usM
    rw [if_neg (show ¬ false = true by decide), u_sme]
    rw [u_mis (by omega), aR_i ho]
  unfold PV
  rw [eu, aR_u ho, aR_j (by omega), aR_j (by omega), aR_j (by omega), aR_j (by omega), aR_j (by omega), e1, e2, e3, e4, lpM_b]
  refine ⟨r1, VR_read r2 (by omega) hu ho h1 hx ?_ (fun _ => ?_) (fun v hv => ?_)⟩
  · split
    · exact Or.inr rfl
    · exact Or.inl rfl
  · by_cases z : aR N 34 p o = nI (6 * p + u)
    · rw [if_pos z]; exact ⟨fun _ => z, fun _ => rfl⟩
    · rw [if_neg z]
      exact ⟨fun y => absurd y.symm ((by decide : ∀ n, n < 100 → ¬ nI n = -1) _ (by omega)), fun y => absurd y z⟩
  · rw [hl v hv, (r1 v hv).1, (r1 v hv).2.1, (r1 u hu).2.1]
/-- a value is changed by a variable that doesn't share it -/
theorem PV_write {p : Nat} {M N : sm_M} {mk t tc u o : Nat} {L : Int32} (r : PV p M N mk t tc) (hp : p < 3) (hu : u < 6) (ho : o < 6) (ht : t < 2000000) (hN : N.1 10 0 0 38 = nI (t + 1)) (h1 : aR N 29 p o = 1) (hx : aR N 30 p o = aR N 30 p u)
    (hl : ∀ v, v < 6 → (bt L v = false ↔ (lpC M p v = false ∧ ¬ (xC M p v = xC M p u ∧ (hC M p v = 2 ∨ (¬ v = u ∧ hC M p v = 3)))))) : PV p (lpM M p L) (usM N p u o true) mk (t + 1) tc := by
  obtain ⟨r1, r2⟩ := r
  obtain ⟨e1, e2, e3, e4⟩ := lpM_e (M := M) (p := p) (L := L)
  unfold PV usM
  rw [if_pos rfl, hN]
  rw [aR_j (by omega), aR_j (by omega), aR_j (by omega), aR_j (by omega), aR_j (by omega), aR_j (by omega), aR_j (by omega), aR_j (by omega), aR_u ho, aR_j (by omega), aR_j (by omega), aR_u ho, e1, e2, e3, e4, lpM_b]
  refine ⟨r1, VR_chg (lap := fun v => lpC M p v || (!decide (v = u) && (decide (aR N 29 p v = 3) && decide (aR N 30 p v = aR N 30 p u)))) (VR_read r2 (by omega) hu ho h1 hx ?_ (fun _ => ?_) (fun v hv => ?_)) ho h1 ht (fun v hv => ?_)⟩
  · split
    · exact Or.inr rfl
    · exact Or.inl rfl
  · by_cases z : aR N 34 p o = nI (6 * p + u)
    · rw [if_pos z]; exact ⟨fun _ => z, fun _ => rfl⟩
    · rw [if_neg z]
      exact ⟨fun y => absurd y.symm ((by decide : ∀ n, n < 100 → ¬ nI n = -1) _ (by omega)), fun y => absurd y z⟩
  · rw [Bool.or_eq_false_iff]
    refine ⟨fun ⟨a1, a2⟩ => ⟨a1, fun ⟨b1, b2, b3⟩ => ?_⟩, fun ⟨a1, a2⟩ => ⟨a1, ?_⟩⟩
    · rw [decide_eq_false b1, decide_eq_true b2, decide_eq_true b3] at a2; cases a2
    · cases q0 : decide (v = u) with
      | true => rfl
      | false =>
        cases q1 : decide (aR N 29 p v = 3) with
        | false => rfl
        | true =>
          cases q2 : decide (aR N 30 p v = aR N 30 p u) with
          | false => rfl
          | true => exact absurd ⟨of_decide_eq_false q0, of_decide_eq_true q1, of_decide_eq_true q2⟩ a2
  · rw [hl v hv, (r1 v hv).1, (r1 v hv).2.1, (r1 u hu).2.1, Bool.or_eq_false_iff, hx]
    refine ⟨fun ⟨a1, a2⟩ => ⟨⟨a1, ?_⟩, fun y => a2 ⟨y.2, Or.inl y.1⟩⟩, fun ⟨⟨a1, a2⟩, a3⟩ => ⟨a1, fun ⟨b1, b2⟩ => b2.elim (fun y => a3 ⟨y, b1⟩) (fun y => ?_)⟩⟩
    · cases q0 : decide (v = u) with
      | true => rfl
      | false =>
        cases q1 : decide (aR N 29 p v = 3) with
        | false => rfl
        | true =>
          cases q2 : decide (aR N 30 p v = aR N 30 p u) with
          | false => rfl
          | true => exact absurd ⟨of_decide_eq_true q2, Or.inr ⟨of_decide_eq_false q0, of_decide_eq_true q1⟩⟩ a2
    · rw [decide_eq_false y.1, decide_eq_true y.2, decide_eq_true b1] at a2; cases a2
