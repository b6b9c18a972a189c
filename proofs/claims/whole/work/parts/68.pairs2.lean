/-! LEVEL B: the run: shares and loans, in pairs -/
theorem leM_comm {N : sm_M} {p a j i : Nat} {y : Int32} (hj : j = 33 ∨ j = 34) : sm_u (leM N p a) 10 0 j i y = leM (sm_u N 10 0 j i y) p a := by
  unfold leM
  rw [aR_j (by omega), aR_j (by omega), aR_j (by omega), u_comm (by omega)]
  split
  · unfold dpR
    rw [u_mis (show ¬(10 = 10 ∧ 0 = 0 ∧ 0 = j ∧ 40 = i) by omega)]
    split
    · rw [u_comm (show ¬(10 = 10 ∧ 0 = 0 ∧ 0 = j ∧ 40 = i) by omega), u_comm (show ¬(10 = 10 ∧ 0 = 0 ∧ 42 = j ∧ (N.1 10 0 0 40).toNatClampNeg = i) by omega)]
    · rfl
  · rfl
theorem borM_e {M : sm_M} {p a u : Nat} {w K : Int32} : hC (borM M p a u w K) p = upL (hC M p) a w ∧ xC (borM M p a u w K) p = upL (xC M p) a (xC M p u) ∧ kC (borM M p a u w K) p = kC M p ∧ sC (borM M p a u w K) p = sC M p ∧ lpC (borM M p a u w K) p = bt K := by
  unfold borM
  obtain ⟨e1, e2, e3, e4⟩ := lpM_e (M := sm_u (sm_u M 0 p 2 a w) 0 p 3 a (xC M p u)) (p := p) (L := K)
  rw [e1, e2, e3, e4, lpM_b, hC_j (by omega), hC_u, xC_u, xC_j (by omega), kC_j (by omega), kC_j (by omega), sC_j (by omega), sC_j (by omega)]
  exact ⟨rfl, rfl, rfl, rfl, rfl⟩
theorem PV_share {p : Nat} {M N : sm_M} {mk t tc a u : Nat} {K : Int32} (r : PV p M N mk t tc) (hp : p < 3) (ha : a < 6) (hu : u < 6) (ht : t < 2000000) (h0 : hC M p a = 0) (h1 : hC M p u = 1) (hl : ∀ v, v < 6 → ¬ v = a → bt K v = lpC M p v) (hk : bt K a = false) :
    PV p (borM M p a u 2 K) (sm_u (sm_u (sm_u N 10 0 29 (6 * p + a) 2) 10 0 30 (6 * p + a) (aR N 30 p u)) 10 0 32 (6 * p + a) (nI (t + 1))) mk (t + 1) tc := by
  obtain ⟨r1, r2⟩ := r
  obtain ⟨e1, e2, e3, e4, e5⟩ := borM_e (M := M) (p := p) (a := a) (u := u) (w := 2) (K := K)
  unfold PV
  rw [e1, e2, e3, e4, e5, aR_j (by omega), aR_j (by omega), aR_u ha, aR_j (by omega), aR_u ha, aR_j (by omega), aR_j (by omega), aR_j (by omega), aR_j (by omega), aR_u ha, aR_j (by omega), aR_j (by omega), aR_j (by omega), aR_j (by omega), aR_j (by omega), aR_j (by omega), aR_j (by omega), aR_j (by omega)]
  refine ⟨fun v hv => ⟨up_eq (r1 v hv).1, ?_, (r1 v hv).2.2⟩, VR_share r2 ht hu ((r1 a ha).1.symm.trans h0) ((r1 u hu).1.symm.trans h1) hl hk⟩
  rw [(r1 u hu).2.1]
  exact up_eq (r1 v hv).2.1
theorem PV_copy {p : Nat} {M N : sm_M} {mk t tc a u : Nat} {K : Int32} (r : PV p M N mk t tc) (hp : p < 3) (ha : a < 6) (hu : u < 6) (h0 : hC M p a = 0) (h2 : hC M p u = 2) (hl : ∀ v, v < 6 → ¬ v = a → bt K v = lpC M p v) (hk : bt K a = lpC M p u) :
    PV p (borM M p a u 2 K) (sm_u (sm_u (sm_u N 10 0 29 (6 * p + a) 2) 10 0 30 (6 * p + a) (aR N 30 p u)) 10 0 32 (6 * p + a) (aR N 32 p u)) mk t tc := by
  obtain ⟨r1, r2⟩ := r
  obtain ⟨e1, e2, e3, e4, e5⟩ := borM_e (M := M) (p := p) (a := a) (u := u) (w := 2) (K := K)
  unfold PV
  rw [e1, e2, e3, e4, e5, aR_j (by omega), aR_j (by omega), aR_u ha, aR_j (by omega), aR_u ha, aR_j (by omega), aR_j (by omega), aR_j (by omega), aR_j (by omega), aR_u ha, aR_j (by omega), aR_j (by omega), aR_j (by omega), aR_j (by omega), aR_j (by omega), aR_j (by omega), aR_j (by omega), aR_j (by omega)]
  refine ⟨fun v hv => ⟨up_eq (r1 v hv).1, ?_, (r1 v hv).2.2⟩, VR_copy r2 hu ((r1 a ha).1.symm.trans h0) ((r1 u hu).1.symm.trans h2) hl hk⟩
  rw [(r1 u hu).2.1]
  exact up_eq (r1 v hv).2.1
/-- the value of an owner is lent: what it was lent and shared before ends -/
theorem PV_ends {p : Nat} {M N : sm_M} {mk t tc u : Nat} {L : Int32} (r : PV p M N mk t tc) (hp : p < 3) (hu : u < 6) (ht : t < 2000000) (h1 : hC M p u = 1)
    (hl : ∀ v, v < 6 → (bt L v = false ↔ (lpC M p v = false ∧ ¬ (xC M p v = xC M p u ∧ (hC M p v = 2 ∨ (¬ v = u ∧ hC M p v = 3)))))) : PV p (lpM M p L) (sm_u (sm_u N 10 0 33 (6 * p + u) (nI (t + 1))) 10 0 34 (6 * p + u) (-1)) mk (t + 1) tc := by
  obtain ⟨r1, r2⟩ := r
  obtain ⟨e1, e2, e3, e4⟩ := lpM_e (M := M) (p := p) (L := L)
  have h1' : aR N 29 p u = 1 := (r1 u hu).1.symm.trans h1
  unfold PV
  rw [aR_j (by omega), aR_j (by omega), aR_j (by omega), aR_j (by omega), aR_j (by omega), aR_j (by omega), aR_j (by omega), aR_j (by omega), aR_j (by omega), aR_u hu, aR_u hu, aR_j (by omega), e1, e2, e3, e4, lpM_b]
  refine ⟨r1, VR_chg (lap := fun v => lpC M p v || (!decide (v = u) && (decide (aR N 29 p v = 3) && decide (aR N 30 p v = aR N 30 p u)))) (VR_read r2 (by omega) hu hu h1' rfl (Or.inl rfl) (fun g => absurd (h1'.symm.trans g) i32_0.2.2.2.2.2.2.1) (fun v hv => ?_)) hu h1' ht (fun v hv => ?_)⟩
  · rw [Bool.or_eq_false_iff]
    refine ⟨fun ⟨a1, a2⟩ => ⟨a1, fun ⟨b1, b2, b3⟩ => ?_⟩, fun ⟨a1, a2⟩ => ⟨a1, ?_⟩⟩
    · rw [decide_eq_false b1, decide_eq_true b2, decide_eq_true b3] at a2; cases a2
    · cases q0 : decide (v = u) with
      | true => rfl
      | false =>
        cases q1 : decide (aR N 29 p v = 3) with
        | false => rfl
        | true =>
          cases q2 : decide (aR N 30 p v = aR N 30 p u) with
          | false => rfl
          | true => exact absurd ⟨of_decide_eq_false q0, of_decide_eq_true q1, of_decide_eq_true q2⟩ a2
  · rw [hl v hv, (r1 v hv).1, (r1 v hv).2.1, (r1 u hu).2.1, Bool.or_eq_false_iff]
    refine ⟨fun ⟨a1, a2⟩ => ⟨⟨a1, ?_⟩, fun y => a2 ⟨y.2, Or.inl y.1⟩⟩, fun ⟨⟨a1, a2⟩, a3⟩ => ⟨a1, fun ⟨b1, b2⟩ => b2.elim (fun y => a3 ⟨y, b1⟩) (fun y => ?_)⟩⟩
    · cases q0 : decide (v = u) with
      | true => rfl
      | false =>
        cases q1 : decide (aR N 29 p v = 3) with
        | false => rfl
        | true =>
          cases q2 : decide (aR N 30 p v = aR N 30 p u) with
          | false => rfl
          | true => exact absurd ⟨of_decide_eq_true q2, Or.inr ⟨of_decide_eq_false q0, of_decide_eq_true q1⟩⟩ a2
    · rw [decide_eq_false y.1, decide_eq_true y.2, decide_eq_true b1] at a2; cases a2
theorem PV_lend {p : Nat} {M N : sm_M} {mk t tc a u : Nat} {K : Int32} (r : PV p M N mk t tc) (hp : p < 3) (ha : a < 6) (hu : u < 6) (h0 : hC M p a = 0) (h1 : hC M p u = 1) (h34 : aR N 34 p u = -1) (hl : ∀ v, v < 6 → ¬ v = a → bt K v = lpC M p v) (hk : bt K a = false) :
    PV p (borM M p a u 3 K) (sm_u (sm_u (sm_u N 10 0 34 (6 * p + u) (nI (6 * p + a))) 10 0 29 (6 * p + a) 3) 10 0 30 (6 * p + a) (aR N 30 p u)) mk t tc := by
  obtain ⟨r1, r2⟩ := r
  obtain ⟨e1, e2, e3, e4, e5⟩ := borM_e (M := M) (p := p) (a := a) (u := u) (w := 3) (K := K)
  have f29 : aR (sm_u (sm_u (sm_u N 10 0 34 (6 * p + u) (nI (6 * p + a))) 10 0 29 (6 * p + a) 3) 10 0 30 (6 * p + a) (aR N 30 p u)) 29 p = upL (aR N 29 p) a 3 := by rw [aR_j (by omega), aR_u ha, aR_j (by omega)]
  have f30 : aR (sm_u (sm_u (sm_u N 10 0 34 (6 * p + u) (nI (6 * p + a))) 10 0 29 (6 * p + a) 3) 10 0 30 (6 * p + a) (aR N 30 p u)) 30 p = upL (aR N 30 p) a (aR N 30 p u) := by rw [aR_u ha, aR_j (by omega), aR_j (by omega)]
  have f34 : aR (sm_u (sm_u (sm_u N 10 0 34 (6 * p + u) (nI (6 * p + a))) 10 0 29 (6 * p + a) 3) 10 0 30 (6 * p + a) (aR N 30 p u)) 34 p = upL (aR N 34 p) u (nI (6 * p + a)) := by rw [aR_j (by omega), aR_j (by omega), aR_u hu]
  have fo : ∀ j, j = 31 ∨ j = 32 ∨ j = 33 → aR (sm_u (sm_u (sm_u N 10 0 34 (6 * p + u) (nI (6 * p + a))) 10 0 29 (6 * p + a) 3) 10 0 30 (6 * p + a) (aR N 30 p u)) j p = aR N j p := fun j hj => by rw [aR_j (by omega), aR_j (by omega), aR_j (by omega)]
  unfold PV
  rw [e1, e2, e3, e4, e5, f29, f30, f34, fo 31 (by omega), fo 32 (by omega), fo 33 (by omega)]
  refine ⟨fun v hv => ⟨up_eq (r1 v hv).1, ?_, (r1 v hv).2.2⟩, VR_lend r2 (by omega) ha hu ((r1 a ha).1.symm.trans h0) ((r1 u hu).1.symm.trans h1) h34 hl hk⟩
  rw [(r1 u hu).2.1]
  exact up_eq (r1 v hv).2.1
/-- what passes a loan on does to the reference -/
def psM (N : sm_M) (p a u : Nat) (oo : Int32) : sm_M := sm_u (if oo = -1 then sm_u (sm_u (sm_u N 10 0 29 (6 * p + a) 3) 10 0 30 (6 * p + a) (aR N 30 p u)) 10 0 32 (6 * p + a) (aR N 32 p u) else sm_u (sm_u (sm_u (sm_u N 10 0 29 (6 * p + a) 3) 10 0 30 (6 * p + a) (aR N 30 p u)) 10 0 32 (6 * p + a) (aR N 32 p u)) 10 0 34 oo.toNatClampNeg (nI (6 * p + a))) 10 0 29 (6 * p + u) 0
theorem PV_pass {p : Nat} {M N : sm_M} {mk t tc a u : Nat} {K oo : Int32} (r : PV p M N mk t tc) (hp : p < 3) (ha : a < 6) (hu : u < 6) (hau : ¬ a = u) (h0 : hC M p a = 0) (h3 : hC M p u = 3)
    (ho : (oo = -1 ∧ ∀ o, o < 6 → ¬ (aR N 29 p o = 1 ∧ aR N 30 p o = aR N 30 p u)) ∨ ∃ o, o < 6 ∧ oo = nI (6 * p + o) ∧ aR N 29 p o = 1 ∧ aR N 30 p o = aR N 30 p u ∧ aR N 34 p o = nI (6 * p + u))
    (hl : ∀ v, v < 6 → ¬ v = a → bt K v = lpC M p v) (hk : bt K a = lpC M p u) : PV p (sm_u (borM M p a u 3 K) 0 p 2 u 0) (psM N p a u oo) mk t tc := by
  obtain ⟨r1, r2⟩ := r
  obtain ⟨e1, e2, e3, e4, e5⟩ := borM_e (M := M) (p := p) (a := a) (u := u) (w := 3) (K := K)
  have f : aR (psM N p a u oo) 29 p = upL (upL (aR N 29 p) a 3) u 0 ∧ aR (psM N p a u oo) 30 p = upL (aR N 30 p) a (aR N 30 p u) ∧ aR (psM N p a u oo) 31 p = aR N 31 p ∧ aR (psM N p a u oo) 32 p = upL (aR N 32 p) a (aR N 32 p u) ∧ aR (psM N p a u oo) 33 p = aR N 33 p ∧ (aR (psM N p a u oo) 34 p = if oo = -1 then aR N 34 p else aR (sm_u N 10 0 34 oo.toNatClampNeg (nI (6 * p + a))) 34 p) := by
    unfold psM
    by_cases z : oo = -1
    · rw [if_pos z, if_pos z]
      refine ⟨?_, ?_, ?_, ?_, ?_, ?_⟩
      · rw [aR_u hu, aR_j (by omega), aR_j (by omega), aR_u ha]
      · rw [aR_j (by omega), aR_j (by omega), aR_u ha, aR_j (by omega)]
      · rw [aR_j (by omega), aR_j (by omega), aR_j (by omega), aR_j (by omega)]
      · rw [aR_j (by omega), aR_u ha, aR_j (by omega), aR_j (by omega)]
      · rw [aR_j (by omega), aR_j (by omega), aR_j (by omega), aR_j (by omega)]
      · rw [aR_j (by omega), aR_j (by omega), aR_j (by omega), aR_j (by omega)]
    · rw [if_neg z, if_neg z]
      refine ⟨?_, ?_, ?_, ?_, ?_, ?_⟩
      · rw [aR_u hu, aR_j (by omega), aR_j (by omega), aR_j (by omega), aR_u ha]
      · rw [aR_j (by omega), aR_j (by omega), aR_j (by omega), aR_u ha, aR_j (by omega)]
      · rw [aR_j (by omega), aR_j (by omega), aR_j (by omega), aR_j (by omega), aR_j (by omega)]
      · rw [aR_j (by omega), aR_j (by omega), aR_u ha, aR_j (by omega), aR_j (by omega)]
      · rw [aR_j (by omega), aR_j (by omega), aR_j (by omega), aR_j (by omega), aR_j (by omega)]
      · rw [aR_j (by omega), u_comm (show ¬(10 = 10 ∧ 0 = 0 ∧ 32 = 34 ∧ 6 * p + a = oo.toNatClampNeg) by omega), u_comm (show ¬(10 = 10 ∧ 0 = 0 ∧ 30 = 34 ∧ 6 * p + a = oo.toNatClampNeg) by omega), u_comm (show ¬(10 = 10 ∧ 0 = 0 ∧ 29 = 34 ∧ 6 * p + a = oo.toNatClampNeg) by omega), aR_j (by omega), aR_j (by omega), aR_j (by omega)]
  obtain ⟨f1, f2, f3, f4, f5, f6⟩ := f
  have h0' := (r1 a ha).1.symm.trans h0
  have h3' := (r1 u hu).1.symm.trans h3
  unfold PV
  rw [hC_u, xC_j (by omega), kC_j (by omega), sC_j (by omega), lpC_j (by omega), e1, e2, e3, e4, e5, f1, f2, f3, f4, f5, f6]
  refine ⟨fun v hv => ⟨up_eq (up_eq (r1 v hv).1), ?_, (r1 v hv).2.2⟩, ?_⟩
  · rw [(r1 u hu).2.1]
    exact up_eq (r1 v hv).2.1
  · rcases ho with ⟨g1, g2⟩ | ⟨o, o1, o2, o3, o4, o5⟩
    · rw [if_pos g1]
      exact VR_pass r2 (by omega) ha hu hau h0' h3' (fun o o1 o2 o3 => absurd ⟨o2, o3⟩ (g2 o o1)) (fun _ _ _ => rfl) hl hk
    · have no : ¬ oo = -1 := by rw [o2]; exact (by decide : ∀ n, n < 100 → ¬ nI n = -1) _ (by omega)
      rw [if_neg no, o2, i_cl (by omega), aR_u o1]
      have uq := r2.2.2.2.2.2.2
      refine VR_pass r2 (by omega) ha hu hau h0' h3' (fun o' p1 p2 p3 => ?_) (fun o' p1 p2 => ?_) hl hk
      · have : o' = o := uq o' o p1 o1 p2 o3 (p3.trans o4.symm)
        rw [this]
        exact ⟨o5, up_k⟩
      · exact up_o (fun y => p2 ⟨by rw [y]; exact o3, by rw [y]; exact o4⟩)
