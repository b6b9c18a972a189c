/-! LEVEL B: the run: what stands of the variables of a process while an op of it is done -/
/-- a message that waits -/
def Wt (N : sm_M) (k i : Nat) (x : Int32) : Prop := (∃ m, m ≤ 2 ∧ N.1 10 0 36 k = nI m ∧ i < m) ∧ N.1 10 0 37 (2 * k + i) = x
/-- values of owners, and of messages, are all different -/
def RI (N : sm_M) : Prop := (∀ p q v w, p < 3 → q < 3 → v < 6 → w < 6 → aR N 29 p v = 1 → aR N 29 q w = 1 → aR N 30 p v = aR N 30 q w → p = q ∧ v = w) ∧
  (∀ p v k i, p < 3 → v < 6 → k < 6 → aR N 29 p v = 1 → ¬ Wt N k i (aR N 30 p v)) ∧ (∀ k i k' i' x, k < 6 → k' < 6 → ¬ x = -1 → Wt N k i x → Wt N k' i' x → k = k' ∧ i = i')
def Fresh (N : sm_M) (x : Int32) : Prop := (∀ q v, q < 3 → v < 6 → aR N 29 q v = 1 → ¬ aR N 30 q v = x) ∧ ∀ k i, k < 6 → ¬ Wt N k i x
/-- the cells that an op changes of the variables of a process -/
def fM (p c q j i : Nat) : Prop := (c = 0 ∧ q = p ∧ (j = 2 ∨ j = 3 ∨ j = 4 ∨ j = 5 ∨ (j = 0 ∧ i = 6))) ∨ c = 6
def fN (p c q j i : Nat) : Prop := c = 10 ∧ q = 0 ∧ ((29 ≤ j ∧ j ≤ 34 ∧ 6 * p ≤ i ∧ i < 6 * p + 6) ∨ j = 42 ∨ (j = 0 ∧ (i = 39 ∨ i = 40)))
theorem fN_q {p q j : Nat} {N N' : sm_M} (h : frS (fN p) N N') (hq : ¬ q = p) (hj : j < 35) (hj0 : ¬ j = 0) : aR N' j q = aR N j q := aR_fr h (fun v hv z => by unfold fN at z; omega)
theorem fN_w {p : Nat} {N N' : sm_M} (h : frS (fN p) N N') : Wt N' = Wt N := by
  funext k i x
  unfold Wt
  rw [h.2 _ _ _ _ (fun z => by unfold fN at z; omega), h.2 _ _ _ _ (fun z => by unfold fN at z; omega)]
theorem RI_1 {p : Nat} {N N' : sm_M} (r : RI N) (h : frS (fN p) N N') (hv : ∀ v, v < 6 → aR N' 29 p v = 1 → aR N 29 p v = 1 ∧ aR N' 30 p v = aR N 30 p v) : RI N' := by
  obtain ⟨r1, r2, r3⟩ := r
  have e : ∀ q v, v < 6 → aR N' 29 q v = 1 → aR N 29 q v = 1 ∧ aR N' 30 q v = aR N 30 q v := by
    intro q v hv6 h1
    by_cases z : q = p
    · subst z; exact hv v hv6 h1
    · rw [fN_q h z (by decide) (by decide)] at h1 ⊢
      exact ⟨h1, rfl⟩
  unfold RI
  rw [fN_w h]
  refine ⟨fun a b v w ha hb hv6 hw6 h1 h2 hx => ?_, fun a v k i ha hv6 hk h1 => ?_, r3⟩
  · obtain ⟨x1, x2⟩ := e a v hv6 h1
    obtain ⟨y1, y2⟩ := e b w hw6 h2
    exact r1 a b v w ha hb hv6 hw6 x1 y1 (x2.symm.trans (hx.trans y2))
  · obtain ⟨x1, x2⟩ := e a v hv6 h1
    rw [x2]
    exact r2 a v k i ha hv6 hk x1
theorem RI_2 {p a : Nat} {N N' : sm_M} (r : RI N) (h : frS (fN p) N N') (hp : p < 3) (ha : a < 6) (hv : ∀ v, v < 6 → ¬ v = a → aR N' 29 p v = 1 → aR N 29 p v = 1 ∧ aR N' 30 p v = aR N 30 p v) (hf : Fresh N (aR N' 30 p a)) : RI N' := by
  obtain ⟨r1, r2, r3⟩ := r
  have e : ∀ q v, v < 6 → ¬ (q = p ∧ v = a) → aR N' 29 q v = 1 → aR N 29 q v = 1 ∧ aR N' 30 q v = aR N 30 q v := by
    intro q v hv6 hn h1
    by_cases z : q = p
    · subst z; exact hv v hv6 (fun y => hn ⟨rfl, y⟩) h1
    · rw [fN_q h z (by decide) (by decide)] at h1 ⊢
      exact ⟨h1, rfl⟩
  unfold RI
  rw [fN_w h]
  refine ⟨fun b c v w hb hc hv6 hw6 h1 h2 hx => ?_, fun b v k i hb hv6 hk h1 => ?_, r3⟩
  · by_cases z1 : b = p ∧ v = a
    · by_cases z2 : c = p ∧ w = a
      · exact ⟨z1.1.trans z2.1.symm, z1.2.trans z2.2.symm⟩
      · obtain ⟨y1, y2⟩ := e c w hw6 z2 h2
        rw [z1.1, z1.2] at hx
        exact absurd (y2.symm.trans hx.symm) (hf.1 c w hc hw6 y1)
    · obtain ⟨x1, x2⟩ := e b v hv6 z1 h1
      by_cases z2 : c = p ∧ w = a
      · rw [z2.1, z2.2] at hx
        exact absurd (x2.symm.trans hx) (hf.1 b v hb hv6 x1)
      · obtain ⟨y1, y2⟩ := e c w hw6 z2 h2
        exact r1 b c v w hb hc hv6 hw6 x1 y1 (x2.symm.trans (hx.trans y2))
  · by_cases z1 : b = p ∧ v = a
    · rw [z1.1, z1.2]
      exact hf.2 k i hk
    · obtain ⟨x1, x2⟩ := e b v hv6 z1 h1
      rw [x2]
      exact r2 b v k i hb hv6 hk x1
/-- what stands while an op of a process p is done: b bounds the times -/
def Q (p : Nat) (M N : sm_M) (mk T b tc : Nat) : Prop := PV p M N mk b tc ∧ RD M N ∧ RI N ∧ M.1 6 0 0 2 = nI mk ∧ N.1 10 0 0 39 = nI mk ∧ N.1 10 0 0 38 = nI T ∧ M.1 6 0 0 3 = nI tc
theorem Q_d {p : Nat} {M N : sm_M} {mk T b tc : Nat} (q : Q p M N mk T b tc) : ∃ d, M.1 6 0 0 1 = nI d ∧ N.1 10 0 0 40 = nI d ∧ d ≤ 200 := by
  obtain ⟨d, h1, h2, h3, _⟩ := q.2.1
  exact ⟨d, h2, h3, h1⟩
theorem Q_uq {p : Nat} {M N : sm_M} {mk T b tc : Nat} (q : Q p M N mk T b tc) : uqR N p := fun v w hv hw h1 h2 hx => q.1.2.2.2.2.2.2.2 v w hv hw h1 h2 hx
theorem dpC_fr {p : Nat} {M : sm_M} {x : Int32} : frS (fM p) M (dpC M x) := ⟨dpC_2, fun c q j i h => dpC_c (fun z => h (Or.inr z))⟩
theorem dpR_fr {p : Nat} {N : sm_M} {x : Int32} : frS (fN p) N (dpR N x) := ⟨dpR_2, fun c q j i h => dpR_c (fun z => h (by unfold fN; omega))⟩
theorem dpR_39 {N : sm_M} {x : Int32} {i : Nat} (h : ¬ i = 40) : (dpR N x).1 10 0 0 i = N.1 10 0 0 i := dpR_c (by omega)
theorem lpM_fr {p : Nat} {M : sm_M} {L : Int32} : frS (fM p) M (lpM M p L) := frS_u (Or.inl ⟨rfl, rfl, by omega⟩)
theorem vac_fr {p a : Nat} {M : sm_M} {L : Int32} : frS (fM p) M (vacM M p a L) := by
  unfold vacM
  refine frS_t ?_ (frS_u (Or.inl ⟨rfl, rfl, by omega⟩))
  split
  · exact frS_t lpM_fr dpC_fr
  · exact lpM_fr
theorem le_fr {p a : Nat} {N : sm_M} (ha : a < 6) : frS (fN p) N (leM N p a) := by
  unfold leM
  refine frS_t ?_ (frS_u ⟨rfl, rfl, Or.inl ⟨by omega, by omega, by omega, by omega⟩⟩)
  split
  · exact dpR_fr
  · exact frS_r
theorem le_f {p a i : Nat} {N : sm_M} (h : ¬ i = 40) : (leM N p a).1 10 0 0 i = N.1 10 0 0 i := by
  unfold leM
  rw [u_mis (by omega)]
  split
  · exact dpR_39 h
  · rfl
theorem le_29 {p a : Nat} {N : sm_M} (ha : a < 6) : aR (leM N p a) 29 p = upL (aR N 29 p) a 0 := by
  unfold leM
  rw [aR_u ha]
  split
  · rw [dpR_a (by decide)]
  · rfl
theorem le_j {p a j : Nat} {N : sm_M} (hj : 30 ≤ j ∧ j ≤ 34) : aR (leM N p a) j p = aR N j p := by
  unfold leM
  rw [aR_j (by omega)]
  split
  · rw [dpR_a (by omega)]
  · rfl
theorem Q_vac {p : Nat} {M N : sm_M} {mk T b tc a : Nat} {L : Int32} (q : Q p M N mk T b tc) (ha : a < 6)
    (hl : ∀ v, v < 6 → ¬ v = a → (bt L v = false ↔ (lpC M p v = false ∧ ¬ (hC M p a = 1 ∧ xC M p v = xC M p a ∧ (hC M p v = 2 ∨ hC M p v = 3))))) : Q p (vacM M p a L) (leM N p a) mk T b tc := by
  obtain ⟨q1, q2, q3, q4, q5, q6, q7⟩ := q
  refine ⟨PV_vac q1 ha hl, RD_vac q1 ha q2, RI_1 q3 (le_fr ha) (fun v hv h1 => ?_), (vac_6 (by decide)).trans q4, (le_f (by decide)).trans q5, (le_f (by decide)).trans q6, (vac_6 (by decide)).trans q7⟩
  rw [le_29 ha] at h1
  rw [le_j (by decide)]
  by_cases z : v = a
  · rw [z, up_k] at h1; exact absurd h1 i32_0.1
  · rw [up_o z] at h1; exact ⟨h1, rfl⟩
theorem ow_fr {p a : Nat} {N : sm_M} {val kd : Int32} (ha : a < 6) : frS (fN p) N (owM N p a val kd) := by
  have h : ∀ j, 29 ≤ j → j ≤ 34 → fN p 10 0 j (6 * p + a) := fun j h1 h2 => ⟨rfl, rfl, Or.inl ⟨h1, h2, by omega, by omega⟩⟩
  exact frS_t (frS_u (h 29 (by decide) (by decide))) (frS_t (frS_u (h 30 (by decide) (by decide))) (frS_t (frS_u (h 31 (by decide) (by decide))) (frS_t (frS_u (h 32 (by decide) (by decide))) (frS_t (frS_u (h 33 (by decide) (by decide))) (frS_u (h 34 (by decide) (by decide)))))))
theorem put_fr {p a : Nat} {M : sm_M} {val kd : Int32} : frS (fM p) M (putM M p a val kd) :=
  frS_t (frS_u (Or.inl ⟨rfl, rfl, by omega⟩)) (frS_t (frS_u (Or.inl ⟨rfl, rfl, by omega⟩)) (frS_t (frS_u (Or.inl ⟨rfl, rfl, by omega⟩)) (frS_t (frS_u (Or.inr rfl)) (frS_u (Or.inl ⟨rfl, rfl, by omega⟩)))))
theorem ow_29 {p a : Nat} {N : sm_M} {val kd : Int32} (ha : a < 6) : aR (owM N p a val kd) 29 p = upL (aR N 29 p) a 1 ∧ aR (owM N p a val kd) 30 p = upL (aR N 30 p) a val := by
  unfold owM
  refine ⟨?_, ?_⟩
  · rw [aR_j (by omega), aR_j (by omega), aR_j (by omega), aR_j (by omega), aR_j (by omega), aR_u ha]
  · rw [aR_j (by omega), aR_j (by omega), aR_j (by omega), aR_j (by omega), aR_u ha, aR_j (by omega)]
theorem Q_own {p : Nat} {M N : sm_M} {mk t tc a y : Nat} {kd : Int32} (q : Q p M N mk (t + 1) t tc) (hp : p < 3) (ha : a < 6) (h0 : hC M p a = 0) (hy : y < mk) (ht : t < 2000000) (htc : tc < 2000000) (hk : ∃ n, n < 3 ∧ kd = nI n) (hf : Fresh N (nI y)) :
    Q p (putM M p a (nI y) kd) (owM N p a (nI y) kd) mk (t + 1) (t + 1) (tc + 1) := by
  obtain ⟨q1, q2, q3, q4, q5, q6, q7⟩ := q
  have F := ow_fr (N := N) (p := p) (val := nI y) (kd := kd) ha
  have e := fun i (h : i = 38 ∨ i = 39 ∨ i = 40) => show (owM N p a (nI y) kd).1 10 0 0 i = N.1 10 0 0 i from by unfold owM; rw [u_mis (by omega), u_mis (by omega), u_mis (by omega), u_mis (by omega), u_mis (by omega), u_mis (by omega)]
  have em := fun i (h : i = 1 ∨ i = 2) => show (putM M p a (nI y) kd).1 6 0 0 i = M.1 6 0 0 i from by unfold putM; rw [u_mis (by omega), u_mis (by omega), u_mis (by omega), u_mis (by omega), u_mis (by omega)]
  obtain ⟨f1, f2⟩ := ow_29 (N := N) (p := p) (val := nI y) (kd := kd) ha
  refine ⟨PV_own q1 hp ha h0 hy ht htc hk (fun o ho h1 => hf.1 p o hp ho h1) q7 q6, RD_fr q2 (em 1 (by omega)) (fun i => ?_) (e 40 (by omega)) (fun i => ?_), RI_2 q3 F hp ha (fun v hv hva h1 => ?_) ?_, (em 2 (by omega)).trans q4, (e 39 (by omega)).trans q5, (e 38 (by omega)).trans q6, ?_⟩
  · unfold putM; rw [u_mis (by omega), u_mis (by omega), u_mis (by omega), u_mis (by omega), u_mis (by omega)]
  · unfold owM; rw [u_mis (by omega), u_mis (by omega), u_mis (by omega), u_mis (by omega), u_mis (by omega), u_mis (by omega)]
  · rw [f1, up_o hva] at h1
    rw [f2, up_o hva]
    exact ⟨h1, rfl⟩
  · rw [f2, up_k]; exact hf
  · unfold putM
    rw [u_mis (by omega), u_hit, q7, nI_1]
/-- a value is made -/
def mdM (N : sm_M) : sm_M := sm_u N 10 0 0 39 (N.1 10 0 0 39 + 1)
theorem aR_0 {N : sm_M} {j p i : Nat} {y : Int32} (hj : ¬ j = 0) : aR (sm_u N 10 0 0 i y) j p = aR N j p := aR_j (by omega)
theorem PV_o {p : Nat} {M N M' N' : sm_M} {mk t tc : Nat} (r : PV p M N mk t tc) (h1 : hC M' p = hC M p) (h2 : xC M' p = xC M p) (h3 : kC M' p = kC M p) (h4 : sC M' p = sC M p) (h5 : lpC M' p = lpC M p) (h6 : ∀ j, 29 ≤ j → j ≤ 34 → aR N' j p = aR N j p) : PV p M' N' mk t tc := by
  unfold PV at r ⊢
  rw [h1, h2, h3, h4, h5, h6 29 (by decide) (by decide), h6 30 (by decide) (by decide), h6 31 (by decide) (by decide), h6 32 (by decide) (by decide), h6 33 (by decide) (by decide), h6 34 (by decide) (by decide)]
  exact r
theorem Q_md {p : Nat} {M N : sm_M} {mk T b tc : Nat} (q : Q p M N mk T b tc) : Q p (numM M) (mdM N) (mk + 1) T b tc := by
  obtain ⟨q1, q2, q3, q4, q5, q6, q7⟩ := q
  unfold numM mdM
  rw [q4, q5, nI_1]
  have pv := PV_o (M' := sm_u M 6 0 0 2 (nI (mk + 1))) (N' := sm_u N 10 0 0 39 (nI (mk + 1))) q1 (hC_j (by omega)) (xC_j (by omega)) (kC_j (by omega)) (sC_j (by omega)) (lpC_j (by omega)) (fun j _ _ => aR_0 (by omega))
  refine ⟨⟨pv.1, VR_mk pv.2 (by omega) (Nat.le_refl _) (Nat.le_refl _)⟩, RD_fr q2 (u_mis (by omega)) (fun i => u_mis (by omega)) (u_mis (by omega)) (fun i => u_mis (by omega)), RI_1 (p := p) q3 (frS_u (by unfold fN; omega)) (fun v hv h1 => ?_), u_hit, u_hit, (u_mis (by omega)).trans q6, (u_mis (by omega)).trans q7⟩
  rw [aR_0 (by decide)] at h1 ⊢
  exact ⟨h1, rfl⟩
theorem num_fr {p : Nat} {M : sm_M} : frS (fM p) M (numM M) := frS_u (Or.inr rfl)
theorem md_fr {p : Nat} {N : sm_M} : frS (fN p) N (mdM N) := frS_u (by unfold fN; omega)
/-- what an owner has goes from it -/
theorem Q_gone {p : Nat} {M N : sm_M} {mk T b tc u : Nat} {L : Int32} (q : Q p M N mk T b tc) (hu : u < 6)
    (hl : ∀ v, v < 6 → ¬ v = u → (bt L v = false ↔ (lpC M p v = false ∧ ¬ (hC M p u = 1 ∧ xC M p v = xC M p u ∧ (hC M p v = 2 ∨ hC M p v = 3))))) : Q p (sm_u (lpM M p L) 0 p 2 u 0) (sm_u N 10 0 29 (6 * p + u) 0) mk T b tc := by
  obtain ⟨q1, q2, q3, q4, q5, q6, q7⟩ := q
  refine ⟨PV_gone q1 hu hl, RD_fr q2 ((u_mis (by omega)).trans (u_mis (by omega))) (fun i => (u_mis (by omega)).trans (u_mis (by omega))) (u_mis (by omega)) (fun i => u_mis (by omega)), RI_1 (p := p) q3 (frS_u ⟨rfl, rfl, Or.inl ⟨by omega, by omega, by omega, by omega⟩⟩) (fun v hv h1 => ?_), ((u_mis (by omega)).trans (u_mis (by omega))).trans q4, (u_mis (by omega)).trans q5, (u_mis (by omega)).trans q6, ((u_mis (by omega)).trans (u_mis (by omega))).trans q7⟩
  rw [aR_u hu] at h1
  rw [aR_j (by omega)]
  by_cases z : v = u
  · rw [z, up_k] at h1; exact absurd h1 i32_0.1
  · rw [up_o z] at h1; exact ⟨h1, rfl⟩
theorem gone_frM {p u : Nat} {M : sm_M} {L : Int32} : frS (fM p) M (sm_u (lpM M p L) 0 p 2 u 0) := frS_t lpM_fr (frS_u (Or.inl ⟨rfl, rfl, by omega⟩))
theorem u_frN {p u j : Nat} {N : sm_M} {y : Int32} (hu : u < 6) (h1 : 29 ≤ j) (h2 : j ≤ 34) : frS (fN p) N (sm_u N 10 0 j (6 * p + u) y) := frS_u ⟨rfl, rfl, Or.inl ⟨h1, h2, by omega, by omega⟩⟩
/-- a value that went from its owner is free -/
theorem Q_free {p : Nat} {M N : sm_M} {mk T b tc u : Nat} (q : Q p M N mk T b tc) (hp : p < 3) (hu : u < 6) (h1 : aR N 29 p u = 1) : Fresh (sm_u N 10 0 29 (6 * p + u) 0) (aR N 30 p u) := by
  obtain ⟨_, _, ⟨r1, r2, r3⟩, _⟩ := q
  have F : frS (fN p) N (sm_u N 10 0 29 (6 * p + u) 0) := u_frN hu (by decide) (by decide)
  refine ⟨fun q' v hq hv g gx => ?_, fun k i hk => ?_⟩
  · by_cases z : q' = p
    · subst z
      rw [aR_u hu] at g
      rw [aR_j (by omega)] at gx
      by_cases y : v = u
      · rw [y, up_k] at g; exact absurd g i32_0.1
      · rw [up_o y] at g
        exact y (r1 q' q' v u hq hq hv hu g h1 gx).2
    · rw [fN_q F z (by decide) (by decide)] at g gx
      exact z (r1 q' p v u hq hp hv hu g h1 gx).1
  · rw [fN_w F]
    exact r2 p u k i hp hu hk h1
/-- a value that isn't made yet is free -/
theorem Q_new {p : Nat} {M N : sm_M} {mk T b tc : Nat} (q : Q p M N mk T b tc) (hmk : mk < 2000000) (hv : ∀ q' v, q' < 3 → v < 6 → aR N 29 q' v = 1 → ∃ y, y < mk ∧ aR N 30 q' v = nI y) (hw : ∀ k i x, k < 6 → Wt N k i x → x = -1 ∨ ∃ y, y < mk ∧ x = nI y) : Fresh N (nI mk) := by
  refine ⟨fun q' v hq hv6 g gx => ?_, fun k i hk g => ?_⟩
  · obtain ⟨y, hy, e⟩ := hv q' v hq hv6 g
    rw [e, i_eq (by omega) (by omega)] at gx
    omega
  · rcases hw k i _ hk g with z | ⟨y, hy, z⟩
    · exact absurd (nI_pos (show mk < 2147483648 by omega)) (by rw [z]; decide)
    · rw [i_eq (by omega) (by omega)] at z
      omega
