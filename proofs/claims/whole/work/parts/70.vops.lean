/-! LEVEL B: the run: the ops on variables, both sides -/
/-- an op of the variables of p has been done on both sides -/
def OKQ (p : Nat) (M N : sm_M) (mk t tc : Nat) (M' N' : sm_M) : Prop := ∃ mk' tc', Q p M' N' mk' (t + 1) (t + 1) tc' ∧ mk ≤ mk' ∧ mk' ≤ mk + 1 ∧ tc ≤ tc' ∧ tc' ≤ tc + 1 ∧ frS (fM p) M M' ∧ frS (fN p) N N'
theorem Q_up {p : Nat} {M N : sm_M} {mk T b b' tc : Nat} (q : Q p M N mk T b tc) (h : b ≤ b') : Q p M N mk T b' tc := ⟨⟨q.1.1, VR_mk q.1.2 (Nat.le_refl _) h (Nat.le_refl _)⟩, q.2⟩
theorem md_le {N : sm_M} {p a : Nat} : mdM (leM N p a) = leM (mdM N) p a := by
  have e : (leM N p a).1 10 0 0 39 = N.1 10 0 0 39 := le_f (by decide)
  unfold mdM
  rw [e]
  unfold leM
  rw [aR_0 (by decide), aR_0 (by decide), aR_0 (by decide), u_comm (j := 29) (j2 := 0) (by omega)]
  split
  · unfold dpR
    rw [u_mis (show ¬(10 = 10 ∧ 0 = 0 ∧ 0 = 0 ∧ 40 = 39) by omega)]
    split
    · rw [u_comm (j := 0) (i := 40) (j2 := 0) (i2 := 39) (by omega), u_comm (j := 42) (j2 := 0) (i2 := 39) (by omega)]
    · rfl
  · rfl
theorem md_ow {N : sm_M} {p a : Nat} {val kd : Int32} : mdM (owM N p a val kd) = owM (mdM N) p a val kd := by
  have e : (owM N p a val kd).1 10 0 0 39 = N.1 10 0 0 39 := by unfold owM; rw [u_mis (by omega), u_mis (by omega), u_mis (by omega), u_mis (by omega), u_mis (by omega), u_mis (by omega)]
  have e2 : (mdM N).1 10 0 0 38 = N.1 10 0 0 38 := u_mis (by omega)
  unfold mdM at e2 ⊢
  rw [e]
  unfold owM
  rw [e2, u_comm (j := 34) (j2 := 0) (by omega), u_comm (j := 33) (j2 := 0) (by omega), u_comm (j := 32) (j2 := 0) (by omega), u_comm (j := 31) (j2 := 0) (by omega), u_comm (j := 30) (j2 := 0) (by omega), u_comm (j := 29) (j2 := 0) (by omega)]
theorem gn_le {N : sm_M} {p a u : Nat} (ha : a < 6) (hu : u < 6) (hau : ¬ a = u) : sm_u (leM N p a) 10 0 29 (6 * p + u) 0 = leM (sm_u N 10 0 29 (6 * p + u) 0) p a := by
  have e : aR (sm_u N 10 0 29 (6 * p + u) 0) 29 p a = aR N 29 p a := by rw [aR_u hu, up_o hau]
  unfold leM
  rw [e, aR_j (by omega), aR_j (by omega), u_comm (by omega)]
  split
  · unfold dpR
    rw [u_mis (show ¬(10 = 10 ∧ 0 = 0 ∧ 0 = 29 ∧ 40 = 6 * p + u) by omega)]
    split
    · rw [u_comm (j := 0) (j2 := 29) (by omega), u_comm (j := 42) (j2 := 29) (by omega)]
    · rfl
  · rfl
theorem gn_ow {N : sm_M} {p a u : Nat} {val kd : Int32} (hau : ¬ a = u) : sm_u (owM N p a val kd) 10 0 29 (6 * p + u) 0 = owM (sm_u N 10 0 29 (6 * p + u) 0) p a val kd := by
  unfold owM
  rw [u_mis (show ¬(10 = 10 ∧ 0 = 0 ∧ 0 = 29 ∧ 38 = 6 * p + u) by omega), u_comm (j := 34) (j2 := 29) (by omega), u_comm (j := 33) (j2 := 29) (by omega), u_comm (j := 32) (j2 := 29) (by omega), u_comm (j := 31) (j2 := 29) (by omega), u_comm (j := 30) (j2 := 29) (by omega), u_comm (j := 29) (i := 6 * p + a) (j2 := 29) (i2 := 6 * p + u) (by omega)]
/-- what a value is fresh of stays so when a variable is vacated -/
theorem Fresh_le {N : sm_M} {p a : Nat} {x : Int32} (ha : a < 6) (f : Fresh N x) : Fresh (leM N p a) x := by
  have F := le_fr (p := p) (N := N) ha
  refine ⟨fun q v hq hv g => ?_, fun k i hk => by rw [fN_w F]; exact f.2 k i hk⟩
  by_cases z : q = p
  · subst z
    rw [le_29 ha] at g
    rw [le_j (by decide)]
    by_cases y : v = a
    · rw [y, up_k] at g; exact absurd g i32_0.1
    · rw [up_o y] at g; exact f.1 q v hq hv g
  · rw [fN_q F z (by decide) (by decide)] at g ⊢
    exact f.1 q v hq hv g
theorem Fresh_0 {N : sm_M} {i : Nat} {x y : Int32} (f : Fresh N x) : Fresh (sm_u N 10 0 0 i y) x := by
  refine ⟨fun q v hq hv g => ?_, fun k j hk g => f.2 k j hk ?_⟩
  · rw [aR_0 (by decide)] at g ⊢
    exact f.1 q v hq hv g
  · unfold Wt at g ⊢
    rw [u_mis (by omega), u_mis (by omega)] at g
    exact g
/-- a variable gets a value that is free: own on both sides -/
theorem V_own {sc : Nat × (Nat → Int32)} {p : Nat} {M N : sm_M} {mk t tc a y : Nat} {kd : Int32} (q : Q p M N mk (t + 1) t tc) (hp : p < 3) (ha : a < 6) (hy : y < mk) (ht : t < 2000000) (htc : tc < 2000000) (hk : ∃ n, n < 3 ∧ kd = nI n) (hf : Fresh N (nI y)) :
    ∃ M', dn sc kBody_own 0 [.inr (.inr (0, p, 0)), .inl (nI a), .inl (nI y), .inl kd] [] M = some (0, .inl 0, M') ∧ dn sc kModel_leaves 0 [.inr (.inr (10, 0, 0)), .inl (nI (6 * p + a))] [] N = some (0, .inl 0, leM N p a) ∧
      dn sc kModel_owns 0 [.inr (.inr (10, 0, 0)), .inl (nI (6 * p + a)), .inl (nI y), .inl kd] [] (leM N p a) = some (0, .inl 0, owM (leM N p a) p a (nI y) kd) ∧ Q p M' (owM (leM N p a) p a (nI y) kd) mk (t + 1) (t + 1) (tc + 1) ∧ frS (fM p) M M' ∧ frS (fN p) N (owM (leM N p a) p a (nI y) kd) := by
  obtain ⟨d, d1, d2, d3⟩ := Q_d q
  obtain ⟨L, l1, l2⟩ := P_own (sc := sc) (p := p) (val := nI y) (kd := kd) ha d1 d3
  have q1 := Q_vac q ha l2
  have h0 : hC (vacM M p a L) p a = 0 := by rw [vac_h, up_k]
  exact ⟨_, l1, P_mLeaves hp ha d2 d3, P_mOwns hp ha, Q_own q1 hp ha h0 hy ht htc hk (Fresh_le ha hf), frS_t vac_fr put_fr, frS_t (le_fr ha) (ow_fr ha)⟩
/-- what borrow makes on both sides: the target is vacated -/
theorem V_bor {sc : Nat × (Nat → Int32)} {p : Nat} {M N : sm_M} {mk T b tc a u : Nat} {w : Int32} (q : Q p M N mk T b tc) (hp : p < 3) (ha : a < 6) (hu : u < 6) (hau : ¬ a = u) :
    ∃ L K, dn sc kBody_borrow 0 [.inr (.inr (0, p, 0)), .inl (nI a), .inl (nI u), .inl w] [] M = some (0, .inl 0, borM (vacM M p a L) p a u w K) ∧ dn sc kModel_leaves 0 [.inr (.inr (10, 0, 0)), .inl (nI (6 * p + a))] [] N = some (0, .inl 0, leM N p a) ∧ Q p (vacM M p a L) (leM N p a) mk T b tc ∧
      hC (vacM M p a L) p a = 0 ∧ hC (vacM M p a L) p u = hC M p u ∧ (∀ v, v < 6 → ¬ v = a → bt K v = lpC (vacM M p a L) p v) ∧ bt K a = ((decide (hC M p u = 2) || decide (hC M p u = 3)) && lpC (vacM M p a L) p u) := by
  obtain ⟨d, d1, d2, d3⟩ := Q_d q
  obtain ⟨L, K, l1, l2, l3, l4⟩ := P_borrow (sc := sc) (p := p) (w := w) ha hu hau d1 d3
  have el : lpC (vacM M p a L) p = bt L := by funext v; unfold lpC; rw [vac_l]
  refine ⟨L, K, l1, P_mLeaves hp ha d2 d3, Q_vac q ha l2, by rw [vac_h, up_k], by rw [vac_h, up_o (fun z => hau z.symm)], fun v hv hva => ?_, ?_⟩
  · rw [el]; exact l3 v hv hva
  · rw [el]; exact l4
theorem bor_fr {p a u : Nat} {M : sm_M} {w K : Int32} : frS (fM p) M (borM M p a u w K) := frS_t (frS_u (Or.inl ⟨rfl, rfl, by omega⟩)) (frS_t (frS_u (Or.inl ⟨rfl, rfl, by omega⟩)) lpM_fr)
/-- writes of both sides that leave what owns as it is, or make it less -/
theorem Q_w {p : Nat} {M N M' N' : sm_M} {mk T b b' tc : Nat} (q : Q p M N mk T b tc) (pv : PV p M' N' mk b' tc) (hM : ∀ j i, M'.1 6 0 j i = M.1 6 0 j i) (h0 : ∀ i, (i = 38 ∨ i = 39 ∨ i = 40) → N'.1 10 0 0 i = N.1 10 0 0 i) (h42 : ∀ i, N'.1 10 0 42 i = N.1 10 0 42 i) (hN : frS (fN p) N N')
    (hv : ∀ v, v < 6 → aR N' 29 p v = 1 → aR N 29 p v = 1 ∧ aR N' 30 p v = aR N 30 p v) : Q p M' N' mk T b' tc := by
  obtain ⟨q1, q2, q3, q4, q5, q6, q7⟩ := q
  exact ⟨pv, RD_fr q2 (hM _ _) (fun i => hM _ _) (h0 40 (by omega)) h42, RI_1 q3 hN hv, (hM _ _).trans q4, (h0 39 (by omega)).trans q5, (h0 38 (by omega)).trans q6, (hM _ _).trans q7⟩
theorem bor_6 {p a u j i : Nat} {M : sm_M} {w K : Int32} : (borM M p a u w K).1 6 0 j i = M.1 6 0 j i := by unfold borM lpM; rw [u_mis (by omega), u_mis (by omega), u_mis (by omega)]
/-- FREE -/
theorem V_free {sc : Nat × (Nat → Int32)} {p : Nat} {M N : sm_M} {mk t tc u : Nat} (q : Q p M N mk (t + 1) t tc) (hp : p < 3) (hu : u < 6) (h1 : hC M p u = 1) :
    ∃ M' N1, dn sc kBody_free 0 [.inr (.inr (0, p, 0)), .inl (nI u)] [] M = some (0, .inl 0, M') ∧ dn sc kModel_goesAway 0 [.inr (.inr (10, 0, 0)), .inl (aR N 30 p u)] [] N = some (0, .inl 0, N1) ∧ OKQ p M N mk t tc M' (sm_u N1 10 0 29 (6 * p + u) 0) := by
  obtain ⟨d, d1, d2, d3⟩ := Q_d q
  obtain ⟨L, l1, l2⟩ := P_free (sc := sc) (p := p) hu h1 d1 d3
  have ex : xC M p u = aR N 30 p u := (q.1.1 u hu).2.1
  have q1 : Q p (dpC M (xC M p u)) (dpR N (xC M p u)) mk (t + 1) t tc := by
    obtain ⟨a1, a2, a3, a4, a5, a6, a7⟩ := q
    refine ⟨PV_dp a1, RD_dp a2, RI_1 (p := p) a3 dpR_fr (fun v hv g => ?_), (dpC_f (by decide)).trans a4, (dpR_39 (by decide)).trans a5, (dpR_39 (by decide)).trans a6, (dpC_f (by decide)).trans a7⟩
    rw [dpR_a (by decide)] at g
    exact ⟨g, by rw [dpR_a (by decide)]⟩
  have f1 : ∀ w, hC (dpC M (xC M p u)) p w = hC M p w := fun w => dpC_c (by decide)
  have f2 : ∀ w, xC (dpC M (xC M p u)) p w = xC M p w := fun w => dpC_c (by decide)
  have f3 : ∀ v, lpC (dpC M (xC M p u)) p v = lpC M p v := fun v => by unfold lpC; rw [dpC_c (by decide)]
  have q2 := Q_gone (L := L) q1 hu (fun v hv hvu => by rw [f1, f1, f2, f2, f3]; exact l2 v hv hvu)
  rw [ex] at q2 l1
  exact ⟨_, dpR N (aR N 30 p u), l1, P_mAway d2 d3, mk, tc, Q_up q2 (by omega), Nat.le_refl _, by omega, Nat.le_refl _, by omega, frS_t dpC_fr gone_frM, frS_t dpR_fr (u_frN hu (by decide) (by decide))⟩
/-- what a share or a loan that holds rests on -/
theorem V_hold {p : Nat} {M N : sm_M} {mk t tc u : Nat} (r : PV p M N mk t tc) (hu : u < 6) (h : hC M p u = 1 ∨ ((hC M p u = 2 ∨ hC M p u = 3) ∧ lpC M p u = false)) : ∃ o, o < 6 ∧ aR N 29 p o = 1 ∧ aR N 30 p o = aR N 30 p u ∧ (hC M p u = 3 → aR N 34 p o = nI (6 * p + u)) := by
  have eh := (r.1 u hu).1
  rcases h with h | ⟨h, hl⟩
  · exact ⟨u, hu, eh ▸ h, rfl, fun g => absurd (h.symm.trans g) i32_0.2.2.2.2.2.2.1⟩
  · rw [eh] at h
    obtain ⟨o, o1, o2, o3, _, o5⟩ := (r.2.2.2.2.2.1 u hu h).mp hl
    exact ⟨o, o1, o2, o3, fun g => o5 (eh ▸ g)⟩
theorem us_0 {N : sm_M} {p v o i : Nat} {ch : Bool} : (usM N p v o ch).1 10 0 0 i = N.1 10 0 0 i ∧ (usM N p v o ch).1 10 0 42 i = N.1 10 0 42 i := by
  unfold usM
  exact ⟨(u_mis (by omega)).trans (u_mis (by omega)), (u_mis (by omega)).trans (u_mis (by omega))⟩
theorem us_29 {N : sm_M} {p v o : Nat} {ch : Bool} : aR (usM N p v o ch) 29 p = aR N 29 p ∧ aR (usM N p v o ch) 30 p = aR N 30 p := by
  unfold usM
  rw [aR_j (by omega), aR_j (by omega), aR_j (by omega), aR_j (by omega)]
  exact ⟨rfl, rfl⟩
theorem us_fr {N : sm_M} {p v o : Nat} {ch : Bool} (ho : o < 6) : frS (fN p) N (usM N p v o ch) := frS_t (u_frN ho (by decide) (by decide)) (u_frN ho (by decide) (by decide))
/-- READ -/
theorem V_read {sc : Nat × (Nat → Int32)} {p : Nat} {M N : sm_M} {mk t tc u : Nat} (q : Q p M N mk (t + 1) t tc) (hp : p < 3) (hu : u < 6) (h : hC M p u = 1 ∨ ((hC M p u = 2 ∨ hC M p u = 3) ∧ lpC M p u = false)) :
    ∃ M' N', dn sc kBody_read 0 [.inr (.inr (0, p, 0)), .inl (nI u)] [] M = some (0, .inl 0, M') ∧ dn sc kModel_uses 0 [.inr (.inr (10, 0, 0)), .inl (nI p), .inl (nI (6 * p + u)), .inl 0] [] N = some (0, .inl 0, N') ∧ OKQ p M N mk t tc M' N' := by
  obtain ⟨o, o1, o2, o3, o5⟩ := V_hold q.1 hu h
  have h0 : ¬ hC M p u = 0 := by rcases h with h | ⟨h | h, _⟩ <;> rw [h] <;> decide
  obtain ⟨L, l1, l2⟩ := P_read (sc := sc) (p := p) hu h0
  have pv := PV_read q.1 hp hu o1 o2 o3 l2
  refine ⟨_, _, l1, P_mUses (ch := false) hp hu o1 o2 o3 (Q_uq q), mk, tc, Q_up (Q_w q pv (fun j i => u_mis (by omega)) (fun i _ => us_0.1) (fun i => us_0.2) (us_fr o1) (fun v hv g => by rw [us_29.1] at g; exact ⟨g, by rw [us_29.2]⟩)) (by omega), Nat.le_refl _, by omega, Nat.le_refl _, by omega, lpM_fr, us_fr o1⟩
/-- WRITE -/
theorem V_write {sc : Nat × (Nat → Int32)} {p : Nat} {M N : sm_M} {mk t tc u : Nat} (q : Q p M N mk (t + 1) t tc) (hp : p < 3) (hu : u < 6) (ht : t < 2000000) (h : hC M p u = 1 ∨ ((hC M p u = 2 ∨ hC M p u = 3) ∧ lpC M p u = false)) :
    ∃ M' N', dn sc kBody_write 0 [.inr (.inr (0, p, 0)), .inl (nI u)] [] M = some (0, .inl 0, M') ∧ dn sc kModel_uses 0 [.inr (.inr (10, 0, 0)), .inl (nI p), .inl (nI (6 * p + u)), .inl 1] [] N = some (0, .inl 0, N') ∧ OKQ p M N mk t tc M' N' := by
  obtain ⟨o, o1, o2, o3, o5⟩ := V_hold q.1 hu h
  have h0 : ¬ hC M p u = 0 := by rcases h with h | ⟨h | h, _⟩ <;> rw [h] <;> decide
  obtain ⟨L, l1, l2⟩ := P_write (sc := sc) (p := p) hu h0
  have pv := PV_write q.1 hp hu o1 ht q.2.2.2.2.2.1 o2 o3 l2
  refine ⟨_, _, l1, P_mUses (ch := true) hp hu o1 o2 o3 (Q_uq q), mk, tc, Q_w q pv (fun j i => u_mis (by omega)) (fun i _ => us_0.1) (fun i => us_0.2) (us_fr o1) (fun v hv g => by rw [us_29.1] at g; exact ⟨g, by rw [us_29.2]⟩), Nat.le_refl _, by omega, Nat.le_refl _, by omega, lpM_fr, us_fr o1⟩
/-- loans of an owner's value end -/
theorem Q_loans {p : Nat} {M N : sm_M} {mk T b tc u : Nat} {L : Int32} (q : Q p M N mk T b tc) (hp : p < 3) (hu : u < 6) (h1 : hC M p u = 1) (hl : ∀ v, v < 6 → (bt L v = false ↔ (lpC M p v = false ∧ ¬ (¬ v = u ∧ hC M p v = 3 ∧ xC M p v = xC M p u)))) : Q p (lpM M p L) (sm_u N 10 0 34 (6 * p + u) (-1)) mk T b tc :=
  Q_w q (PV_loans q.1 hp hu h1 hl) (fun j i => u_mis (by omega)) (fun i _ => u_mis (by omega)) (fun i => u_mis (by omega)) (u_frN hu (by decide) (by decide)) (fun v hv g => by rw [aR_j (by omega)] at g; exact ⟨g, by rw [aR_j (by omega)]⟩)
/-- what leaves an owner: a copy; the kind stays in the variable -/
theorem V_hand0 {sc : Nat × (Nat → Int32)} {p : Nat} {M N : sm_M} {mk T b tc u : Nat} (q : Q p M N mk T b tc) (hp : p < 3) (hu : u < 6) (h1 : hC M p u = 1) (hk : kC M p u = 0) :
    ∃ M', dn sc kBody_handOver 0 [.inr (.inr (0, p, 0)), .inl (nI u)] [] M = some (0, .inl (nI mk), M') ∧ dn sc kModel_copied 0 [.inr (.inr (10, 0, 0)), .inl (nI p), .inl (nI (6 * p + u))] [] N = some (0, .inl (nI mk), cpR N p u) ∧ Q p M' (cpR N p u) (mk + 1) T b tc ∧ frS (fM p) M M' ∧ frS (fN p) N (cpR N p u) ∧ kC M' p u = 0 ∧ Wt (cpR N p u) = Wt N ∧ (∀ q', aR (cpR N p u) 29 q' = aR N 29 q' ∧ aR (cpR N p u) 30 q' = aR N 30 q') := by
  obtain ⟨L, l1, l2⟩ := P_hand0 (sc := sc) (p := p) hu h1 hk
  have q1 := Q_md (Q_loans q hp hu h1 l2)
  have e : mdM (sm_u N 10 0 34 (6 * p + u) (-1)) = cpR N p u := by
    unfold mdM cpR
    rw [u_mis (show ¬(10 = 10 ∧ 0 = 0 ∧ 0 = 34 ∧ 39 = 6 * p + u) by omega)]
  rw [e] at q1
  have F : frS (fN p) N (cpR N p u) := frS_t (u_frN hu (by decide) (by decide)) (frS_u (by unfold fN; omega))
  have h1' : aR N 29 p u = 1 := (q.1.1 u hu).1.symm.trans h1
  have hc := P_mCopied (sc := sc) hp hu h1' (Q_uq q)
  rw [q.2.2.2.2.1] at hc
  rw [q.2.2.2.1] at l1
  refine ⟨_, l1, hc, q1, frS_t lpM_fr num_fr, F, ?_, fN_w F, fun q' => ?_⟩
  · have : kC (numM (lpM M p L)) p = kC M p := by unfold numM; rw [kC_j (by omega), lpM_e.2.2.1]
    rw [this]; exact hk
  · unfold cpR
    rw [aR_0 (by decide), aR_0 (by decide), aR_j (by omega), aR_j (by omega)]
    exact ⟨rfl, rfl⟩
/-- what leaves an owner: the value -/
theorem V_hand1 {sc : Nat × (Nat → Int32)} {p : Nat} {M N : sm_M} {mk T b tc u : Nat} (q : Q p M N mk T b tc) (hp : p < 3) (hu : u < 6) (h1 : hC M p u = 1) (hk : ¬ kC M p u = 0) :
    ∃ M', dn sc kBody_handOver 0 [.inr (.inr (0, p, 0)), .inl (nI u)] [] M = some (0, .inl (aR N 30 p u), M') ∧ Q p M' (sm_u N 10 0 29 (6 * p + u) 0) mk T b tc ∧ frS (fM p) M M' ∧ frS (fN p) N (sm_u N 10 0 29 (6 * p + u) 0) ∧ kC M' p u = aR N 31 p u ∧ Fresh (sm_u N 10 0 29 (6 * p + u) 0) (aR N 30 p u) ∧ ∃ y, y < mk ∧ aR N 30 p u = nI y := by
  obtain ⟨L, l1, l2⟩ := P_hand1 (sc := sc) (p := p) hu h1 hk
  have h1' : aR N 29 p u = 1 := (q.1.1 u hu).1.symm.trans h1
  rw [(q.1.1 u hu).2.1] at l1
  refine ⟨_, l1, Q_gone q hu l2, gone_frM, u_frN hu (by decide) (by decide), ?_, Q_free q hp hu h1', q.1.2.2.1 u hu (by rw [h1']; decide)⟩
  rw [kC_j (by omega), lpM_e.2.2.1]
  exact (q.1.1 u hu).2.2
