/-! LEVEL B: what lives, in the class and in the reference -/
def dI : Nat → Int32
  | 0 => -1
  | k + 1 => nI k
theorem dI_a : ∀ o, o < 17 → nI o + (-1) = dI o := by decide
theorem dI_s (n : Nat) : nI n - 1 = dI n := by
  cases n with
  | zero => decide
  | succ n => exact nI_pred n
theorem P_fBit {sc : Nat × (Nat → Int32)} {M : sm_M} {x : Int32} (h : vrI x) : dn sc kFlow_bit 0 [.inl x] [] M = some (0, .inl (btI x), M) := by
  rw [E_Flow_bit_0]
  unfold btI
  rcases h with h | ⟨k, hk, h⟩
  · subst h
    rw [if_pos (by decide), if_pos rfl]
  · subst h
    rw [if_neg (nI_pos (by omega)), show (6 : Int32) = nI 6 from rfl, if_pos (by rw [i_lt (by omega) (by decide)]; exact hk), if_neg ((by decide : ∀ k, k < 6 → ¬ nI k = -1) k hk)]
def LvC (M : sm_M) (q j : Nat) : Int32 := if j < 17 then M.1 4 q 6 j else 0
def LvR (N : sm_M) (p j : Nat) : Int32 := if j < 17 then N.1 10 0 16 (17 * p + j) else 0
def s46 (q c p j _i : Nat) : Prop := c = 4 ∧ p = q ∧ j = 6
theorem s46_4 {q : Nat} : ∀ c p j i, s46 q c p j i → s4 q c p j i := fun c p j i h => by unfold s46 at h; unfold s4; omega
theorem P_fBehind {sc : Nat × (Nat → Int32)} {a : Nat → Nat → Int32} {M : sm_M} {q o : Nat} (wf : wfA a) (r : cx a M q) (hq : q < 3) (ho : o < onA a q) : dn sc kFlow_livesBehind 0 [.inr (.inr (4, q, 0)), .inl (nI o)] [] M = some (0, .inl (lbA a q (LvC M q) o), M) := by
  have h16 := (wf.2.1 q hq).2.1
  have rk := r.1.2.1 q hq
  have n17 : ∀ b, nxO a q o b < 17 := fun b => by have := nxO_le (a := a) (p := q) (o := o) (b := b); omega
  have eL : ∀ j, j < 17 → M.1 4 q 6 j = LvC M q j := fun j hj => (if_pos hj).symm
  have e3 : opW a q o = 10 ∨ opW a q o = 11 → dn sc kFlow_livesBehind 3 [.inr (.inr (4, q, 0)), .inl (nI o)] [] M = some (0, .inl (LvC M q (nxO a q o false) ||| LvC M q (nxO a q o true)), M) := by
    intro h
    have h12 : ¬ opW a q o = 12 := by rcases h with h | h <;> rw [h] <;> decide
    rw [E_Flow_livesBehind_3, P_kAfter rk (by omega), r1_s, af_nx h12, P_fLive (n17 _), r1_s, P_kJump rk (by omega), r1_s, jm_nx wf hq ho (h.elim Or.inl (fun z => Or.inr (Or.inl z))), P_fLive (n17 _), r1_s, eL _ (n17 _), eL _ (n17 _)]
  rw [E_Flow_livesBehind_0, P_kWhat rk (by omega), r1_s, whK_i ho]
  unfold lbA
  by_cases q10 : opW a q o = 10
  · rw [if_pos q10, e3 (Or.inl q10), if_neg (by rw [q10]; decide), if_pos (Or.inl q10)]
  rw [if_neg q10]
  by_cases q11 : opW a q o = 11
  · rw [if_pos q11, e3 (Or.inr q11), if_neg (by rw [q11]; decide), if_pos (Or.inr q11)]
  rw [if_neg q11]
  by_cases q12 : opW a q o = 12
  · have en : nxO a q o true = nxO a q o false := by unfold nxO; rw [if_pos (Or.inr rfl), if_pos (Or.inl q12)]
    rw [if_pos q12, P_kJump rk (by omega), r1_s, jm_nx wf hq ho (Or.inr (Or.inr q12)), en, P_fLive (n17 _), r1_s, eL _ (n17 _), if_neg (by rw [q12]; decide), if_neg (fun z => z.elim q10 q11)]
  rw [if_neg q12]
  by_cases q13 : opW a q o = 13
  · rw [if_pos q13, if_pos q13]
  · rw [if_neg q13, P_kAfter rk (by omega), r1_s, af_nx q12, P_fLive (n17 _), r1_s, eL _ (n17 _), if_neg q13, if_neg (fun z => z.elim q10 q11)]
theorem LvC_u {M : sm_M} {q o : Nat} {x : Int32} (ho : o < 17) : LvC (sm_u M 4 q 6 o x) q = upL (LvC M q) o x := by
  funext j
  unfold upL LvC
  by_cases z : j = o
  · subst z; rw [if_pos ho, if_pos rfl, u_hit]
  · rw [if_neg z]
    by_cases z2 : j < 17
    · rw [if_pos z2, if_pos z2, u_mis (by omega)]
    · rw [if_neg z2, if_neg z2]
theorem P_fl4 {sc : Nat × (Nat → Int32)} {a : Nat → Nat → Int32} {q : Nat} (wf : wfA a) (hq : q < 3) (rd : Nat) : ∀ k M u, k ≤ onA a q → cx a M q →
    ∃ N, dn sc kFlow_findLives 4 [.inr (.inr (4, q, 0)), .inl (bI u), .inl (nI rd), .inl (dI k)] [] M = dn sc kFlow_findLives 1 [.inr (.inr (4, q, 0)), .inl (bI (u || cgA a q k (LvC M q))), .inl (nI (rd + 1))] [] N ∧ frS (s46 q) M N ∧ LvC N q = psA a q k (LvC M q) := by
  have h16 := (wf.2.1 q hq).2.1
  intro k
  induction k with
  | zero =>
    intro M u _ r
    refine ⟨M, ?_, frS_r, rfl⟩
    rw [E_Flow_findLives_4, if_pos (by decide), nI_1, show cgA a q 0 (LvC M q) = false from rfl, Bool.or_false]
  | succ k ih =>
    intro M u hk r
    have rk := r.1.2.1 q hq
    have ok := (wf.2.1 q hq).2.2 k (by omega)
    have hv := tg_vr ok
    have fr : frS (s46 q) M (sm_u M 4 q 6 k (g1A a q (LvC M q) k)) := frS_u ⟨rfl, rfl, rfl⟩
    obtain ⟨N, h1, h2, h3⟩ := ih (sm_u M 4 q 6 k (g1A a q (LvC M q) k)) (u || !decide (g1A a q (LvC M q) k = LvC M q k)) (by omega) (cx_fr (frS_w fr s46_4) r)
    rw [LvC_u (by omega)] at h1 h3
    refine ⟨N, ?_, frS_t fr h2, h3⟩
    have e8 : ∀ b, dn sc kFlow_findLives 8 [.inr (.inr (4, q, 0)), .inl (nI rd), .inl (nI k), .inl (g1A a q (LvC M q) k)] [.inl (bI b), .inl (bI u)] M = dn sc kFlow_findLives 4 [.inr (.inr (4, q, 0)), .inl (bI (u || b)), .inl (nI rd), .inl (dI k)] [] (sm_u M 4 q 6 k (g1A a q (LvC M q) k)) := by
      intro b
      rw [E_Flow_findLives_8, i_ib (show k < 17 by omega) (by decide), if_pos rfl, i_cl (by omega), dI_a k (by omega), show bI u ||| bI b = bI (u || b) from by cases u <;> cases b <;> decide]
    show dn sc kFlow_findLives 4 [.inr (.inr (4, q, 0)), .inl (bI u), .inl (nI rd), .inl (nI k)] [] M = _
    rw [E_Flow_findLives_4, if_neg (nI_pos (by omega)), P_fBehind wf r hq (by omega), r1_s, P_kTarget rk (by omega), r1_s, whK_i (by omega), abK_i (by omega), abK_i (by omega), P_fBit hv.1, r1_s, P_kUsed rk (by omega), r1_s, whK_i (by omega), abK_i (by omega), abK_i (by omega), P_fBit hv.2, r1_s, i_ib (show k < 17 by omega) (by decide), if_pos rfl, i_cl (by omega)]
    show (if g1A a q (LvC M q) k = M.1 4 q 6 k then dn sc kFlow_findLives 8 [.inr (.inr (4, q, 0)), .inl (nI rd), .inl (nI k), .inl (g1A a q (LvC M q) k)] [.inl (bI false), .inl (bI u)] M else dn sc kFlow_findLives 8 [.inr (.inr (4, q, 0)), .inl (nI rd), .inl (nI k), .inl (g1A a q (LvC M q) k)] [.inl (bI true), .inl (bI u)] M) = _
    rw [e8, e8, show M.1 4 q 6 k = LvC M q k from (if_pos (show k < 17 by omega)).symm, show cgA a q (k + 1) (LvC M q) = (!decide (g1A a q (LvC M q) k = LvC M q k) || cgA a q k (upL (LvC M q) k (g1A a q (LvC M q) k))) from rfl, ← Bool.or_assoc, ← h1]
    by_cases z : g1A a q (LvC M q) k = LvC M q k
    · rw [if_pos z, decide_eq_true z, Bool.not_true]
    · rw [if_neg z, decide_eq_false z, Bool.not_false]
theorem P_fl1 {sc : Nat × (Nat → Int32)} {a : Nat → Nat → Int32} {q : Nat} (wf : wfA a) (hq : q < 3) : ∀ m M rd k, miA (LvC M q) ≤ m → rd + m < 999 → cx a M q → LvC M q = itA a q k →
    ∃ N, dn sc kFlow_findLives 1 [.inr (.inr (4, q, 0)), .inl 1, .inl (nI rd)] [] M = some (0, .inl 0, N) ∧ frS (s46 q) M N ∧ lvA a q (LvC N q) := by
  intro m
  induction m with
  | zero =>
    intro M rd k hm hrd r hL
    have rk := r.1.2.1 q hq
    obtain ⟨N, h1, h2, h3⟩ := P_fl4 (sc := sc) wf hq rd (onA a q) M false (Nat.le_refl _) r
    have pr := psA_pr wf hq (onA a q) (LvC M q) (Nat.le_refl _) (by rw [hL]; exact itA_pr wf hq k)
    rw [E_Flow_findLives_1, show (1000 : Int32) = nI 1000 from rfl, if_pos (by rw [i_lt (by omega) (by decide)]; omega), if_neg (by decide), P_kSize rk, r1_s, dI_s]
    cases hc : cgA a q (onA a q) (LvC M q) with
    | true => have := pr.2.2.1 hc; omega
    | false =>
      rw [hc] at h1
      refine ⟨N, h1.trans ?_, h2, k, by rw [← hL]; exact hc, fun o _ => by rw [h3, pr.2.2.2 hc, hL]⟩
      rw [E_Flow_findLives_1]
      split <;> rfl
  | succ m ih =>
    intro M rd k hm hrd r hL
    have rk := r.1.2.1 q hq
    obtain ⟨N, h1, h2, h3⟩ := P_fl4 (sc := sc) wf hq rd (onA a q) M false (Nat.le_refl _) r
    have pr := psA_pr wf hq (onA a q) (LvC M q) (Nat.le_refl _) (by rw [hL]; exact itA_pr wf hq k)
    rw [E_Flow_findLives_1, show (1000 : Int32) = nI 1000 from rfl, if_pos (by rw [i_lt (by omega) (by decide)]; omega), if_neg (by decide), P_kSize rk, r1_s, dI_s]
    cases hc : cgA a q (onA a q) (LvC M q) with
    | true =>
      have := pr.2.2.1 hc
      rw [hc] at h1
      obtain ⟨N2, g1, g2, g3⟩ := ih N (rd + 1) (k + 1) (by rw [h3]; omega) (by omega) (cx_fr (frS_w h2 s46_4) r) (by rw [h3, hL]; rfl)
      exact ⟨N2, h1.trans g1, frS_t h2 g2, g3⟩
    | false =>
      rw [hc] at h1
      refine ⟨N, h1.trans ?_, h2, k, by rw [← hL]; exact hc, fun o _ => by rw [h3, pr.2.2.2 hc, hL]⟩
      rw [E_Flow_findLives_1]
      split <;> rfl
theorem P_fLives {sc : Nat × (Nat → Int32)} {a : Nat → Nat → Int32} {M : sm_M} {q : Nat} (wf : wfA a) (r : cx a M q) (hq : q < 3) : ∃ N, dn sc kFlow_findLives 0 [.inr (.inr (4, q, 0))] [] M = some (0, .inl 0, N) ∧ frS (s46 q) M N ∧ lvA a q (LvC N q) := by
  have fr : frS (s46 q) M (sm_fl M 4 q 6 0) := ⟨rfl, fun c p j i h => by unfold sm_fl; dsimp only; rw [if_neg (show ¬(c = 4 ∧ p = q ∧ j = 6) from fun z => h z)]⟩
  have h0 : LvC (sm_fl M 4 q 6 0) q = itA a q 0 := by
    funext j
    unfold LvC sm_fl itA
    dsimp only
    by_cases z : j < 17
    · rw [if_pos z, if_pos ⟨rfl, rfl, rfl⟩]
    · rw [if_neg z]
  obtain ⟨N, h1, h2, h3⟩ := P_fl1 (sc := sc) wf hq 96 (sm_fl M 4 q 6 0) 0 0 miA_le (by decide) (cx_fr (frS_w fr s46_4) r) h0
  exact ⟨N, (E_Flow_findLives_0 sc M q).trans h1, frS_t fr h2, h3⟩
theorem P_mTarget {sc : Nat × (Nat → Int32)} {a : Nat → Nat → Int32} {N : sm_M} {p o : Nat} (r : cr a N) (hp : p < 3) (ho : o < 16) : dn sc kModel_targetOf 0 [.inr (.inr (10, 0, 0)), .inl (nI (16 * p + o))] [] N = some (0, .inl (tgA a p o), N) := by
  obtain ⟨g1, g2, g3⟩ := cr_op r p o
  rw [E_Model_targetOf_0, i_ib (show 16 * p + o < 48 by omega) (by decide)]
  simp only [if_true]
  rw [i_cl (by omega), g1, g2, g3]
  unfold tgA tgK
  generalize opW a p o = w
  repeat' split
  all_goals first
    | rfl
    | (exfalso; simp_all)
theorem P_mUsed {sc : Nat × (Nat → Int32)} {a : Nat → Nat → Int32} {N : sm_M} {p o : Nat} (r : cr a N) (hp : p < 3) (ho : o < 16) : dn sc kModel_usedBy 0 [.inr (.inr (10, 0, 0)), .inl (nI (16 * p + o))] [] N = some (0, .inl (usA a p o), N) := by
  obtain ⟨g1, g2, g3⟩ := cr_op r p o
  rw [E_Model_usedBy_0, i_ib (show 16 * p + o < 48 by omega) (by decide)]
  simp only [if_true]
  rw [i_cl (by omega), g1, g2, g3]
  unfold usA usK
  generalize opW a p o = w
  repeat' split
  all_goals first
    | rfl
    | (exfalso; simp_all)
theorem P_mBehind {sc : Nat × (Nat → Int32)} {a : Nat → Nat → Int32} {N : sm_M} {p o : Nat} (wf : wfA a) (r : cr a N) (hp : p < 3) (ho : o < onA a p) : dn sc kModel_livesBehind 0 [.inr (.inr (10, 0, 0)), .inl (nI p), .inl (nI o)] [] N = some (0, .inl (lbA a p (LvR N p) o), N) := by
  have h16 := (wf.2.1 p hp).2.1
  have n17 : ∀ b, nxO a p o b < 17 := fun b => by have := nxO_le (a := a) (p := p) (o := o) (b := b); omega
  have eL : ∀ j, j < 17 → N.1 10 0 16 (17 * p + j) = LvR N p j := fun j hj => (if_pos hj).symm
  rw [E_Model_livesBehind_0, P_mStop wf r hp (by omega), r1_s, decide_eq_true ho, Bool.true_and]
  unfold lbA
  by_cases q13 : opW a p o = 13
  · rw [decide_eq_true q13, if_neg (show ¬ bI true = 0 by decide), if_pos q13]
  rw [decide_eq_false q13, if_pos (show bI false = 0 from rfl), if_neg q13, show dn sc kModel_next 0 [.inr (.inr (10, 0, 0)), .inl (nI p), .inl (nI o), .inl 0] [] N = _ from P_mNext (b := false) wf r hp ho (fun z => nomatch z), r1_s]
  have n1 := n17 false
  have n2 := n17 true
  have e17 : ∀ t, t < 17 → ((17 : Int32) * nI p + nI t = nI (17 * p + t)) := fun t _ => by rw [show (17 : Int32) = nI 17 from rfl, i_mul, nI_add]
  rw [e17 _ n1, i_ib (show 17 * p + nxO a p o false < 51 by omega) (by decide), if_pos rfl, i_cl (show 17 * p + nxO a p o false < 2147483648 by omega), P_mOther r hp (by omega), r1_s]
  by_cases hot : otO a p o
  · rw [otO_b.mp hot, if_neg (show ¬ bI true = 0 by decide), show dn sc kModel_next 0 [.inr (.inr (10, 0, 0)), .inl (nI p), .inl (nI o), .inl 1] [] N = _ from P_mNext (b := true) wf r hp ho (fun _ => hot), r1_s, e17 _ n2, i_ib (show 17 * p + nxO a p o true < 51 by omega) (by decide), if_pos rfl, i_cl (show 17 * p + nxO a p o true < 2147483648 by omega), if_pos (show opW a p o = 10 ∨ opW a p o = 11 from hot), eL _ n1, eL _ n2]
  · have : (decide (opW a p o = 10) || decide (opW a p o = 11)) = false := by
      cases h : (decide (opW a p o = 10) || decide (opW a p o = 11)) with
      | true => exact absurd (otO_b.mpr h) hot
      | false => rfl
    rw [this, if_pos (show bI false = 0 from rfl), eL _ n1, if_neg (show ¬(opW a p o = 10 ∨ opW a p o = 11) from hot)]
theorem x_m1 (x : Int32) : x &&& ((0 : Int32) ^^^ (-1)) = x := b_ext (fun i hi => by rw [b_and, b_xor, b_0, b_m1 i hi, Bool.false_xor, Bool.and_true])
theorem x_o0 (x : Int32) : x ||| (0 : Int32) = x := b_ext (fun i hi => by rw [b_or, b_0, Bool.or_false])
def s16 (q c p j i : Nat) : Prop := c = 10 ∧ p = 0 ∧ j = 16 ∧ 17 * q ≤ i ∧ i < 17 * q + 17
theorem s16_f {q : Nat} : ∀ c p j i, s16 q c p j i → s10f c p j i := fun c p j i h => by unfold s16 at h; unfold s10f; omega
theorem LvR_u {N : sm_M} {p o : Nat} {x : Int32} (ho : o < 17) : LvR (sm_u N 10 0 16 (17 * p + o) x) p = upL (LvR N p) o x := by
  funext j
  unfold upL LvR
  by_cases z : j = o
  · subst z; rw [if_pos ho, if_pos rfl, u_hit]
  · rw [if_neg z]
    by_cases z2 : j < 17
    · rw [if_pos z2, if_pos z2, u_mis (by omega)]
    · rw [if_neg z2, if_neg z2]
theorem P_ml6 {sc : Nat × (Nat → Int32)} {a : Nat → Nat → Int32} {p : Nat} (wf : wfA a) (hp : p < 3) : ∀ k N u, k ≤ onA a p → cr a N →
    ∃ N', dn sc kModel_findsLiving 6 [.inr (.inr (10, 0, 0)), .inl (nI p), .inl (bI u), .inl (dI k)] [] N = dn sc kModel_findsLiving 4 [.inr (.inr (10, 0, 0)), .inl (nI p), .inl (bI (u || cgA a p k (LvR N p)))] [] N' ∧ frS (s16 p) N N' ∧ LvR N' p = psA a p k (LvR N p) := by
  have h16 := (wf.2.1 p hp).2.1
  intro k
  induction k with
  | zero =>
    intro N u _ r
    refine ⟨N, ?_, frS_r, rfl⟩
    rw [E_Model_findsLiving_6, if_pos (by decide), show cgA a p 0 (LvR N p) = false from rfl, Bool.or_false]
  | succ k ih =>
    intro N u hk r
    have ok := (wf.2.1 p hp).2.2 k (by omega)
    have hv := tg_vr ok
    have fr : frS (s16 p) N (sm_u N 10 0 16 (17 * p + k) (g1A a p (LvR N p) k)) := frS_u ⟨rfl, rfl, rfl, by omega, by omega⟩
    obtain ⟨N', h1, h2, h3⟩ := ih (sm_u N 10 0 16 (17 * p + k) (g1A a p (LvR N p) k)) (u || !decide (g1A a p (LvR N p) k = LvR N p k)) (by omega) (cr_f (frS_w fr s16_f) r)
    rw [LvR_u (by omega)] at h1 h3
    refine ⟨N', ?_, frS_t fr h2, h3⟩
    have e17 : (17 : Int32) * nI p + nI k = nI (17 * p + k) := by rw [show (17 : Int32) = nI 17 from rfl, i_mul, nI_add]
    have ew : ∀ b, dn sc kModel_findsLiving 17 [.inr (.inr (10, 0, 0)), .inl (nI p), .inl (nI k), .inl (g1A a p (LvR N p) k)] [.inl (bI b)] N = dn sc kModel_findsLiving 6 [.inr (.inr (10, 0, 0)), .inl (nI p), .inl (bI b), .inl (dI k)] [] (sm_u N 10 0 16 (17 * p + k) (g1A a p (LvR N p) k)) := by
      intro b
      rw [E_Model_findsLiving_17, e17, i_ib (show 17 * p + k < 51 by omega) (by decide), if_pos rfl, i_cl (by omega), dI_a k (by omega)]
    have e13 : dn sc kModel_findsLiving 13 [.inr (.inr (10, 0, 0)), .inl (nI p), .inl (bI u), .inl (nI k)] [.inl (g1A a p (LvR N p) k)] N = dn sc kModel_findsLiving 6 [.inr (.inr (10, 0, 0)), .inl (nI p), .inl (bI (u || !decide (g1A a p (LvR N p) k = LvR N p k))), .inl (dI k)] [] (sm_u N 10 0 16 (17 * p + k) (g1A a p (LvR N p) k)) := by
      rw [E_Model_findsLiving_13, e17, i_ib (show 17 * p + k < 51 by omega) (by decide), if_pos rfl, i_cl (show 17 * p + k < 2147483648 by omega), show N.1 10 0 16 (17 * p + k) = LvR N p k from (if_pos (show k < 17 by omega)).symm]
      cases u with
      | true => rw [if_neg (show ¬ bI true = 0 by decide), Bool.true_or]; exact ew true
      | false =>
        rw [if_pos (show bI false = 0 from rfl), Bool.false_or]
        by_cases z : g1A a p (LvR N p) k = LvR N p k
        · rw [if_pos z, decide_eq_true z]; exact ew false
        · rw [if_neg z, decide_eq_false z]; exact ew true
    have e10 : ∀ x, x ||| btI (usA a p k) = g1A a p (LvR N p) k → dn sc kModel_findsLiving 10 [.inr (.inr (10, 0, 0)), .inl (nI p), .inl (bI u), .inl (nI k), .inl (usA a p k)] [.inl x] N = dn sc kModel_findsLiving 13 [.inr (.inr (10, 0, 0)), .inl (nI p), .inl (bI u), .inl (nI k)] [.inl (g1A a p (LvR N p) k)] N := by
      intro x hx
      rw [E_Model_findsLiving_10]
      by_cases z : usA a p k = -1
      · rw [if_pos z]
        rw [z, show btI (-1) = 0 from rfl, x_o0] at hx
        rw [hx]
      · rw [if_neg z]
        rw [show btI (usA a p k) = 1 <<< (usA a p k &&& 31) from if_neg z] at hx
        rw [hx]
    show dn sc kModel_findsLiving 6 [.inr (.inr (10, 0, 0)), .inl (nI p), .inl (bI u), .inl (nI k)] [] N = _
    rw [E_Model_findsLiving_6, if_neg (nI_pos (by omega)), show (16 : Int32) = nI 16 from rfl, i_mul, nI_add, P_mTarget r hp (by omega), r1_s, P_mUsed r hp (by omega), r1_s, P_mBehind wf r hp (by omega), r1_s]
    rw [show cgA a p (k + 1) (LvR N p) = (!decide (g1A a p (LvR N p) k = LvR N p k) || cgA a p k (upL (LvR N p) k (g1A a p (LvR N p) k))) from rfl, ← Bool.or_assoc, ← h1, ← e13]
    by_cases z : tgA a p k = -1
    · rw [if_pos z]
      refine e10 _ ?_
      unfold g1A
      rw [z, show btI (-1) = 0 from rfl, x_m1]
    · rw [if_neg z]
      refine e10 _ ?_
      unfold g1A
      rw [show btI (tgA a p k) = 1 <<< (tgA a p k &&& 31) from if_neg z]
theorem P_ml4 {sc : Nat × (Nat → Int32)} {a : Nat → Nat → Int32} {p : Nat} (wf : wfA a) (hp : p < 3) : ∀ m N k, miA (LvR N p) ≤ m → cr a N → LvR N p = itA a p k →
    ∃ N', dn sc kModel_findsLiving 4 [.inr (.inr (10, 0, 0)), .inl (nI p), .inl 1] [] N = some (0, .inl 0, N') ∧ frS (s16 p) N N' ∧ lvA a p (LvR N' p) := by
  intro m
  induction m with
  | zero =>
    intro N k hm r hL
    obtain ⟨N', h1, h2, h3⟩ := P_ml6 (sc := sc) wf hp (onA a p) N false (Nat.le_refl _) r
    have pr := psA_pr wf hp (onA a p) (LvR N p) (Nat.le_refl _) (by rw [hL]; exact itA_pr wf hp k)
    rw [E_Model_findsLiving_4, if_neg (by decide), i_ib hp (by decide), if_pos rfl, i_cl (by omega), cr_n wf r hp, dI_s]
    cases hc : cgA a p (onA a p) (LvR N p) with
    | true => have := pr.2.2.1 hc; omega
    | false =>
      rw [hc] at h1
      refine ⟨N', h1.trans ?_, h2, k, by rw [← hL]; exact hc, fun o _ => by rw [h3, pr.2.2.2 hc, hL]⟩
      rw [E_Model_findsLiving_4]
      exact if_pos rfl
  | succ m ih =>
    intro N k hm r hL
    obtain ⟨N', h1, h2, h3⟩ := P_ml6 (sc := sc) wf hp (onA a p) N false (Nat.le_refl _) r
    have pr := psA_pr wf hp (onA a p) (LvR N p) (Nat.le_refl _) (by rw [hL]; exact itA_pr wf hp k)
    rw [E_Model_findsLiving_4, if_neg (by decide), i_ib hp (by decide), if_pos rfl, i_cl (by omega), cr_n wf r hp, dI_s]
    cases hc : cgA a p (onA a p) (LvR N p) with
    | true =>
      have := pr.2.2.1 hc
      rw [hc] at h1
      obtain ⟨N2, g1, g2, g3⟩ := ih N' (k + 1) (by rw [h3]; omega) (cr_f (frS_w h2 s16_f) r) (by rw [h3, hL]; rfl)
      exact ⟨N2, h1.trans g1, frS_t h2 g2, g3⟩
    | false =>
      rw [hc] at h1
      refine ⟨N', h1.trans ?_, h2, k, by rw [← hL]; exact hc, fun o _ => by rw [h3, pr.2.2.2 hc, hL]⟩
      rw [E_Model_findsLiving_4]
      exact if_pos rfl
theorem P_ml1 {sc : Nat × (Nat → Int32)} {M : sm_M} {p : Nat} (hp : p < 3) : ∀ n i, i + n = 17 → dn sc kModel_findsLiving 1 [.inr (.inr (10, 0, 0)), .inl (nI p), .inl (nI i)] [] (blk M 10 0 16 (17 * p) i (fun _ => 0)) = dn sc kModel_findsLiving 4 [.inr (.inr (10, 0, 0)), .inl (nI p), .inl 1] [] (blk M 10 0 16 (17 * p) 17 (fun _ => 0)) := by
  intro n
  induction n with
  | zero =>
    intro i hi
    obtain rfl : i = 17 := by omega
    rw [E_Model_findsLiving_1, if_neg (by decide)]
  | succ n ih =>
    intro i hi
    have e1 : blk M 10 0 16 (17 * p) (i + 1) (fun _ => 0) = sm_u (blk M 10 0 16 (17 * p) i (fun _ => 0)) 10 0 16 (17 * p + i) 0 := by rw [← blk_s]
    rw [E_Model_findsLiving_1, show (17 : Int32) = nI 17 from rfl, if_pos (by rw [i_lt (by omega) (by decide)]; omega), i_mul, nI_add, i_ib (show 17 * p + i < 51 by omega) (by decide), if_pos rfl, i_cl (by omega), nI_1, ← ih (i + 1) (by omega), e1]
theorem P_mLives {sc : Nat × (Nat → Int32)} {a : Nat → Nat → Int32} {N : sm_M} {p : Nat} (wf : wfA a) (r : cr a N) (hp : p < 3) : ∃ N', dn sc kModel_findsLiving 0 [.inr (.inr (10, 0, 0)), .inl (nI p)] [] N = some (0, .inl 0, N') ∧ frS (s16 p) N N' ∧ lvA a p (LvR N' p) := by
  have h1 := P_ml1 (sc := sc) (M := N) hp 17 0 rfl
  rw [blk_0] at h1
  have fr : frS (s16 p) N (blk N 10 0 16 (17 * p) 17 (fun _ => 0)) := ⟨rfl, fun c p' j i h => by unfold s16 at h; rw [blk_1, if_neg (fun z => h (by omega))]⟩
  have h0 : LvR (blk N 10 0 16 (17 * p) 17 (fun _ => 0)) p = itA a p 0 := by
    funext j
    unfold LvR itA
    by_cases z : j < 17
    · rw [if_pos z, blk_in z]
    · rw [if_neg z]
  obtain ⟨N', g1, g2, g3⟩ := P_ml4 (sc := sc) wf hp 96 _ 0 miA_le (cr_f (frS_w fr s16_f) r) h0
  exact ⟨N', (E_Model_findsLiving_0 sc N (nI p)).trans (h1.trans g1), frS_t fr g2, g3⟩
