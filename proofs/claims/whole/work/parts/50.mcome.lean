/-! LEVEL B: flows: numbers come to an op in the reference -/
theorem cr_n {a : Nat → Nat → Int32} {N : sm_M} (wf : wfA a) (r : cr a N) {p : Nat} (hp : p < 3) : N.1 10 0 10 p = nI (onA a p) := (cr_c r 10 p (by decide) (by decide)).trans (wf.2.1 p hp).1
/-- the cells that finding changes in the reference, of one process -/
def s10p (q c p j i : Nat) : Prop := c = 10 ∧ p = 0 ∧ ((j = 15 ∧ 17 * q ≤ i ∧ i < 17 * q + 17) ∨ (j = 17 ∧ 153 * q ≤ i ∧ i < 153 * q + 153) ∨ j = 18 ∨ (j = 0 ∧ i = 18))
theorem s10p_f {q : Nat} : ∀ c p j i, s10p q c p j i → s10f c p j i := fun c p j i h => by unfold s10p at h; unfold s10f; omega
theorem s10n_p {q : Nat} : ∀ c p j i, s10n c p j i → s10p q c p j i := fun c p j i h => by unfold s10n at h; unfold s10p; omega
/-- nine numbers come to an op: what is found, and whether it is new -/
def stepQ (k : Nat) (v : Nat → Int32) (S : sF) (u : Bool) (T : sF) (u' : Bool) : Prop :=
  (∀ j, j < 17 → T.1 j = (jnF S k v).1 j) ∧ (∀ j i, j < 17 → i < 9 → T.2 j i = (jnF S k v).2 j i) ∧ u' = (u || dfF S k v)
def gR (M : sm_M) (k i : Nat) : Int32 := if M.1 10 0 15 k = 0 then M.1 10 0 18 i else tg9 i (M.1 10 0 17 (9 * k + i)) (M.1 10 0 18 i)
def dR (M : sm_M) (k i : Nat) : Bool := decide (M.1 10 0 15 k = 0) || !decide (gR M k i = M.1 10 0 17 (9 * k + i))
theorem P_mc13 {sc : Nat × (Nat → Int32)} {M : sm_M} {k i : Nat} {u : Bool} {g : Nat → Int32} (hk : k < 51) (hi : i < 9) (b b' : Bool) :
    dn sc kModel_comesTo 13 [.inr (.inr (10, 0, 0)), .inl (nI k), .inl (nI i), .inl (g i)] [.inl (bI b), .inr (.inr (10, 0, 0))] (sm_u (blk M 10 0 17 (9 * k) i g) 10 0 0 18 (bI b')) = dn sc kModel_comesTo 1 [.inr (.inr (10, 0, 0)), .inl (nI k), .inl (nI (i + 1))] [] (sm_u (blk M 10 0 17 (9 * k) (i + 1) g) 10 0 0 18 (bI b)) := by
  rw [E_Model_comesTo_13, show (9 : Int32) = nI 9 from rfl, i_mul, nI_add, i_ib (show 9 * k + i < 459 by omega) (by decide), if_pos rfl, if_pos rfl, i_cl (by omega), u_over, u_over, nI_1]
  cases b with
  | false => rw [if_pos (show bI false = 0 from rfl), u_comm (by omega), blk_s]; rfl
  | true => rw [if_neg (show ¬ bI true = 0 by decide), if_pos (show bI true = 1 from rfl), u_comm (by omega), blk_s]; rfl
theorem P_mc8 {sc : Nat × (Nat → Int32)} {M : sm_M} {k i : Nat} {u : Bool} (hk : k < 51) (hi : i < 9) :
    dn sc kModel_comesTo 8 [.inr (.inr (10, 0, 0)), .inl (nI k), .inl (nI i), .inl (M.1 10 0 17 (9 * k + i))] [.inl (gR M k i)] (sm_u (blk M 10 0 17 (9 * k) i (gR M k)) 10 0 0 18 (bI u)) = dn sc kModel_comesTo 1 [.inr (.inr (10, 0, 0)), .inl (nI k), .inl (nI (i + 1))] [] (sm_u (blk M 10 0 17 (9 * k) (i + 1) (gR M k)) 10 0 0 18 (bI (u || dR M k i))) := by
  have x15 : (sm_u (blk M 10 0 17 (9 * k) i (gR M k)) 10 0 0 18 (bI u)).1 10 0 15 k = M.1 10 0 15 k := (u_mis (by omega)).trans (blk_no (by omega))
  rw [E_Model_comesTo_8, u_hit, i_ib hk (by decide), if_pos rfl, i_cl (show k < 2147483648 by omega), x15]
  have h1 := fun b => P_mc13 (sc := sc) (M := M) (u := u) (g := gR M k) hk hi b u
  have h1t := h1 true
  have h1f := h1 false
  rw [show bI true = 1 from rfl] at h1t
  rw [show bI false = 0 from rfl] at h1f
  cases u with
  | true => rw [if_neg (show ¬ bI true = 0 by decide), Bool.true_or]; exact h1t
  | false =>
    rw [if_pos (show bI false = 0 from rfl), Bool.false_or]
    unfold dR
    by_cases q : M.1 10 0 15 k = 0
    · rw [if_pos q, decide_eq_true q, Bool.true_or]; exact h1t
    · rw [if_neg q, decide_eq_false q, Bool.false_or]
      by_cases q2 : gR M k i = M.1 10 0 17 (9 * k + i)
      · rw [if_pos q2, decide_eq_true q2]; exact h1f
      · rw [if_neg q2, decide_eq_false q2]; exact h1t
theorem P_mc1 {sc : Nat × (Nat → Int32)} {M : sm_M} {k : Nat} {u : Bool} (hk : k < 51) : ∀ n i, i + n = 9 →
    dn sc kModel_comesTo 1 [.inr (.inr (10, 0, 0)), .inl (nI k), .inl (nI i)] [] (sm_u (blk M 10 0 17 (9 * k) i (gR M k)) 10 0 0 18 (bI (u || anyN i (dR M k)))) = some (0, .inl 0, sm_u (sm_u (blk M 10 0 17 (9 * k) 9 (gR M k)) 10 0 0 18 (bI (u || anyN 9 (dR M k)))) 10 0 15 k 1) := by
  intro n
  induction n with
  | zero =>
    intro i hi
    obtain rfl : i = 9 := by omega
    rw [E_Model_comesTo_1, if_neg (by decide), i_ib hk (by decide), if_pos rfl, i_cl (by omega)]; rfl
  | succ n ih =>
    intro i hi
    have h8 := P_mc8 (sc := sc) (M := M) (u := u || anyN i (dR M k)) hk (show i < 9 by omega)
    rw [Bool.or_assoc, show (anyN i (dR M k) || dR M k i) = anyN (i + 1) (dR M k) from rfl] at h8
    have x15 : (sm_u (blk M 10 0 17 (9 * k) i (gR M k)) 10 0 0 18 (bI (u || anyN i (dR M k)))).1 10 0 15 k = M.1 10 0 15 k := (u_mis (by omega)).trans (blk_no (by omega))
    have x17 : (sm_u (blk M 10 0 17 (9 * k) i (gR M k)) 10 0 0 18 (bI (u || anyN i (dR M k)))).1 10 0 17 (9 * k + i) = M.1 10 0 17 (9 * k + i) := (u_mis (by omega)).trans (blk_out (by omega))
    have x18 : (sm_u (blk M 10 0 17 (9 * k) i (gR M k)) 10 0 0 18 (bI (u || anyN i (dR M k)))).1 10 0 18 i = M.1 10 0 18 i := (u_mis (by omega)).trans (blk_no (by omega))
    rw [← ih (i + 1) (by omega), ← h8, E_Model_comesTo_1, show (9 : Int32) = nI 9 from rfl, if_pos (by rw [i_lt (by omega) (by decide)]; omega), i_mul, nI_add, i_ib (show 9 * k + i < 459 by omega) (by decide), i_ib hk (by decide), i_ib (show i < 9 by omega) (by decide), i_cl (show k < 2147483648 by omega), i_cl (show i < 2147483648 by omega), i_cl (show 9 * k + i < 2147483648 by omega), x15, x17, x18]
    simp only [if_true]
    rw [show gR M k i = (if M.1 10 0 15 k = 0 then M.1 10 0 18 i else tg9 i (M.1 10 0 17 (9 * k + i)) (M.1 10 0 18 i)) from rfl]
    by_cases q : M.1 10 0 15 k = 0
    · rw [if_pos q, if_pos q]
    · rw [if_neg q, if_neg q, show tg9 i (M.1 10 0 17 (9 * k + i)) (M.1 10 0 18 i) = (if i < 6 then tgI (M.1 10 0 17 (9 * k + i)) (M.1 10 0 18 i) else tgS (M.1 10 0 17 (9 * k + i)) (M.1 10 0 18 i)) from rfl]
      by_cases q2 : M.1 10 0 17 (9 * k + i) = M.1 10 0 18 i
      · rw [if_pos q2, q2, tgI_self, show tgS (M.1 10 0 18 i) (M.1 10 0 18 i) = M.1 10 0 18 i from if_pos rfl, ite_self]
      · rw [if_neg q2]
        by_cases q3 : i < 6
        · rw [show (6 : Int32) = nI 6 from rfl, if_pos (show nI i < nI 6 by rw [i_lt (by omega) (by decide)]; exact q3), if_pos q3, P_mTogether, r1_s]
        · rw [show (6 : Int32) = nI 6 from rfl, if_neg (show ¬ nI i < nI 6 by rw [i_lt (by omega) (by decide)]; exact q3), if_neg q3, show tgS (M.1 10 0 17 (9 * k + i)) (M.1 10 0 18 i) = -2 from if_neg q2]
theorem fR_1 {N : sm_M} {p k : Nat} : (fR N p).1 k = !decide (N.1 10 0 15 (17 * p + k) = 0) := rfl
theorem fR_2 {N : sm_M} {p k i : Nat} : (fR N p).2 k i = N.1 10 0 17 (9 * (17 * p + k) + i) := rfl
theorem P_mComes {sc : Nat × (Nat → Int32)} {M : sm_M} {p o : Nat} {u : Bool} (hp : p < 3) (ho : o < 17) (hu : M.1 10 0 0 18 = bI u) :
    ∃ N, dn sc kModel_comesTo 0 [.inr (.inr (10, 0, 0)), .inl (nI p), .inl (nI o)] [] M = some (0, .inl 0, N) ∧ frS (s10p p) M N ∧ ∃ u', N.1 10 0 0 18 = bI u' ∧ stepQ o (nwR M) (fR M p) u (fR N p) u' := by
  have h1 := P_mc1 (sc := sc) (M := M) (k := 17 * p + o) (u := u) (by omega) 9 0 rfl
  rw [blk_0, show (u || anyN 0 (dR M (17 * p + o))) = u from Bool.or_false u, u_sme hu] at h1
  refine ⟨sm_u (sm_u (blk M 10 0 17 (9 * (17 * p + o)) 9 (gR M (17 * p + o))) 10 0 0 18 (bI (u || anyN 9 (dR M (17 * p + o))))) 10 0 15 (17 * p + o) 1, ?_, ⟨rfl, fun c p' j i h => ?_⟩, u || anyN 9 (dR M (17 * p + o)), ?_, fun j hj => ?_, fun j i hj hi => ?_, ?_⟩
  · rw [E_Model_comesTo_0, show (17 : Int32) = nI 17 from rfl, i_mul, nI_add]
    exact h1
  · unfold s10p at h
    rw [u_1, if_neg (by omega), u_1, if_neg (by omega), blk_1, if_neg (fun z => h ⟨z.1.1, z.1.2.1, by omega⟩)]
  · rw [u_1, if_neg (by omega), u_1, if_pos ⟨rfl, rfl, rfl, rfl⟩]
  · rw [fR_1, u_1, jnF_1, fR_1]
    by_cases z : j = o
    · subst z
      rw [if_pos ⟨rfl, rfl, rfl, rfl⟩, decide_eq_true rfl, Bool.or_true]; rfl
    · rw [if_neg (by omega), u_1, if_neg (by omega), blk_no (by omega), decide_eq_false z, Bool.or_false]
  · rw [fR_2, u_1, if_neg (by omega), u_1, if_neg (by omega)]
    by_cases z : j = o
    · subst z
      rw [blk_in hi, jnF_k, fR_1, fR_2]
      unfold gR nwR
      by_cases y : M.1 10 0 15 (17 * p + j) = 0
      · rw [if_pos y, decide_eq_true y, if_neg (by decide)]
      · rw [if_neg y, decide_eq_false y, Bool.not_false, if_pos rfl]
    · rw [blk_out (by omega), jnF_o z, fR_2]
  · unfold dfF
    rw [fR_1, Bool.not_not]
    congr 1
    by_cases y : M.1 10 0 15 (17 * p + o) = 0
    · rw [decide_eq_true y, Bool.true_or, anyN_t]
      exact ⟨0, by decide, by unfold dR; rw [decide_eq_true y, Bool.true_or]⟩
    · rw [decide_eq_false y, Bool.false_or]
      refine anyN_e (fun i hi => ?_)
      unfold dR gR nwR
      rw [decide_eq_false y, Bool.false_or, if_neg y, fR_2]
/-- the op that comes next in the reference -/
theorem P_mNext {sc : Nat × (Nat → Int32)} {a : Nat → Nat → Int32} {N : sm_M} {p o : Nat} {b : Bool} (wf : wfA a) (r : cr a N) (hp : p < 3) (ho : o < onA a p) (hb : b = true → otO a p o) : dn sc kModel_next 0 [.inr (.inr (10, 0, 0)), .inl (nI p), .inl (nI o), .inl (bI b)] [] N = some (0, .inl (nI (nxO a p o b)), N) := by
  have h16 := (wf.2.1 p hp).2.1
  have ok := (wf.2.1 p hp).2.2 o ho
  obtain ⟨c0, c1, c2, c7, c9, c10, c11, ca, cX, cY, cn⟩ := okO_c ok
  obtain ⟨g1, g2, g3⟩ := cr_op r p o
  have h4 : ∀ t, t < 2147483648 → dn sc kModel_next 4 [.inr (.inr (10, 0, 0)), .inl (nI p)] [.inl (nI t)] N = some (0, .inl (nI (if t < onA a p then t else onA a p)), N) := by
    intro t ht
    rw [E_Model_next_4, i_ib hp (by decide), if_pos rfl, if_pos rfl, i_cl (by omega), cr_n wf r hp]
    by_cases z : t < onA a p
    · rw [if_pos (by rw [i_lt ht (by omega)]; exact z), if_pos z]
    · rw [if_neg (by rw [i_lt ht (by omega)]; exact z), if_neg z]
  rw [E_Model_next_0, show (16 : Int32) = nI 16 from rfl, i_mul, nI_add, i_ib (show 16 * p + o < 48 by omega) (by decide)]
  simp only [if_true]
  rw [i_cl (by omega), g1, g3]
  unfold nxO
  by_cases q : opW a p o = 12
  · have y2 : opY a p o = nI (yN a p o) := cY (by simp only [q]; decide)
    have y1 : yN a p o < 16 := c11 (Or.inr q)
    rw [if_pos q, if_pos (Or.inl q), y2, h4 _ (by omega)]
  · rw [if_neg q]
    cases b with
    | false => rw [if_pos (show bI false = 0 from rfl), if_neg (show ¬(opW a p o = 12 ∨ false = true) from fun z => z.elim q (by decide)), nI_1, h4 _ (by omega)]
    | true =>
      have y2 : opY a p o = nI (yN a p o) := cY (by rcases hb rfl with z | z <;> simp only [z] <;> decide)
      have y1 : yN a p o < 16 := by
        rcases hb rfl with z | z
        · exact (c10 z).2
        · exact c11 (Or.inl z)
      rw [if_neg (show ¬ bI true = 0 by decide), if_pos (Or.inr rfl), y2, h4 _ (by omega)]
/-- what an op has ahead of it is now -/
theorem P_mg1 {sc : Nat × (Nat → Int32)} {M : sm_M} {p o : Nat} {b : Bool} (hp : p < 3) (ho : o < 17) : ∀ n i, i + n = 9 →
    dn sc kModel_goesOn 1 [.inr (.inr (10, 0, 0)), .inl (nI p), .inl (nI o), .inl (bI b), .inl (nI i)] [] (blk M 10 0 18 0 i (fun t => M.1 10 0 17 (9 * (17 * p + o) + t))) =
    dn sc kModel_goesOn 6 [.inr (.inr (10, 0, 0)), .inl (nI p), .inl (nI o), .inl (bI b)] [.inl (bI b), .inl (nI o), .inl (nI p), .inr (.inr (10, 0, 0))] (blk M 10 0 18 0 9 (fun t => M.1 10 0 17 (9 * (17 * p + o) + t))) := by
  intro n
  induction n with
  | zero =>
    intro i hi
    obtain rfl : i = 9 := by omega
    rw [E_Model_goesOn_1, if_neg (by decide)]
    cases b with
    | false => rw [if_pos (show bI false = 0 from rfl)]; rfl
    | true => rw [if_neg (show ¬ bI true = 0 by decide)]; rfl
  | succ n ih =>
    intro i hi
    rw [E_Model_goesOn_1, show (9 : Int32) = nI 9 from rfl, if_pos (by rw [i_lt (by omega) (by decide)]; omega), show (17 : Int32) = nI 17 from rfl, i_mul, nI_add, i_mul, nI_add, i_ib (show 9 * (17 * p + o) + i < 459 by omega) (by decide), if_pos rfl, i_ib (show i < 9 by omega) (by decide), if_pos rfl, i_cl (show i < 2147483648 by omega), i_cl (show 9 * (17 * p + o) + i < 2147483648 by omega), blk_no (by omega), nI_1, ← ih (i + 1) (by omega)]
    have e1 : blk M 10 0 18 0 (i + 1) (fun t => M.1 10 0 17 (9 * (17 * p + o) + t)) = sm_u (blk M 10 0 18 0 i (fun t => M.1 10 0 17 (9 * (17 * p + o) + t))) 10 0 18 i (M.1 10 0 17 (9 * (17 * p + o) + i)) := by rw [← blk_s, Nat.zero_add]
    rw [e1]
theorem P_mGoes {sc : Nat × (Nat → Int32)} {a : Nat → Nat → Int32} {N : sm_M} {p o : Nat} {b u : Bool} (wf : wfA a) (r : cr a N) (hp : p < 3) (ho : o < onA a p) (hv : okV a p ((fR N p).2 o)) (hb : b = true → otO a p o) (hu : N.1 10 0 0 18 = bI u) :
    ∃ N2, dn sc kModel_goesOn 0 [.inr (.inr (10, 0, 0)), .inl (nI p), .inl (nI o), .inl (bI b)] [] N = some (0, .inl 0, N2) ∧ frS (s10p p) N N2 ∧ ∃ u' v, N2.1 10 0 0 18 = bI u' ∧ (∀ i, i < 9 → v i = trF a p o (bN b) ((fR N p).2 o) i) ∧ stepQ (nxO a p o b) v (fR N p) u (fR N2 p) u' := by
  have h16 := (wf.2.1 p hp).2.1
  have h1 := P_mg1 (sc := sc) (M := N) (b := b) hp (show o < 17 by omega) 9 0 rfl
  rw [blk_0] at h1
  have f1 : frS s10n N (blk N 10 0 18 0 9 (fun t => N.1 10 0 17 (9 * (17 * p + o) + t))) := ⟨rfl, fun c p' j i h => by unfold s10n at h; rw [blk_no (by omega)]⟩
  have r1 := cr_f (frS_w f1 s10n_f) r
  have hn1 : ∀ i, i < 9 → (blk N 10 0 18 0 9 (fun t => N.1 10 0 17 (9 * (17 * p + o) + t))).1 10 0 18 i = (fR N p).2 o i := by
    intro i hi
    have := blk_in (M := N) (c := 10) (p := 0) (j := 18) (base := 0) (g := fun t => N.1 10 0 17 (9 * (17 * p + o) + t)) hi
    rw [Nat.zero_add] at this
    exact this
  have bw : bN b < 2 := by have := bN_le b; omega
  obtain ⟨N1, d1, d2, d3⟩ := P_mDoes (sc := sc) wf r1 hp ho hv bw hn1
  have f2 : frS s10n N N1 := frS_t f1 d2
  have r2 := cr_f (frS_w f2 s10n_f) r
  have hu2 : N1.1 10 0 0 18 = bI u := (f2.2 _ _ _ _ (fun z => by unfold s10n at z; omega)).trans hu
  have n17 : nxO a p o b < 17 := by have := nxO_le (a := a) (p := p) (o := o) (b := b); omega
  obtain ⟨N2, c1, c2, u', c3, c4⟩ := P_mComes (sc := sc) hp n17 hu2
  have ef : fR N1 p = fR N p := by
    unfold fR
    refine Prod.ext ?_ ?_
    · funext k
      dsimp only
      rw [f2.2 _ _ _ _ (fun z => by unfold s10n at z; omega)]
    · funext k i
      dsimp only
      rw [f2.2 _ _ _ _ (fun z => by unfold s10n at z; omega)]
  rw [ef] at c4
  refine ⟨N2, ?_, frS_t (frS_w f2 s10n_p) c2, u', nwR N1, c3, fun i hi => d3 i hi, c4⟩
  rw [E_Model_goesOn_0, show (0 : Int32) = nI 0 from rfl, h1, E_Model_goesOn_6, show (bI b : Int32) = nI (bN b) from by cases b <;> rfl, d1, r0_s, show (nI (bN b) : Int32) = bI b from by cases b <;> rfl, P_mNext wf r2 hp ho hb, r1_s, c1, r0_s]; rfl
