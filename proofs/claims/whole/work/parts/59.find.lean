/-! LEVEL B: find in the class, findsAll in the reference -/
theorem lbA_e {a : Nat → Nat → Int32} {q o : Nat} {L K : Nat → Int32} (hn : onA a q ≤ 16) (h : ∀ j, j < 17 → L j = K j) : lbA a q L o = lbA a q K o := by
  have n17 : ∀ b, nxO a q o b < 17 := fun b => by have := nxO_le (a := a) (p := q) (o := o) (b := b); omega
  unfold lbA
  rw [h _ (n17 false), h _ (n17 true)]
theorem kS_e {a : Nat → Nat → Int32} {q : Nat} (wf : wfA a) (hq : q < 3) {S T : sF} (e : eqF S T) (h : kS a q S) : kS a q T := by
  obtain ⟨⟨s1, s2, s3⟩, h2, h3⟩ := h
  have h16 := (wf.2.1 q hq).2.1
  refine ⟨⟨by rw [← (e 0 (by decide)).1]; exact s1, fun i hi => by rw [← (e 0 (by decide)).2 s1 i hi]; exact s2 i hi, fun o ho => clF_e ((wf.2.1 q hq).2.2 o ho) h16 (by omega) e (s3 o ho)⟩, fun U hU k hk hT => ?_, fun k hk hT => ?_⟩
  · have hS : S.1 k = true := by rw [(e k hk).1]; exact hT
    exact ⟨(h2 U hU k hk hS).1, fun i hi => by rw [← (e k hk).2 hS i hi]; exact (h2 U hU k hk hS).2 i hi⟩
  · have hS : S.1 k = true := by rw [(e k hk).1]; exact hT
    exact okV_e (fun i hi => ((e k hk).2 hS i hi).symm) (h3 k hk hS)
theorem lvA_e {a : Nat → Nat → Int32} {q : Nat} {L K : Nat → Int32} (h : ∀ j, j < 17 → K j = L j) (l : lvA a q L) : lvA a q K := by
  obtain ⟨k, k1, k2⟩ := l
  exact ⟨k, k1, fun o ho => by rw [h o ho]; exact k2 o ho⟩
/-- what is found stands in the class -/
def knC (a : Nat → Nat → Int32) (M : sm_M) (q : Nat) : Prop := kS a q (fC M q) ∧ lvA a q (LvC M q) ∧ M.1 4 q 0 11 = cO a q ∧ M.1 4 q 0 12 = cF a q
/-- what is found stands in the reference -/
def knR (a : Nat → Nat → Int32) (N : sm_M) (p : Nat) : Prop := kS a p (fR N p) ∧ lvA a p (LvR N p)
theorem knC_v {a : Nat → Nat → Int32} {M : sm_M} {q : Nat} (h : kS a q (fC M q)) {o : Nat} (ho : o < 17) (hc : (fC M q).1 o = true) : hvC M q o ((cS a q).2 o) := by
  have e := (cS_e h o ho).2 hc
  refine ⟨fun i hi => ?_, fun c hc => ?_⟩
  · rw [← e i (by omega), fC_n hi]
  · rw [← e (6 + c) (by omega), fC_s]
theorem knR_v {a : Nat → Nat → Int32} {N : sm_M} {p : Nat} (h : kS a p (fR N p)) {o : Nat} (ho : o < 17) (hc : (fR N p).1 o = true) : hvR N p o ((cS a p).2 o) := by
  have e := (cS_e h o ho).2 hc
  intro i hi
  rw [← e i hi, fR_2]
theorem cS_ok {a : Nat → Nat → Int32} {q : Nat} {S : sF} (h : kS a q S) {o : Nat} (ho : o < 17) (hc : S.1 o = true) : okV a q ((cS a q).2 o) := (cS_k h).2.2 o ho (by rw [← (cS_e h o ho).1]; exact hc)
def s411 (q c p j i : Nat) : Prop := c = 4 ∧ p = q ∧ j = 0 ∧ (i = 11 ∨ i = 12)
theorem s411_4 {q : Nat} : ∀ c p j i, s411 q c p j i → s4 q c p j i := fun c p j i h => by unfold s411 at h; unfold s4; omega
theorem fC_411 {M N : sm_M} {q : Nat} (h : frS (s411 q) M N) : fC N q = fC M q ∧ LvC N q = LvC M q := by
  have h8 : N.1 4 q 0 8 = M.1 4 q 0 8 := h.2 _ _ _ _ (fun z => by unfold s411 at z; omega)
  have h4 : ∀ i, N.1 4 q 4 i = M.1 4 q 4 i := fun i => h.2 _ _ _ _ (fun z => by unfold s411 at z; omega)
  have h5 : ∀ i, N.1 4 q 5 i = M.1 4 q 5 i := fun i => h.2 _ _ _ _ (fun z => by unfold s411 at z; omega)
  have h6 : ∀ i, N.1 4 q 6 i = M.1 4 q 6 i := fun i => h.2 _ _ _ _ (fun z => by unfold s411 at z; omega)
  refine ⟨?_, ?_⟩
  · unfold fC
    rw [h8]
    refine Prod.ext rfl ?_
    funext k i
    dsimp only
    rw [h4, h5]
  · funext j
    unfold LvC
    rw [h6]
theorem P_ffe {sc : Nat × (Nat → Int32)} {a : Nat → Nat → Int32} {q : Nat} (wf : wfA a) (hq : q < 3) : ∀ k i M, i + k = onA a q + 1 → cx a M q → kS a q (fC M q) → lvA a q (LvC M q) → M.1 4 q 0 11 = -1 → M.1 4 q 0 12 = 0 →
    ∃ N, dn sc kFlow_findError 1 [.inr (.inr (4, q, 0)), .inl (nI i)] [] M = some (0, .inl 0, N) ∧ frS (s411 q) M N ∧ N.1 4 q 0 11 = fsR k i (hasE a q) ∧ N.1 4 q 0 12 = if fsR k i (hasE a q) = -1 then 0 else cE a q (fsR k i (hasE a q)).toNatClampNeg := by
  have h16 := (wf.2.1 q hq).2.1
  intro k
  induction k with
  | zero =>
    intro i M hi r hS hL h11 h12
    refine ⟨M, ?_, frS_r, h11, h12⟩
    rw [E_Flow_findError_1, P_kSize (r.1.2.1 q hq), r1_s, if_pos (by rw [i_lt (by omega) (by omega)]; omega)]
  | succ k ih =>
    intro i M hi r hS hL h11 h12
    have rk := r.1.2.1 q hq
    have e1 : dn sc kFlow_findError 1 [.inr (.inr (4, q, 0)), .inl (nI i)] [] M = if bI (bt (M.1 4 q 0 8) i) = 0 then dn sc kFlow_findError 6 [.inr (.inr (4, q, 0)), .inl (nI i)] [] M else sm_r1 (dn sc kFlow_errorAt 0 [.inr (.inr (4, q, 0)), .inl (nI i)] [] M) (fun x6 M5 => dn sc kFlow_findError 6 [.inr (.inr (4, q, 0)), .inl (nI i)] [] (sm_u M5 4 q 0 12 x6)) := by
      rw [E_Flow_findError_1, P_kSize rk, r1_s, if_neg (by rw [i_lt (by omega) (by omega)]; omega), show (16 : Int32) = nI 16 from rfl, if_neg (by rw [i_lt (by decide) (by omega)]; omega), if_pos h12, P_fCome (by omega), r1_s]
    have e6 : dn sc kFlow_findError 6 [.inr (.inr (4, q, 0)), .inl (nI i)] [] M = dn sc kFlow_findError 1 [.inr (.inr (4, q, 0)), .inl (nI (i + 1))] [] M := by
      rw [E_Flow_findError_6, if_pos h12, nI_1]
    have hcome : (fC M q).1 i = (cS a q).1 i := (cS_e hS i (by omega)).1
    rw [e1]
    cases hc : bt (M.1 4 q 0 8) i with
    | false =>
      have hh : hasE a q i = false := by
        unfold hasE
        rw [← hcome, show (fC M q).1 i = bt (M.1 4 q 0 8) i from rfl, hc, Bool.false_and]
      rw [if_pos (show bI false = 0 from rfl), e6, fsR_s, hh, if_neg (show ¬ false = true by decide)]
      exact ih (i + 1) M (by omega) r hS hL h11 h12
    | true =>
      have hv := knC_v hS (show i < 17 by omega) hc
      have okv := cS_ok hS (show i < 17 by omega) hc
      have herr := P_fErr (sc := sc) wf r hq (show i ≤ onA a q by omega) hv okv (lb := lbA a q (cL a q) i) (fun _ => lbA_e h16 (cL_e wf hq hL))
      rw [if_neg (show ¬ bI true = 0 by decide), herr, r1_s, show erE a q i ((cS a q).2 i) (lbA a q (cL a q) i) = cE a q i from rfl]
      by_cases he : cE a q i = 0
      · have hh : hasE a q i = false := by
          unfold hasE
          rw [decide_eq_true he, Bool.not_true, Bool.and_false]
        rw [he, u_sme h12, e6, fsR_s, hh, if_neg (show ¬ false = true by decide)]
        exact ih (i + 1) M (by omega) r hS hL h11 h12
      · have hh : hasE a q i = true := by
          unfold hasE
          rw [← hcome, show (fC M q).1 i = bt (M.1 4 q 0 8) i from rfl, hc, decide_eq_false he]; rfl
        have f1 : frS (s411 q) M (sm_u (sm_u M 4 q 0 12 (cE a q i)) 4 q 0 11 (nI i)) := frS_t (frS_u ⟨rfl, rfl, rfl, Or.inr rfl⟩) (frS_u ⟨rfl, rfl, rfl, Or.inl rfl⟩)
        have rk1 := (cx_fr (frS_w f1 s411_4) r).1.2.1 q hq
        refine ⟨sm_u (sm_u M 4 q 0 12 (cE a q i)) 4 q 0 11 (nI i), ?_, f1, ?_, ?_⟩
        · rw [E_Flow_findError_6, u_hit, if_neg he, nI_1, E_Flow_findError_1, P_kSize rk1, r1_s]
          have x12 : (sm_u (sm_u M 4 q 0 12 (cE a q i)) 4 q 0 11 (nI i)).1 4 q 0 12 = cE a q i := by rw [u_mis (by omega), u_hit]
          rw [x12, if_neg he]
          split
          · rfl
          · split <;> rfl
        · rw [u_hit, fsR_s, hh, if_pos rfl]
        · rw [u_mis (by omega), u_hit, fsR_s, hh, if_pos rfl, if_neg ((by decide : ∀ k, k < 17 → ¬ nI k = -1) i (by omega)), i_cl (by omega)]
theorem P_fFind {sc : Nat × (Nat → Int32)} {a : Nat → Nat → Int32} {M : sm_M} {q : Nat} (wf : wfA a) (r : cx a M q) (hq : q < 3) (hk : M.1 4 q 0 10 = 0 ∨ knC a M q) :
    ∃ N, dn sc kFlow_find 0 [.inr (.inr (4, q, 0))] [] M = some (0, .inr (.inr (4, q, 0)), N) ∧ frS (s4 q) M N ∧ knC a N q := by
  rw [E_Flow_find_0]
  by_cases z : M.1 4 q 0 10 = 0
  · rw [if_pos z]
    have f0 : frS (s4 q) M (sm_u M 4 q 0 10 1) := frS_u ⟨rfl, rfl, by omega⟩
    obtain ⟨N1, a1, a2, a3⟩ := P_fAll (sc := sc) wf (cx_fr f0 r) hq
    have f1 := frS_t f0 (frS_w a2 s4f_4)
    obtain ⟨N2, b1, b2, b3⟩ := P_fLives (sc := sc) wf (cx_fr f1 r) hq
    have f2 := frS_t f1 (frS_w b2 s46_4)
    have e2 : fC N2 q = fC N1 q := by
      have h8 : N2.1 4 q 0 8 = N1.1 4 q 0 8 := b2.2 _ _ _ _ (fun z => by unfold s46 at z; omega)
      have h4 : ∀ i, N2.1 4 q 4 i = N1.1 4 q 4 i := fun i => b2.2 _ _ _ _ (fun z => by unfold s46 at z; omega)
      have h5 : ∀ i, N2.1 4 q 5 i = N1.1 4 q 5 i := fun i => b2.2 _ _ _ _ (fun z => by unfold s46 at z; omega)
      unfold fC
      rw [h8]
      refine Prod.ext rfl ?_
      funext k i
      dsimp only
      rw [h4, h5]
    have f3 : frS (s411 q) N2 (sm_u (sm_u N2 4 q 0 11 (-1)) 4 q 0 12 0) := frS_t (frS_u ⟨rfl, rfl, rfl, Or.inl rfl⟩) (frS_u ⟨rfl, rfl, rfl, Or.inr rfl⟩)
    obtain ⟨g1, g2⟩ := fC_411 f3
    have f4 := frS_t f2 (frS_w f3 s411_4)
    obtain ⟨N, c1, c2, c3, c4⟩ := P_ffe (sc := sc) wf hq (onA a q + 1) 0 (sm_u (sm_u N2 4 q 0 11 (-1)) 4 q 0 12 0) (by omega) (cx_fr f4 r) (by rw [g1, e2]; exact a3) (by rw [g2]; exact b3) (by rw [u_mis (by omega), u_hit]) u_hit
    obtain ⟨k1, k2⟩ := fC_411 c2
    refine ⟨N, ?_, frS_t f4 (frS_w c2 s411_4), ?_, ?_, c3, c4⟩
    · rw [a1, r0_s, b1, r0_s, E_Flow_findError_0, show dn sc kFlow_findError 1 [.inr (.inr (4, q, 0)), .inl 0] [] (sm_u (sm_u N2 4 q 0 11 (-1)) 4 q 0 12 0) = _ from c1, r0_s]
    · rw [k1, g1, e2]; exact a3
    · rw [k2, g2]; exact b3
  · rw [if_neg z]
    exact ⟨M, rfl, frS_r, hk.resolve_left z⟩
/-- what the reference has found of another process stays -/
theorem knR_fr {S : Nat → Nat → Nat → Nat → Prop} {a : Nat → Nat → Int32} {N N' : sm_M} {p : Nat} (wf : wfA a) (hp : p < 3) (h : frS S N N') (hS : ∀ i, (S 10 0 15 i → ¬ (17 * p ≤ i ∧ i < 17 * p + 17)) ∧ (S 10 0 16 i → ¬ (17 * p ≤ i ∧ i < 17 * p + 17)) ∧ (S 10 0 17 i → ¬ (153 * p ≤ i ∧ i < 153 * p + 153))) (k : knR a N p) : knR a N' p := by
  refine ⟨kS_e wf hp (fun k hk => ⟨?_, fun _ i hi => ?_⟩) k.1, lvA_e (fun j hj => ?_) k.2⟩
  · rw [fR_1, fR_1, h.2 _ _ _ _ (fun z => (hS _).1 z (by omega))]
  · rw [fR_2, fR_2, h.2 _ _ _ _ (fun z => (hS _).2.2 z (by omega))]
  · unfold LvR
    rw [if_pos hj, if_pos hj, h.2 _ _ _ _ (fun z => (hS _).2.1 z (by omega))]
theorem P_mfa1 {sc : Nat × (Nat → Int32)} {a : Nat → Nat → Int32} (wf : wfA a) : ∀ k i N, i + k = 3 → cr a N → N.1 10 0 0 13 = 0 → N.1 10 0 0 18 = 0 → (∀ p, p < i → knR a N p) →
    ∃ N', dn sc kModel_findsAll 1 [.inr (.inr (10, 0, 0)), .inl (nI i)] [] N = some (0, .inl 0, N') ∧ frS s10f N N' ∧ N'.1 10 0 0 18 = 0 ∧ N'.1 10 0 0 13 = 1 ∧ ∀ p, p < 3 → knR a N' p := by
  intro k
  induction k with
  | zero =>
    intro i N hi r h13 h18 hk
    obtain rfl : i = 3 := by omega
    have f : frS (fun c p j i => c = 10 ∧ p = 0 ∧ j = 0 ∧ i = 13) N (sm_u N 10 0 0 13 1) := frS_u ⟨rfl, rfl, rfl, rfl⟩
    refine ⟨sm_u N 10 0 0 13 1, ?_, frS_u (by unfold s10f; omega), by rw [u_mis (by omega)]; exact h18, u_hit, fun p hp => knR_fr wf hp f (fun i => ⟨fun z => by omega, fun z => by omega, fun z => by omega⟩) (hk p hp)⟩
    rw [E_Model_findsAll_1, if_neg (by decide)]
  | succ k ih =>
    intro i N hi r h13 h18 hk
    have hi3 : i < 3 := by omega
    obtain ⟨N1, a1, a2, a3⟩ := P_mLives (sc := sc) wf r hi3
    have r1 := cr_f (frS_w a2 s16_f) r
    have h18' : N1.1 10 0 0 18 = 0 := (a2.2 _ _ _ _ (fun z => by unfold s16 at z; omega)).trans h18
    obtain ⟨N2, b1, b2, b3, b4, b5, b6⟩ := P_mFinds (sc := sc) wf r1 hi3 h18'
    have f2 : frS s10f N N2 := frS_t (frS_w a2 s16_f) (frS_w b2 s10p_f)
    have hl : ∀ j, j < 17 → LvR N2 i j = LvR N1 i j := by
      intro j hj
      unfold LvR
      rw [if_pos hj, if_pos hj]
      exact b2.2 _ _ _ _ (fun z => by unfold s10p at z; omega)
    have h13' : N2.1 10 0 0 13 = 0 := (b2.2 _ _ _ _ (fun z => by unfold s10p at z; omega)).trans ((a2.2 _ _ _ _ (fun z => by unfold s16 at z; omega)).trans h13)
    have r2 := cr_f f2 r
    obtain ⟨N', c1, c2, c3, c4, c5⟩ := ih (i + 1) N2 (by omega) r2 h13' b3 (fun p hp => by
      by_cases z : p = i
      · subst z
        exact ⟨⟨b4, b5, b6⟩, lvA_e hl a3⟩
      · have k1 := knR_fr wf (show p < 3 by omega) a2 (fun i' => ⟨fun z => by unfold s16 at z; omega, fun z => by unfold s16 at z; omega, fun z => by unfold s16 at z; omega⟩) (hk p (by omega))
        exact knR_fr wf (show p < 3 by omega) b2 (fun i' => ⟨fun z => by unfold s10p at z; omega, fun z => by unfold s10p at z; omega, fun z => by unfold s10p at z; omega⟩) k1)
    refine ⟨N', ?_, frS_t f2 c2, c3, c4, c5⟩
    rw [E_Model_findsAll_1, show (3 : Int32) = nI 3 from rfl, if_pos (by rw [i_lt (by omega) (by decide)]; exact hi3), if_pos h13, a1, r0_s, b1, r0_s, nI_1]
    exact c1
theorem P_mAll {sc : Nat × (Nat → Int32)} {a : Nat → Nat → Int32} {N : sm_M} (wf : wfA a) (r : cr a N) (h18 : N.1 10 0 0 18 = 0) (hk : N.1 10 0 0 13 = 0 ∨ ∀ p, p < 3 → knR a N p) :
    ∃ N', dn sc kModel_findsAll 0 [.inr (.inr (10, 0, 0))] [] N = some (0, .inl 0, N') ∧ frS s10f N N' ∧ N'.1 10 0 0 18 = 0 ∧ N'.1 10 0 0 13 = 1 ∧ ∀ p, p < 3 → knR a N' p := by
  by_cases z : N.1 10 0 0 13 = 0
  · obtain ⟨N', h1, h2⟩ := P_mfa1 (sc := sc) wf 3 0 N rfl r z h18 (fun p hp => by omega)
    exact ⟨N', (E_Model_findsAll_0 sc N).trans h1, h2⟩
  · have f : frS (fun c p j i => c = 10 ∧ p = 0 ∧ j = 0 ∧ i = 13) N (sm_u N 10 0 0 13 1) := frS_u ⟨rfl, rfl, rfl, rfl⟩
    refine ⟨sm_u N 10 0 0 13 1, ?_, frS_u (by unfold s10f; omega), by rw [u_mis (by omega)]; exact h18, u_hit, fun p hp => knR_fr wf hp f (fun i => ⟨fun z => by omega, fun z => by omega, fun z => by omega⟩) ((hk.resolve_left z) p hp)⟩
    refine (E_Model_findsAll_0 sc N).trans ?_
    rw [E_Model_findsAll_1, if_pos (by decide), if_neg z]
/-- errors are told by numbers from 1 on -/
theorem erE_p {a : Nat → Nat → Int32} {p o : Nat} {v : Nat → Int32} {lb : Int32} (h : ¬ erE a p o v lb = 0) : 0 < erE a p o v lb := by
  revert h
  unfold erE kpE
  repeat' split
  all_goals first
    | (intro _; decide)
    | (intro h; exact absurd rfl h)
theorem P_mfe1 {sc : Nat × (Nat → Int32)} {a : Nat → Nat → Int32} {N : sm_M} {p : Nat} (wf : wfA a) (r : cr a N) (hp : p < 3) (kn : knR a N p) : ∀ k i, i + k = onA a p + 1 → dn sc kModel_firstError 1 [.inr (.inr (10, 0, 0)), .inl (nI p), .inl (nI i)] [] N = some (0, .inl (fsR k i (hasE a p)), N) := by
  have h16 := (wf.2.1 p hp).2.1
  intro k
  induction k with
  | zero =>
    intro i hi
    rw [E_Model_firstError_1, i_ib hp (by decide), if_pos rfl, i_cl (by omega), cr_n wf r hp, if_pos (by rw [i_lt (by omega) (by omega)]; omega)]; rfl
  | succ k ih =>
    intro i hi
    have hcome : (fR N p).1 i = (cS a p).1 i := (cS_e kn.1 i (by omega)).1
    rw [E_Model_firstError_1, i_ib hp (by decide), if_pos rfl, i_cl (show p < 2147483648 by omega), cr_n wf r hp, if_neg (by rw [i_lt (by omega) (by omega)]; omega), show (17 : Int32) = nI 17 from rfl, i_mul, nI_add, i_ib (show 17 * p + i < 51 by omega) (by decide), if_pos rfl, i_cl (show 17 * p + i < 2147483648 by omega), nI_1, ih (i + 1) (by omega), fsR_s]
    by_cases hc : N.1 10 0 15 (17 * p + i) = 0
    · have hh : hasE a p i = false := by
        unfold hasE
        rw [← hcome, fR_1, decide_eq_true hc]; rfl
      rw [if_pos hc, hh, if_neg (show ¬ false = true by decide)]
    · have hct : (fR N p).1 i = true := by rw [fR_1, decide_eq_false hc]; rfl
      have hv := knR_v kn.1 (show i < 17 by omega) hct
      have okv := cS_ok kn.1 (show i < 17 by omega) hct
      have herr := P_mErr (sc := sc) wf r hp (show i ≤ onA a p by omega) hv okv (lb := lbA a p (cL a p) i) (fun _ => lbA_e h16 (cL_e wf hp kn.2))
      rw [if_neg hc, herr, r1_s, show erE a p i ((cS a p).2 i) (lbA a p (cL a p) i) = cE a p i from rfl]
      by_cases he : cE a p i = 0
      · have hh : hasE a p i = false := by
          unfold hasE
          rw [decide_eq_true he, Bool.not_true, Bool.and_false]
        rw [he, if_neg (by decide), ih (i + 1) (by omega), hh, if_neg (show ¬ false = true by decide)]
      · have hh : hasE a p i = true := by
          unfold hasE
          rw [← hcome, hct, decide_eq_false he]; rfl
        rw [if_pos (show 0 < cE a p i from erE_p he), hh, if_pos rfl]
theorem P_mFirst {sc : Nat × (Nat → Int32)} {a : Nat → Nat → Int32} {N : sm_M} {p : Nat} (wf : wfA a) (r : cr a N) (hp : p < 3) (h18 : N.1 10 0 0 18 = 0) (hk : N.1 10 0 0 13 = 0 ∨ ∀ p, p < 3 → knR a N p) :
    ∃ N', dn sc kModel_firstError 0 [.inr (.inr (10, 0, 0)), .inl (nI p)] [] N = some (0, .inl (cO a p), N') ∧ frS s10f N N' ∧ N'.1 10 0 0 18 = 0 ∧ N'.1 10 0 0 13 = 1 ∧ ∀ p, p < 3 → knR a N' p := by
  obtain ⟨N', h1, h2, h3, h4, h5⟩ := P_mAll (sc := sc) wf r h18 hk
  refine ⟨N', ?_, h2, h3, h4, h5⟩
  rw [E_Model_firstError_0, h1, r0_s]
  exact P_mfe1 wf (cr_f h2 r) hp (h5 p hp) (onA a p + 1) 0 (by omega)
/-- the op with the first error -/
theorem fsR_of {P : Nat → Bool} : ∀ {k i : Nat}, i + k ≤ 2147483648 → ¬ fsR k i P = -1 → ∃ j, i ≤ j ∧ j < i + k ∧ P j = true ∧ fsR k i P = nI j := by
  intro k
  induction k with
  | zero => intro i _ h; exact absurd rfl h
  | succ k ih =>
    intro i hb h
    rw [fsR_s] at h ⊢
    by_cases z : P i = true
    · rw [if_pos z]
      exact ⟨i, Nat.le_refl _, by omega, z, rfl⟩
    · rw [if_neg z] at h ⊢
      obtain ⟨j, h1, h2, h3, h4⟩ := ih (by omega) h
      exact ⟨j, by omega, by omega, h3, h4⟩
theorem cO_of {a : Nat → Nat → Int32} {q : Nat} (h16 : onA a q ≤ 16) (h : ¬ cO a q = -1) : ∃ o, o ≤ onA a q ∧ hasE a q o = true ∧ cO a q = nI o := by
  obtain ⟨j, h1, h2, h3, h4⟩ := fsR_of (P := hasE a q) (k := onA a q + 1) (i := 0) (by omega) h
  exact ⟨j, by omega, h3, h4⟩
