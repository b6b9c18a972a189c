/-! LEVEL B: the run: who is ready, and the draw -/
def wtP (a : Nat → Nat → Int32) (M : sm_M) (p : Nat) : Bool := !decide (M.1 0 p 0 9 = nI (onA a p)) && wtB a M p (M.1 0 p 0 9).toNatClampNeg
def rdB (a : Nat → Nat → Int32) (M : sm_M) (p : Nat) : Bool := decide (M.1 0 p 0 7 = 0) && !wtP a M p
theorem P_wP {sc : Nat × (Nat → Int32)} {a : Nat → Nat → Int32} {M N : sm_M} {p mk T b tc : Nat} (wf : wfA a) (tl : rTel a M) (r : cr a N) (ps : PS a M N mk T b tc) (hp : p < 3) :
    dn sc kCourse_mustWait 0 [.inr (.inr (3, 0, 0)), .inl (nI p)] [] M = some (0, .inl (bI (wtP a M p)), M) ∧ dn sc kModel_isWaiting 0 [.inr (.inr (10, 0, 0)), .inl (nI p)] [] N = some (0, .inl (bI (wtP a M p)), N) := by
  have h16 := on16 wf hp
  obtain ⟨_, _, ⟨o, o1, o2, o3⟩, _⟩ := ps.2.2 p hp
  unfold wtP
  rw [o2, i_cl (show o < 2147483648 by omega)]
  by_cases z : o = onA a p
  · subst z
    rw [P_cWait_e wf tl hp o2, P_mWait_e wf r hp o3, decide_eq_true rfl]
    exact ⟨rfl, rfl⟩
  · have ho : o < onA a p := by omega
    rw [P_cWait wf tl ps.2.2 hp ho o2, P_mWait wf r ps.2.2 ps.2.1 hp ho o3, decide_eq_false (show ¬ nI o = nI (onA a p) by rw [i_eq (by omega) (by omega)]; exact z)]
    exact ⟨rfl, rfl⟩
theorem P_rdy {sc : Nat × (Nat → Int32)} {a : Nat → Nat → Int32} {M N : sm_M} {p mk T b tc : Nat} (wf : wfA a) (tl : rTel a M) (r : cr a N) (ps : PS a M N mk T b tc) (hp : p < 3) :
    dn sc kCourse_isReady 0 [.inr (.inr (3, 0, 0)), .inl (nI p)] [] M = some (0, .inl (bI (rdB a M p)), M) ∧ dn sc kModel_canGo 0 [.inr (.inr (10, 0, 0)), .inl (nI p)] [] N = some (0, .inl (bI (rdB a M p)), N) := by
  obtain ⟨⟨l, l1, l2, l3⟩, _⟩ := ps.2.2 p hp
  obtain ⟨w1, w2⟩ := P_wP (sc := sc) wf tl r ps hp
  unfold rdB
  rw [E_Course_isReady_0, i_ib hp (by decide), if_pos rfl, i_cl (show p < 2147483648 by omega), E_Body_life_0, r1_s, E_Model_canGo_0, i_ib hp (by decide), if_pos rfl, i_cl (show p < 2147483648 by omega), l3, l2]
  by_cases z : nI l = 0
  · rw [if_pos z, if_pos z, w1, w2, r1_s, r1_s, decide_eq_true z]
    cases wtP a M p with
    | true => exact ⟨rfl, rfl⟩
    | false => exact ⟨rfl, rfl⟩
  · rw [if_neg z, if_neg z, decide_eq_false z]
    exact ⟨rfl, rfl⟩
def rdC (a : Nat → Nat → Int32) (M : sm_M) : Nat → Nat → Nat
  | 0, _ => 0
  | n + 1, i => bN (rdB a M i) + rdC a M n (i + 1)
theorem rdC_s {a : Nat → Nat → Int32} {M : sm_M} {n i : Nat} : rdC a M (n + 1) i = bN (rdB a M i) + rdC a M n (i + 1) := rfl
theorem rdC_le {a : Nat → Nat → Int32} {M : sm_M} : ∀ n i, rdC a M n i ≤ n := by
  intro n
  induction n with
  | zero => intro i; exact Nat.le_refl _
  | succ n ih =>
    intro i
    have := ih (i + 1)
    have h : bN (rdB a M i) ≤ 1 := by cases rdB a M i <;> decide
    rw [rdC_s]
    omega
theorem P_cnt {sc : Nat × (Nat → Int32)} {a : Nat → Nat → Int32} {M N : sm_M} {mk T b tc : Nat} (wf : wfA a) (tl : rTel a M) (r : cr a N) (ps : PS a M N mk T b tc) : ∀ n i c, i + n = 3 → dn sc kCourse_countReady 1 [.inr (.inr (3, 0, 0)), .inl (nI c), .inl (nI i)] [] M = some (0, .inl (nI (c + rdC a M n i)), M) := by
  intro n
  induction n with
  | zero =>
    intro i c hi
    obtain rfl : i = 3 := by omega
    rw [E_Course_countReady_1, if_neg (by decide)]; rfl
  | succ n ih =>
    intro i c hi
    have i3 : i < 3 := by omega
    rw [E_Course_countReady_1, if_pos (show nI i < 3 from by rw [show (3 : Int32) = nI 3 from rfl, i_lt (by omega) (by decide)]; exact i3), (P_rdy wf tl r ps i3).1, r1_s, nI_1, nI_1, show nI c + 0 = nI (c + 0) by rw [show (0 : Int32) = nI 0 from rfl, nI_add], ih (i + 1) (c + 0) (by omega), ih (i + 1) (c + 1) (by omega), rdC_s]
    cases rdB a M i with
    | false => rw [if_pos (show bI false = 0 from rfl), show bN false = 0 from rfl, Nat.zero_add]; rfl
    | true => rw [if_neg (show ¬ bI true = 0 by decide), show bN true = 1 from rfl, Nat.add_assoc]
theorem P_cCnt {sc : Nat × (Nat → Int32)} {a : Nat → Nat → Int32} {M N : sm_M} {mk T b tc : Nat} (wf : wfA a) (tl : rTel a M) (r : cr a N) (ps : PS a M N mk T b tc) : dn sc kCourse_countReady 0 [.inr (.inr (3, 0, 0))] [] M = some (0, .inl (nI (rdC a M 3 0)), M) := by
  have e := P_cnt (sc := sc) wf tl r ps 3 0 0 (by decide)
  rw [Nat.zero_add] at e
  rw [E_Course_countReady_0]; exact e
theorem P_mCnt {sc : Nat × (Nat → Int32)} {a : Nat → Nat → Int32} {M N : sm_M} {mk T b tc : Nat} (wf : wfA a) (tl : rTel a M) (r : cr a N) (ps : PS a M N mk T b tc) : dn sc kModel_canRun 0 [.inr (.inr (10, 0, 0))] [] N = some (0, .inl (nI (rdC a M 3 0)), N) := by
  have g0 : dn sc kModel_canGo 0 [.inr (.inr (10, 0, 0)), .inl 0] [] N = _ := (P_rdy (sc := sc) wf tl r ps (show 0 < 3 by decide)).2
  have g1 : dn sc kModel_canGo 0 [.inr (.inr (10, 0, 0)), .inl 1] [] N = _ := (P_rdy (sc := sc) wf tl r ps (show 1 < 3 by decide)).2
  have g2 : dn sc kModel_canGo 0 [.inr (.inr (10, 0, 0)), .inl 2] [] N = _ := (P_rdy (sc := sc) wf tl r ps (show 2 < 3 by decide)).2
  have e : rdC a M 3 0 = bN (rdB a M 0) + (bN (rdB a M 1) + (bN (rdB a M 2) + 0)) := rfl
  have e6 : ∀ s0 s1 : Bool, dn sc kModel_canRun 6 [.inr (.inr (10, 0, 0))] [.inl (bI s1), .inl (bI s0)] N = some (0, .inl (bI s0 + bI s1 + bI (rdB a M 2)), N) := by
    intro s0 s1
    rw [E_Model_canRun_6, g2, r1_s]
    cases rdB a M 2 with
    | false => rw [if_pos (show bI false = 0 from rfl)]; rfl
    | true => rw [if_neg (show ¬ bI true = 0 by decide)]; rfl
  have e3 : ∀ s0 : Bool, dn sc kModel_canRun 3 [.inr (.inr (10, 0, 0))] [.inl (bI s0)] N = some (0, .inl (bI s0 + bI (rdB a M 1) + bI (rdB a M 2)), N) := by
    intro s0
    rw [E_Model_canRun_3, g1, r1_s]
    cases rdB a M 1 with
    | false => rw [if_pos (show bI false = 0 from rfl)]; exact e6 s0 false
    | true => rw [if_neg (show ¬ bI true = 0 by decide)]; exact e6 s0 true
  have b3 : ∀ x y z : Bool, bI x + bI y + bI z = nI (bN x + (bN y + (bN z + 0))) := by decide
  rw [e, ← b3, E_Model_canRun_0, g0, r1_s]
  cases rdB a M 0 with
  | false => rw [if_pos (show bI false = 0 from rfl)]; exact e3 false
  | true => rw [if_neg (show ¬ bI true = 0 by decide)]; exact e3 true
theorem dr_idx (s : Int32) {n : Nat} (h0 : 0 < n) (h3 : n ≤ 3) : ∃ j, j < n ∧ ((s.toUInt32 >>> ((16 : Int32).toUInt32 &&& Int32.toUInt32 31)).toInt32) - ((s.toUInt32 >>> ((16 : Int32).toUInt32 &&& Int32.toUInt32 31)).toInt32) / nI n * nI n = nI j := by
  have hk : ∃ k, k < 65536 ∧ (s.toUInt32 >>> ((16 : Int32).toUInt32 &&& Int32.toUInt32 31)).toInt32 = nI k := by
    refine ⟨(s.toUInt32 >>> ((16 : Int32).toUInt32 &&& Int32.toUInt32 31)).toNat, ?_, ?_⟩
    · have e : ((16 : Int32).toUInt32 &&& Int32.toUInt32 31).toNat % 32 = 16 := by decide
      have l := s.toUInt32.toNat_lt
      rw [UInt32.toNat_shiftRight, e, Nat.shiftRight_eq_div_pow]
      omega
    · unfold nI
      rw [← UInt32.toInt32_ofNat', UInt32.ofNat_toNat]
  obtain ⟨k, k1, k2⟩ := hk
  refine ⟨k - k / n * n, ?_, ?_⟩
  · rcases (show n = 1 ∨ n = 2 ∨ n = 3 by omega) with rfl | rfl | rfl <;> omega
  · rw [k2]
    unfold nI
    rw [← Int32.ofNat_div (by omega) (by omega), ← Int32.ofNat_mul, ← Int32.ofNat_sub _ _ (Nat.div_mul_le_self k n)]
theorem P_pick {sc : Nat × (Nat → Int32)} {a : Nat → Nat → Int32} {M N : sm_M} {mk T b tc : Nat} (wf : wfA a) (tl : rTel a M) (r : cr a N) (ps : PS a M N mk T b tc) : ∀ n i j, i + n = 3 → j < rdC a M n i → ∃ q, q < 3 ∧ rdB a M q = true ∧ dn sc kCourse_readyAt 1 [.inr (.inr (3, 0, 0)), .inl (nI j), .inl (nI i)] [] M = some (0, .inl (nI q), M) ∧
    ∀ l2 l3 l4 : Int32, dn sc kModel_run 11 [.inr (.inr (10, 0, 0)), .inl l2, .inl l3, .inl l4, .inl (nI j), .inl (nI i)] [] N = dn sc kModel_run 20 [.inr (.inr (10, 0, 0)), .inl l2, .inl l3, .inl l4] [.inl (bI (decide (l3 < 0))), .inl (nI q), .inr (.inr (10, 0, 0))] N := by
  intro n
  induction n with
  | zero => intro i j _ h; exact absurd h (Nat.not_lt_zero _)
  | succ n ih =>
    intro i j hi hj
    have i3 : i < 3 := by omega
    have j3 : j < 3 := by have := rdC_le (a := a) (M := M) (n + 1) i; omega
    obtain ⟨g1, g2⟩ := P_rdy (sc := sc) wf tl r ps i3
    have lt3 : nI i < 3 := by rw [show (3 : Int32) = nI 3 from rfl, i_lt (by omega) (by decide)]; exact i3
    rw [rdC_s] at hj
    rw [E_Course_readyAt_1, if_pos lt3, g1, r1_s]
    cases hb : rdB a M i with
    | false =>
      rw [hb] at hj g2
      obtain ⟨q, q1, q2, q3, q4⟩ := ih (i + 1) j (by omega) (by rw [show bN false = 0 from rfl, Nat.zero_add] at hj; exact hj)
      refine ⟨q, q1, q2, ?_, fun l2 l3 l4 => ?_⟩
      · rw [if_pos (show bI false = 0 from rfl), nI_1]; exact q3
      · rw [E_Model_run_11, g2, r1_s, if_pos (show bI false = 0 from rfl), E_Model_run_13, g2, r1_s, if_pos (show bI false = 0 from rfl), nI_1, show nI j - 0 = nI j from (by decide : ∀ j, j < 3 → nI j - 0 = nI j) j j3, q4]
    | true =>
      rw [hb] at hj g2
      rw [if_neg (show ¬ bI true = 0 by decide)]
      rcases Nat.eq_zero_or_pos j with z | z
      · subst z
        refine ⟨i, i3, hb, by rw [if_pos (show nI 0 = 0 from rfl)], fun l2 l3 l4 => ?_⟩
        rw [E_Model_run_11, g2, r1_s, if_neg (show ¬ bI true = 0 by decide), if_neg (show ¬ (0 : Int32) < nI 0 by decide)]
        by_cases s : l3 < 0
        · rw [if_pos s, decide_eq_true s]; rfl
        · rw [if_neg s, decide_eq_false s]; rfl
      · obtain ⟨q, q1, q2, q3, q4⟩ := ih (i + 1) (j - 1) (by omega) (by rw [show bN true = 1 from rfl] at hj; omega)
        refine ⟨q, q1, q2, ?_, fun l2 l3 l4 => ?_⟩
        · rw [if_neg ((by decide : ∀ j, j < 3 → 0 < j → ¬ nI j = 0) j j3 z), nI_1, (by decide : ∀ j, j < 3 → 0 < j → nI j + (-1) = nI (j - 1)) j j3 z]; exact q3
        · rw [E_Model_run_11, g2, r1_s, if_neg (show ¬ bI true = 0 by decide), if_pos ((by decide : ∀ j, j < 3 → 0 < j → 0 < nI j) j j3 z), E_Model_run_13, g2, r1_s, if_neg (show ¬ bI true = 0 by decide), nI_1, (by decide : ∀ j, j < 3 → 0 < j → nI j - 1 = nI (j - 1)) j j3 z, q4]
theorem T_draw {sc : Nat × (Nat → Int32)} {a : Nat → Nat → Int32} {turns : Nat} (wf : wfA a) (h200 : turns ≤ 200) : ∀ (n done : Nat) (seed : Int32) (M N : sm_M) (mk t tc : Nat), done + n = turns → rTel a M → cr a N → PS a M N mk t t tc → mk + n + 1 < 2000000 → t + n < 2000000 → tc + n < 2000000 →
    ∃ k M' N', k ≤ turns ∧ dn sc kCourse_draw 1 [.inr (.inr (3, 0, 0)), .inl (nI turns), .inl seed, .inl (nI done)] [] M = some (0, .inl (nI k), M') ∧ dn sc kModel_run 8 [.inr (.inr (10, 0, 0)), .inl (nI turns), .inl seed, .inl (nI done), .inl (nI (rdC a M 3 0))] [] N = some (0, .inl (nI k), N') ∧ (∃ mk' t' tc', mk' ≤ mk + n ∧ t' ≤ t + n ∧ tc' ≤ tc + n ∧ PS a M' N' mk' t' t' tc') ∧ FF M N M' N' := by
  intro n
  induction n with
  | zero =>
    intro done seed M N mk t tc hd tl r ps _ _ _
    obtain rfl : done = turns := by omega
    have nl : ¬ nI done < nI done := by rw [i_lt (by omega) (by omega)]; omega
    exact ⟨done, M, N, Nat.le_refl _, by rw [E_Course_draw_1, if_neg nl], by rw [E_Model_run_8, if_neg nl], ⟨mk, t, tc, Nat.le_refl _, Nat.le_refl _, Nat.le_refl _, ps⟩, frS_r, frS_r⟩
  | succ n ih =>
    intro done seed M N mk t tc hd tl r ps hmk ht htc
    have lt : nI done < nI turns := by rw [i_lt (by omega) (by omega)]; omega
    have c3 := rdC_le (a := a) (M := M) 3 0
    rcases Nat.eq_zero_or_pos (rdC a M 3 0) with z | z
    · refine ⟨done, M, N, by omega, ?_, ?_, ⟨mk, t, tc, by omega, by omega, by omega, ps⟩, frS_r, frS_r⟩
      · rw [E_Course_draw_1, if_pos lt, P_cCnt wf tl r ps, r1_s, z, if_pos (show nI 0 = 0 from rfl)]
      · rw [E_Model_run_8, if_pos lt, z, if_neg (show ¬ (0 : Int32) < nI 0 by decide)]
    · have nz : ¬ nI (rdC a M 3 0) = 0 := (by decide : ∀ j, j < 4 → 0 < j → ¬ nI j = 0) _ (by omega) z
      have pz : (0 : Int32) < nI (rdC a M 3 0) := (by decide : ∀ j, j < 4 → 0 < j → (0 : Int32) < nI j) _ (by omega) z
      obtain ⟨j, j1, j2⟩ := dr_idx (seed * lt_K1 + 12345) z c3
      obtain ⟨q, q1, q2, q3, q4⟩ := P_pick (sc := sc) wf tl r ps 3 0 j (by decide) j1
      have hw := (P_wP (sc := sc) wf tl r ps q1).1
      have hq : wtP a M q = false := by
        unfold rdB at q2
        rw [Bool.and_eq_true] at q2
        cases h : wtP a M q with
        | false => rfl
        | true => rw [h] at q2; exact absurd q2.2 (by decide)
      rw [hq] at hw
      obtain ⟨M1, N1, g1, g2, ⟨mk', tc', k1, k2, k3, k4, k5⟩, f1, f2⟩ := T_turn (sc := sc) (coin := decide (seed * lt_K1 + 12345 < 0)) wf tl r ps (by omega) (by omega) (by omega) q1 hw
      obtain ⟨k, M', N', h1, h2, h3, ⟨mk2, t2, tc2, b1, b2, b3, b4⟩, h5⟩ := ih (done + 1) (seed * lt_K1 + 12345) M1 N1 mk' (t + 1) tc' (by omega) (rTel_run f1 tl) (cr_run f2 r) k5 (by omega) (by omega) (by omega)
      refine ⟨k, M', N', h1, ?_, ?_, ⟨mk2, t2, tc2, by omega, by omega, by omega, b4⟩, FF_t ⟨f1, f2⟩ h5⟩
      · rw [E_Course_draw_1, if_pos lt, P_cCnt wf tl r ps, r1_s, if_neg nz, if_neg nz, j2, E_Course_readyAt_0, show dn sc kCourse_readyAt 1 [.inr (.inr (3, 0, 0)), .inl (nI j), .inl 0] [] M = _ from q3, r1_s]
        by_cases s : seed * lt_K1 + 12345 < 0
        · rw [decide_eq_true s] at g1
          rw [if_pos s, show dn sc kCourse_advance 0 [.inr (.inr (3, 0, 0)), .inl (nI q), .inl 1] [] M = _ from g1, r1_s, nI_1]
          exact h2
        · rw [decide_eq_false s] at g1
          rw [if_neg s, show dn sc kCourse_advance 0 [.inr (.inr (3, 0, 0)), .inl (nI q), .inl 0] [] M = _ from g1, r1_s, nI_1]
          exact h2
      · rw [E_Model_run_8, if_pos lt, if_pos pz, if_neg nz, j2, show dn sc kModel_run 11 [.inr (.inr (10, 0, 0)), .inl (nI turns), .inl (seed * lt_K1 + 12345), .inl (nI done), .inl (nI j), .inl 0] [] N = _ from q4 _ _ _, E_Model_run_20, g2, r0_s, P_mCnt wf (rTel_run f1 tl) (cr_run f2 r) k5, r1_s, nI_1]
        exact h3
