/-! LEVEL B: layouts: the reference's: reads and keeps -/
/-- the cells that stuck changes in the reference; long ones of the tag 10 are free -/
def s10l (p j i : Nat) : Prop := p = 0 ∧ (j = 22 ∨ j = 23 ∨ j = 24 ∨ (j = 0 ∧ i = 20))
def fr10 (M N : sm_M) : Prop := (∀ c, ¬ c = 10 → N.1 c = M.1 c ∧ N.2 c = M.2 c) ∧ ∀ p j i, ¬ s10l p j i → N.1 10 p j i = M.1 10 p j i
theorem fr10_r {M : sm_M} : fr10 M M := ⟨fun _ _ => ⟨rfl, rfl⟩, fun _ _ _ _ => rfl⟩
theorem fr10_t {M N O : sm_M} (h : fr10 M N) (h2 : fr10 N O) : fr10 M O := ⟨fun c hc => ⟨(h2.1 c hc).1.trans (h.1 c hc).1, (h2.1 c hc).2.trans (h.1 c hc).2⟩, fun p j i z => (h2.2 p j i z).trans (h.2 p j i z)⟩
theorem fr10_u {M : sm_M} {p j i : Nat} {x : Int32} (h : s10l p j i) : fr10 M (sm_u M 10 p j i x) := ⟨fun c hc => ⟨by
  funext p' j' i'
  rw [u_1, if_neg (fun z => hc z.1)], rfl⟩, fun p' j' i' z => by
  rw [u_1, if_neg]
  rintro ⟨_, rfl, rfl, rfl⟩
  exact z h⟩
theorem fr10_w {M : sm_M} {p j i : Nat} {x : Int64} : fr10 M (sm_w M 10 p j i x) := ⟨fun c hc => ⟨rfl, by
  funext p' j' i'
  rw [w_2, if_neg (fun z => hc z.1)]⟩, fun _ _ _ _ => rfl⟩
theorem cr_10 {a : Nat → Nat → Int32} {M N : sm_M} (h : fr10 M N) (r : cr a M) : cr a N := by
  refine ⟨(h.2 0 0 5 (by unfold s10l; omega)).trans r.1, fun j h2 h13 => ?_⟩
  rw [← r.2 j h2 h13]
  funext i
  exact h.2 0 j i (by unfold s10l; omega)
/-- the layout that lies there -/
def rdN (N : sm_M) (h : Nat → Nat) : Prop := (∀ p, p < 3 → N.1 10 0 22 p = nI (h p % 32) ∧ N.1 10 0 23 p = nI (h p / 32)) ∧ ∀ k, k < 6 → N.1 10 0 24 k = nI (abQ (h (3 + k)))
theorem P_mReads1 {sc : Nat × (Nat → Int32)} {h : Nat → Nat} (w : wfh h) : ∀ n i (N : sm_M), i + n = 3 → ∃ N', dn sc kModel_reads 1 [.inr (.inr (10, 0, 0)), .inr (.inl (lN (rN h))), .inl (nI i)] [] N = dn sc kModel_reads 7 [.inr (.inr (10, 0, 0)), .inr (.inl (lN (rN h))), .inl (nI 0)] [] N' ∧ (∀ x, i ≤ x → x < 3 → N'.1 10 0 22 x = nI (h x % 32) ∧ N'.1 10 0 23 x = nI (h x / 32)) ∧ N'.2 = N.2 ∧ ∀ c p j x, ¬ (c = 10 ∧ p = 0 ∧ (j = 22 ∨ j = 23) ∧ i ≤ x) → N'.1 c p j x = N.1 c p j x := by
  have hr := rN_lt w
  intro n
  induction n with
  | zero =>
    intro i N hi
    obtain rfl : i = 3 := by omega
    refine ⟨N, ?_, fun x h1 h2 => by omega, rfl, fun _ _ _ _ _ => rfl⟩
    rw [E_Model_reads_1, if_neg (by decide)]; rfl
  | succ n ih =>
    intro i N hi
    have hi3 : i < 3 := by omega
    obtain ⟨d1, d2⟩ := (rN_d w).1 i hi3
    have h64 := w.1 i hi3
    obtain ⟨N', h1, h2, h3, h4⟩ := ih (i + 1) (sm_u (sm_u N 10 0 22 i (nI (h i % 32))) 10 0 23 i (nI (h i / 32))) (by omega)
    refine ⟨N', ?_, fun x x1 x2 => ?_, h3, fun c p j x z => ?_⟩
    · rw [← h1, E_Model_reads_1, show (3 : Int32) = nI 3 from rfl, if_pos (by rw [i_lt (by omega) (by decide)]; exact hi3), i_ib hi3 (by decide), if_pos rfl, show (15 : Int32) = nI 15 from rfl, nI_add, lN_sr (by omega) (by omega), show (1 : Int64) = lN (2 ^ 1 - 1) from rfl, l_mask, show 2 ^ 1 = 2 from rfl, d2, show (5 : Int32) = nI 5 from rfl, i_mul, lN_sr (by omega) (by omega), show (31 : Int64) = lN (2 ^ 5 - 1) from rfl, l_mask, show 2 ^ 5 = 32 from rfl, d1, lN_i, i_cl (show i < 2147483648 by omega), nI_1]
      have c := lN_cmp (a := h i / 32) (b := 2 - 1) (by omega) (by decide)
      by_cases z : h i / 32 = 1
      · rw [if_pos (c.mpr z), z]; rfl
      · rw [if_neg (fun y => z (c.mp y)), if_pos rfl, show h i / 32 = 0 by omega]; rfl
    · by_cases z : x = i
      · subst z
        rw [h4 _ _ _ _ (by omega), h4 _ _ _ _ (by omega), u_hit, u_mis (by omega), u_hit]
        exact ⟨rfl, rfl⟩
      · exact h2 x (by omega) x2
    · rw [h4 c p j x (by omega), u_mis (by omega), u_mis (by omega)]
theorem P_mReads7 {sc : Nat × (Nat → Int32)} {h : Nat → Nat} (w : wfh h) : ∀ n i (N : sm_M), i + n = 6 → ∃ N', dn sc kModel_reads 7 [.inr (.inr (10, 0, 0)), .inr (.inl (lN (rN h))), .inl (nI i)] [] N = some (0, .inl 0, N') ∧ (∀ x, i ≤ x → x < 6 → N'.1 10 0 24 x = nI (abQ (h (3 + x)))) ∧ N'.2 = N.2 ∧ ∀ c p j x, ¬ (c = 10 ∧ p = 0 ∧ j = 24 ∧ i ≤ x) → N'.1 c p j x = N.1 c p j x := by
  have hr := rN_lt w
  intro n
  induction n with
  | zero =>
    intro i N hi
    obtain rfl : i = 6 := by omega
    refine ⟨N, ?_, fun x h1 h2 => by omega, rfl, fun _ _ _ _ _ => rfl⟩
    rw [E_Model_reads_7, if_neg (by decide)]
  | succ n ih =>
    intro i N hi
    have hi6 : i < 6 := by omega
    have d := (rN_d w).2 i hi6
    obtain ⟨N', h1, h2, h3, h4⟩ := ih (i + 1) (sm_u N 10 0 24 i (nI (abQ (h (3 + i))))) (by omega)
    refine ⟨N', ?_, fun x x1 x2 => ?_, h3, fun c p j x z => ?_⟩
    · rw [← h1, E_Model_reads_7, show (6 : Int32) = nI 6 from rfl, if_pos (by rw [i_lt (by omega) (by decide)]; exact hi6), i_ib hi6 (by decide), if_pos rfl, i_mul, show (18 : Int32) = nI 18 from rfl, nI_add, lN_sr (by omega) (by omega), show (63 : Int64) = lN (2 ^ 6 - 1) from rfl, l_mask, show 2 ^ 6 = 64 from rfl, d, lN_i, i_cl (show i < 2147483648 by omega), nI_1]
    · by_cases z : x = i
      · subst z
        rw [h4 _ _ _ _ (by omega), u_hit]
      · exact h2 x (by omega) x2
    · rw [h4 c p j x (by omega), u_mis (by omega)]
theorem P_mReads {sc : Nat × (Nat → Int32)} {h : Nat → Nat} {N : sm_M} (w : wfh h) : ∃ N', dn sc kModel_reads 0 [.inr (.inr (10, 0, 0)), .inr (.inl (lN (rN h)))] [] N = some (0, .inl 0, N') ∧ rdN N' h ∧ fr10 N N' ∧ N'.2 = N.2 ∧ N'.1 10 0 0 20 = N.1 10 0 0 20 := by
  obtain ⟨N1, a1, a2, a3, a4⟩ := P_mReads1 (sc := sc) w 3 0 N (by decide)
  obtain ⟨N2, b1, b2, b3, b4⟩ := P_mReads7 (sc := sc) w 6 0 N1 (by decide)
  refine ⟨N2, ?_, ⟨fun p hp => ?_, fun k hk => b2 k (Nat.zero_le _) hk⟩, ⟨fun c hc => ⟨?_, by rw [b3, a3]⟩, fun p j i z => ?_⟩, b3.trans a3, ?_⟩
  · rw [E_Model_reads_0]; exact a1.trans b1
  · rw [b4 _ _ _ _ (by omega), b4 _ _ _ _ (by omega)]
    exact a2 p (Nat.zero_le _) hp
  · funext p j i
    rw [b4 c p j i (by omega), a4 c p j i (by omega)]
  · unfold s10l at z
    rw [b4 10 p j i (by omega), a4 10 p j i (by omega)]
  · rw [b4 _ _ _ _ (by omega), a4 _ _ _ _ (by omega)]
/-- the number of the layout that lies there, piece by piece -/
theorem P_mKp1 {sc : Nat × (Nat → Int32)} {h : Nat → Nat} {N : sm_M} (r : rdN N h) {e i : Nat} (hi : i < 3) (hh : h i < 64) (h1 : e / 2 ^ (5 * i) % 2 ^ 5 = 0) (h2 : (e + h i % 32 * 2 ^ (5 * i)) / 2 ^ (15 + i) % 2 ^ 1 = 0) :
    dn sc kModel_keeps 1 [.inr (.inr (10, 0, 0)), .inr (.inl (lN e)), .inl (nI i)] [] N = dn sc kModel_keeps 1 [.inr (.inr (10, 0, 0)), .inr (.inl (lN (e + h i % 32 * 2 ^ (5 * i) + h i / 32 * 2 ^ (15 + i)))), .inl (nI (i + 1))] [] N := by
  obtain ⟨r1, r2⟩ := r.1 i hi
  have fin : ∀ o, o < 2 → (lN e ||| ((lN (h i % 32) <<< ((nI (5 * i)).toInt64 &&& 63)) ||| (lN o <<< ((nI (15 + i)).toInt64 &&& 63)))) = lN (e ||| (h i % 32 * 2 ^ (5 * i)) ||| (o * 2 ^ (15 + i))) := by
    intro o _
    rw [lN_sl (by omega), lN_mul, lN_sl (by omega), lN_mul, lN_or, lN_or, Nat.or_assoc]
  have five : ∀ o, o < 2 → h i / 32 = o → dn sc kModel_keeps 5 [.inr (.inr (10, 0, 0)), .inl (nI i)] [.inr (.inl (lN o)), .inr (.inl ((nI (h i % 32)).toInt64 <<< ((nI (5 * i)).toInt64 &&& 63))), .inr (.inl (lN e))] N = dn sc kModel_keeps 1 [.inr (.inr (10, 0, 0)), .inr (.inl (lN (e + h i % 32 * 2 ^ (5 * i) + h i / 32 * 2 ^ (15 + i)))), .inl (nI (i + 1))] [] N := by
    intro o ho he
    rw [E_Model_keeps_5, show (15 : Int32) = nI 15 from rfl, nI_add, nI_l (by omega), fin o ho, or_add h1 (by omega), or_add h2 (by omega), nI_1, he]
  rw [E_Model_keeps_1, show (3 : Int32) = nI 3 from rfl, if_pos (by rw [i_lt (by omega) (by decide)]; exact hi), i_ib hi (by decide), if_pos rfl, if_pos rfl, i_cl (show i < 2147483648 by omega), r1, r2, show (5 : Int32) = nI 5 from rfl, i_mul]
  by_cases z : h i / 32 = 0
  · rw [if_pos (show nI (h i / 32) = 0 by rw [z]; rfl)]
    exact five 0 (by decide) z
  · rw [if_neg (show ¬ nI (h i / 32) = 0 from fun y => z ((i_eq (by omega) (by decide)).mp y))]
    exact five 1 (by decide) (by omega)
theorem P_mKp7 {sc : Nat × (Nat → Int32)} {h : Nat → Nat} {N : sm_M} (r : rdN N h) {e i : Nat} (hi : i < 6) (w : wfq (h (3 + i))) (h1 : e / 2 ^ (18 + 6 * i) % 2 ^ 6 = 0) :
    dn sc kModel_keeps 7 [.inr (.inr (10, 0, 0)), .inr (.inl (lN e)), .inl (nI i)] [] N = dn sc kModel_keeps 7 [.inr (.inr (10, 0, 0)), .inr (.inl (lN (e + abQ (h (3 + i)) * 2 ^ (18 + 6 * i)))), .inl (nI (i + 1))] [] N := by
  have q := (abQ_32 w).1
  rw [E_Model_keeps_7, show (6 : Int32) = nI 6 from rfl, if_pos (by rw [i_lt (by omega) (by decide)]; exact hi), i_ib hi (by decide), if_pos rfl, i_cl (show i < 2147483648 by omega), r.2 i hi, i_mul, show (18 : Int32) = nI 18 from rfl, nI_add, nI_l (by omega), lN_sl (by omega), lN_mul, lN_oa h1 (by omega), nI_1]
theorem zq {e S W : Nat} (h : e < S) : e / S % W = 0 := by rw [Nat.div_eq_of_lt h, Nat.zero_mod]
theorem P_mKp {sc : Nat × (Nat → Int32)} {h : Nat → Nat} {N : sm_M} (r : rdN N h) (w : wfh h) : dn sc kModel_keeps 0 [.inr (.inr (10, 0, 0))] [] N = dn sc kModel_keeps 10 [.inr (.inr (10, 0, 0)), .inr (.inl (lN (rN h))), .inl 0] [] N := by
  obtain ⟨d0, d1, d2, d3, d4, d5, d6, d7, d8⟩ := wfh_9 w
  rw [E_Model_keeps_0]
  refine (P_mKp1 (sc := sc) (e := 0) (i := 0) r (by decide) d0 (by decide) (by simp only [Nat.reduceMul, Nat.reduceAdd, Nat.reducePow]; omega)).trans ?_
  refine (P_mKp1 (i := 1) r (by decide) d1 (by simp only [Nat.reduceMul, Nat.reduceAdd, Nat.reducePow]; omega) (zq (by simp only [Nat.reduceMul, Nat.reduceAdd, Nat.reducePow]; omega))).trans ?_
  refine (P_mKp1 (i := 2) r (by decide) d2 (by simp only [Nat.reduceMul, Nat.reduceAdd, Nat.reducePow]; omega) (zq (by simp only [Nat.reduceMul, Nat.reduceAdd, Nat.reducePow]; omega))).trans ?_
  rw [E_Model_keeps_1, if_neg (by decide)]
  refine (P_mKp7 (i := 0) r (by decide) (w.2 0 (by decide)) (zq (by simp only [Nat.reduceMul, Nat.reduceAdd, Nat.reducePow]; omega))).trans ?_
  refine (P_mKp7 (i := 1) r (by decide) (w.2 1 (by decide)) (zq (by simp only [Nat.reduceMul, Nat.reduceAdd, Nat.reducePow]; omega))).trans ?_
  refine (P_mKp7 (i := 2) r (by decide) (w.2 2 (by decide)) (zq (by simp only [Nat.reduceMul, Nat.reduceAdd, Nat.reducePow]; omega))).trans ?_
  refine (P_mKp7 (i := 3) r (by decide) (w.2 3 (by decide)) (zq (by simp only [Nat.reduceMul, Nat.reduceAdd, Nat.reducePow]; omega))).trans ?_
  refine (P_mKp7 (i := 4) r (by decide) (w.2 4 (by decide)) (zq (by simp only [Nat.reduceMul, Nat.reduceAdd, Nat.reducePow]; omega))).trans ?_
  refine (P_mKp7 (i := 5) r (by decide) (w.2 5 (by decide)) (zq (by simp only [Nat.reduceMul, Nat.reduceAdd, Nat.reducePow]; omega))).trans ?_
  rw [E_Model_keeps_7, if_neg (by decide)]
  congr 6
  unfold rN
  simp only [Nat.reduceMul, Nat.reduceAdd, Nat.reducePow]
  omega
/-- the reference's rows -/
def MT (a : Nat → Nat → Int32) (N : sm_M) (s : (Nat → Nat → Nat) × Nat) : Prop := N.1 10 0 0 20 = nI s.2 ∧ s.2 ≤ 1001 ∧ ∀ k, k < s.2 → N.2 10 0 20 k = lN (rN (s.1 k)) ∧ Gd a (s.1 k)
theorem MT_e {a : Nat → Nat → Int32} {N N' : sm_M} {s : (Nat → Nat → Nat) × Nat} (h : N'.1 10 0 0 20 = N.1 10 0 0 20) (h2 : N'.2 = N.2) (m : MT a N s) : MT a N' s := ⟨h.trans m.1, m.2.1, fun k hk => ⟨by rw [h2]; exact (m.2.2 k hk).1, (m.2.2 k hk).2⟩⟩
theorem P_mKeep10 {sc : Nat × (Nat → Int32)} {a : Nat → Nat → Int32} {N : sm_M} {s : (Nat → Nat → Nat) × Nat} {h : Nat → Nat} (wf : wfA a) (m : MT a N s) (hs : s.2 < 1001) (g : Gd a h) : ∀ n i, i + n = s.2 → (∀ k, k < i → ¬ eq9 (s.1 k) h) → ∃ N', dn sc kModel_keeps 10 [.inr (.inr (10, 0, 0)), .inr (.inl (lN (rN h))), .inl (nI i)] [] N = some (0, .inl (bI (decide ((adS s h).2 ≤ 1000))), N') ∧ MT a N' (adS s h) ∧ fr10 N N' := by
  obtain ⟨m1, m2, m3⟩ := m
  have hr := rN_lt (Gd_w g)
  intro n
  induction n with
  | zero =>
    intro i hi hA
    obtain rfl : i = s.2 := by omega
    have hni : ¬ inS s h := fun ⟨k, k1, k2⟩ => hA k k1 k2
    rw [E_Model_keeps_10, m1, if_neg (by rw [i_lt (by omega) (by omega)]; omega), i_ib hs (by decide), if_pos rfl, i_cl (show s.2 < 2147483648 by omega), adS_y hs hni]
    have e1 : (sm_w N 10 0 20 s.2 (lN (rN h))).1 10 0 0 20 = nI s.2 := m1
    rw [e1, nI_1, u_hit]
    refine ⟨sm_u (sm_w N 10 0 20 s.2 (lN (rN h))) 10 0 0 20 (nI (s.2 + 1)), ?_, ⟨u_hit, hs, fun k hk => ?_⟩, fr10_t fr10_w (fr10_u (by unfold s10l; omega))⟩
    · rw [show (1000 : Int32) = nI 1000 from rfl]
      unfold pushS
      dsimp only
      by_cases z : 1000 < s.2 + 1
      · rw [if_pos (by rw [i_lt (by decide) (by omega)]; exact z), decide_eq_false (by omega)]; rfl
      · rw [if_neg (by rw [i_lt (by decide) (by omega)]; exact z), decide_eq_true (by omega)]; rfl
    · unfold pushS at hk ⊢
      dsimp only at hk ⊢
      rw [u_2, w_2]
      by_cases z : k = s.2
      · rw [if_pos z, if_pos ⟨rfl, rfl, rfl, z⟩]; exact ⟨rfl, g⟩
      · rw [if_neg z, if_neg (fun y => z y.2.2.2)]; exact m3 k (by omega)
  | succ n ih =>
    intro i hi hA
    obtain ⟨r1, r2⟩ := m3 i (by omega)
    have hr2 := rN_lt (Gd_w r2)
    rw [E_Model_keeps_10, m1, if_pos (by rw [i_lt (by omega) (by omega)]; omega), i_ib (show i < 1001 by omega) (by decide), if_pos rfl, i_cl (show i < 2147483648 by omega), r1]
    have c := lN_cmp (a := rN (s.1 i)) (b := rN h) (by omega) (by omega)
    by_cases z : rN (s.1 i) = rN h
    · rw [if_pos (c.mpr z), adS_n (fun y => y.2 ⟨i, by omega, Gd_i wf r2 g z⟩), decide_eq_true (show s.2 ≤ 1000 by omega)]
      exact ⟨N, rfl, ⟨m1, m2, m3⟩, fr10_r⟩
    · rw [if_neg (fun y => z (c.mp y)), nI_1]
      refine ih (i + 1) (by omega) (fun k hk => ?_)
      by_cases y : k = i
      · subst y
        exact fun e => z (rN_e e)
      · exact hA k (by omega)
theorem P_mKeep {sc : Nat × (Nat → Int32)} {a : Nat → Nat → Int32} {N : sm_M} {s : (Nat → Nat → Nat) × Nat} {h : Nat → Nat} (wf : wfA a) (m : MT a N s) (hs : s.2 < 1001) (g : Gd a h) (r : rdN N h) : ∃ N', dn sc kModel_keeps 0 [.inr (.inr (10, 0, 0))] [] N = some (0, .inl (bI (decide ((adS s h).2 ≤ 1000))), N') ∧ MT a N' (adS s h) ∧ fr10 N N' := by
  rw [P_mKp r (Gd_w g)]
  exact P_mKeep10 wf m hs g s.2 0 (by omega) (fun k hk => absurd hk (Nat.not_lt_zero _))
