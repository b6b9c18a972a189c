/-! LEVEL B: the reference's channel -/
theorem okS_w {w x y : Int32} (h : okS w x y = true) : w = 0 ∨ w = 1 ∨ w = 2 ∨ w = 3 ∨ w = 4 := by
  rw [okS_in, Bool.and_eq_true] at h
  obtain ⟨k, hk, rfl⟩ := wN_of (n := 5) (by decide) h.1
  rcases (show k = 0 ∨ k = 1 ∨ k = 2 ∨ k = 3 ∨ k = 4 by omega) with rfl | rfl | rfl | rfl | rfl
  · exact Or.inl rfl
  · exact Or.inr (Or.inl rfl)
  · exact Or.inr (Or.inr (Or.inl rfl))
  · exact Or.inr (Or.inr (Or.inr (Or.inl rfl)))
  · exact Or.inr (Or.inr (Or.inr (Or.inr rfl)))
theorem whS_4 {n i : Nat} {w a b : Nat → Int32} (hn : n < 2147483648) (hi : i < n) (h : w i = 4) : whS n w a b i = true := by
  have e : ∀ way, nxS w a b i way = nI i := fun way => by unfold nxS; rw [if_pos h]
  unfold whS
  rw [e, e, decide_eq_true (by rw [i_lt (by omega) hn]; exact hi)]; rfl
theorem whS_1 {n i : Nat} {w a b : Nat → Int32} (h4 : ¬ w i = 4) (h2 : ¬ w i = 2) (h3 : ¬ w i = 3) : whS n w a b i = decide (b i < nI n) := by
  have e : ∀ way, nxS w a b i way = b i := fun way => by unfold nxS; rw [if_neg h4, if_neg (fun q => q.1.elim h2 h3)]
  unfold whS
  rw [e, e, Bool.and_self]
theorem whS_2 {n i : Nat} {w a b : Nat → Int32} (h4 : ¬ w i = 4) (h : w i = 2 ∨ w i = 3) : whS n w a b i = (decide (a i < nI n) && decide (b i < nI n)) := by
  have e0 : nxS w a b i 0 = a i := by unfold nxS; rw [if_neg h4, if_pos ⟨h, rfl⟩]
  have e1 : nxS w a b i 1 = b i := by unfold nxS; rw [if_neg h4, if_neg (by omega)]
  unfold whS
  rw [e0, e1]
theorem P_mBeyond1 {sc : Nat × (Nat → Int32)} {M : sm_M} {p n : Nat} (hp : p < 3) (h : M.1 10 0 2 p = nI n) (hn : n ≤ 8) (hw : ∀ i, i < n → okS (wA (mA M) p i) (kA (mA M) p i) (bA (mA M) p i) = true) : ∀ (k i : Nat) (u : Bool), i + k = n →
    dn sc kModel_goesBeyond 1 [.inr (.inr (10, 0, 0)), .inl (nI p), .inl (bI u), .inl (nI (8 * p + i))] [] M = some (0, .inl (bI (u || !((List.range' i k).all (whS n (wA (mA M) p) (kA (mA M) p) (bA (mA M) p))))), M) := by
  have e8 : ∀ m, (8 : Int32) * nI p + nI m = nI (8 * p + m) := fun m => by rw [show (8 : Int32) = nI 8 from rfl, i_mul, nI_add]
  intro k
  induction k with
  | zero =>
    intro i u hi
    rw [E_Model_goesBeyond_1, i_ib hp (by decide), if_pos rfl, i_cl (by omega), h, e8, if_neg (by rw [i_lt (by omega) (by omega)]; omega), bI_K, show ((List.range' i 0).all (whS n (wA (mA M) p) (kA (mA M) p) (bA (mA M) p))) = true from rfl, Bool.not_true, Bool.or_false]
  | succ k ih =>
    intro i u hi
    have iT : dn sc kModel_goesBeyond 1 [.inr (.inr (10, 0, 0)), .inl (nI p), .inl 1, .inl (nI (8 * p + (i + 1)))] [] M = some (0, .inl (bI true), M) := (ih (i + 1) true (by omega)).trans (by rw [Bool.true_or])
    have iF := ih (i + 1) false (by omega)
    rw [Bool.false_or] at iF
    have iF : dn sc kModel_goesBeyond 1 [.inr (.inr (10, 0, 0)), .inl (nI p), .inl 0, .inl (nI (8 * p + (i + 1)))] [] M = _ := iF
    have e1 : nI (8 * p + i) + 1 = nI (8 * p + (i + 1)) := by rw [nI_1]; rfl
    rw [E_Model_goesBeyond_1, i_ib hp (by decide), if_pos rfl, i_cl (by omega), h, e8, if_pos (by rw [i_lt (by omega) (by omega)]; omega), List.range'_succ, List.all_cons]
    cases u with
    | true => rw [if_neg (show ¬ bI true = 0 by decide), e1, iT, Bool.true_or]
    | false =>
      rw [if_pos (show bI false = 0 from rfl), i_ib (show 8 * p + i < 24 by omega) (by decide), if_pos rfl, if_pos rfl, if_pos rfl, i_cl (show 8 * p + i < 2147483648 by omega), e1, Bool.false_or]
      have hok := okS_w (hw i (by omega))
      have eW : M.1 10 0 3 (8 * p + i) = wA (mA M) p i := rfl
      have eX : M.1 10 0 4 (8 * p + i) = kA (mA M) p i := rfl
      have eY : M.1 10 0 5 (8 * p + i) = bA (mA M) p i := rfl
      rw [E_Model_goesBeyond_5, i_ib (show 8 * p + i < 24 by omega) (by decide), if_pos rfl, if_pos rfl, if_pos rfl, i_ib hp (by decide), if_pos rfl, i_cl (show 8 * p + i < 2147483648 by omega), i_cl (show p < 2147483648 by omega), h, e1, iT, iF, eW, eX, eY]
      by_cases q4 : wA (mA M) p i = 4
      · rw [if_pos q4, if_neg (by rw [q4]; decide), if_pos q4, whS_4 (by omega) (by omega) q4, Bool.true_and]
      rw [if_neg q4]
      by_cases q : wA (mA M) p i = 2 ∨ wA (mA M) p i = 3
      · rw [whS_2 q4 q, if_neg (show ¬ wA (mA M) p i < 2 by rcases q with q | q <;> rw [q] <;> decide), if_neg q4]
        by_cases qb : bA (mA M) p i < nI n
        · rw [if_pos qb, decide_eq_true qb]
          by_cases qa : kA (mA M) p i < nI n
          · rw [if_pos qa, decide_eq_true qa]; rfl
          · rw [if_neg qa, decide_eq_false qa]; rfl
        · rw [if_neg qb, decide_eq_false qb, Bool.and_false]; rfl
      · have q2 : ¬ wA (mA M) p i = 2 := fun z => q (Or.inl z)
        have q3 : ¬ wA (mA M) p i = 3 := fun z => q (Or.inr z)
        rw [whS_1 q4 q2 q3, if_pos (show wA (mA M) p i < 2 by rcases hok with z | z | z | z | z <;> first | (rw [z]; decide) | exact absurd z q2 | exact absurd z q3 | exact absurd z q4)]
        by_cases qb : bA (mA M) p i < nI n
        · rw [if_pos qb, decide_eq_true qb]; rfl
        · rw [if_neg qb, decide_eq_false qb]; rfl
theorem P_mBeyond {sc : Nat × (Nat → Int32)} {M : sm_M} {p n : Nat} (hp : p < 3) (h : M.1 10 0 2 p = nI n) (hn : n ≤ 8) (hw : ∀ i, i < n → okS (wA (mA M) p i) (kA (mA M) p i) (bA (mA M) p i) = true) : dn sc kModel_goesBeyond 0 [.inr (.inr (10, 0, 0)), .inl (nI p)] [] M = some (0, .inl (bI (!((List.range' 0 n).all (whS n (wA (mA M) p) (kA (mA M) p) (bA (mA M) p))))), M) := by
  rw [E_Model_goesBeyond_0, show (8 : Int32) * nI p = nI (8 * p + 0) by rw [show (8 : Int32) = nI 8 from rfl, i_mul]; rfl]
  exact P_mBeyond1 hp h hn hw n 0 false (by omega)
/-- the reference's cells where a channel was made -/
def mch (M : sm_M) (c : Nat) (p x y : Int32) : sm_M := changed (sm_u (sm_u (sm_u (sm_u (sm_u M 10 0 0 0 0) 10 0 7 c p) 10 0 8 c x) 10 0 9 c y) 10 0 0 5 (nI (c + 1)))
theorem P_mChannel {sc : Nat × (Nat → Int32)} {M : sm_M} (w : wfA (mA M)) (p x y : Int32) :
    (wN p 3 && (wN x 3 && wN y 3)) = false ∧ dn sc kModel_channel 0 [.inr (.inr (10, 0, 0)), .inl p, .inl x, .inl y] [] M = some (0, .inl 0, sm_u M 10 0 0 0 1) ∨
    (∃ q l r', q < 3 ∧ l < 3 ∧ r' < 3 ∧ p = nI q ∧ x = nI l ∧ y = nI r' ∧
      (l = r' ∧ dn sc kModel_channel 0 [.inr (.inr (10, 0, 0)), .inl p, .inl x, .inl y] [] M = some (0, .inl 0, sm_u M 10 0 0 0 2) ∨
       l ≠ r' ∧ (decide (cnA (mA M) = 3) || !(((List.range' 0 (pnA (mA M) q)).all (whS (pnA (mA M) q) (wA (mA M) q) (kA (mA M) q) (bA (mA M) q))) && decide (0 < pnA (mA M) q))) = true ∧ dn sc kModel_channel 0 [.inr (.inr (10, 0, 0)), .inl p, .inl x, .inl y] [] M = some (0, .inl 0, sm_u M 10 0 0 0 3) ∨
       l ≠ r' ∧ cnA (mA M) < 3 ∧ (((List.range' 0 (pnA (mA M) q)).all (whS (pnA (mA M) q) (wA (mA M) q) (kA (mA M) q) (bA (mA M) q))) && decide (0 < pnA (mA M) q)) = true ∧
         dn sc kModel_channel 0 [.inr (.inr (10, 0, 0)), .inl p, .inl x, .inl y] [] M = some (0, .inl (nI (cnA (mA M))), mch M (cnA (mA M)) (nI q) (nI l) (nI r')))) := by
  have e1 : ∀ t : Int32, 0 < t → dn sc kModel_channel 14 [.inr (.inr (10, 0, 0)), .inl p, .inl x, .inl y] [.inl t, .inr (.inr (10, 0, 0))] M = some (0, .inl 0, sm_u M 10 0 0 0 t) := by
    intro t ht
    rw [E_Model_channel_14, u_1]
    rw [if_pos (show (10 = 10 ∧ 0 = 0 ∧ 0 = 0 ∧ 0 = 0) by decide), if_pos ht]
  have e5 : dn sc kModel_channel 5 [.inr (.inr (10, 0, 0)), .inl p, .inl x, .inl y] [.inl 0] M = some (0, .inl 0, sm_u M 10 0 0 0 1) := by
    rw [E_Model_channel_5, if_pos rfl]; exact e1 1 (by decide)
  rw [E_Model_channel_0, P_isThird, r1_s, show (!decide (p < 0) && decide (p < 3)) = wN p 3 from rfl, e5]
  cases hp : wN p 3 with
  | false => refine Or.inl ⟨rfl, ?_⟩; rw [if_pos (show bI false = 0 from rfl)]
  | true =>
    rw [if_neg (show ¬ bI true = 0 by decide), P_isThird, r1_s, show (!decide (x < 0) && decide (x < 3)) = wN x 3 from rfl, e5]
    cases hx : wN x 3 with
    | false => refine Or.inl ⟨rfl, ?_⟩; rw [if_pos (show bI false = 0 from rfl)]
    | true =>
      rw [if_neg (show ¬ bI true = 0 by decide), P_isThird, r1_s, show (!decide (y < 0) && decide (y < 3)) = wN y 3 from rfl, e5]
      cases hy : wN y 3 with
      | false => refine Or.inl ⟨rfl, ?_⟩; rw [if_pos (show bI false = 0 from rfl)]
      | true =>
        obtain ⟨q, hq, rfl⟩ := wN_of (n := 3) (by decide) hp
        obtain ⟨l, hl, rfl⟩ := wN_of (n := 3) (by decide) hx
        obtain ⟨r', hr, rfl⟩ := wN_of (n := 3) (by decide) hy
        refine Or.inr ⟨q, l, r', hq, hl, hr, rfl, rfl, rfl, ?_⟩
        obtain ⟨hpn, hp8, hok⟩ := w.1 q hq
        have hcn : M.1 10 0 0 5 = nI (cnA (mA M)) := w.2.2.1
        have hc3 := w.2.2.2.1
        have hpn' : M.1 10 0 2 q = nI (pnA (mA M) q) := hpn
        rw [if_neg (show ¬ bI true = 0 by decide), E_Model_channel_5, if_neg (show ¬ (1 : Int32) = 0 by decide)]
        by_cases e : l = r'
        · refine Or.inl ⟨e, ?_⟩
          rw [if_pos (by rw [e])]; exact e1 2 (by decide)
        rw [if_neg (by rw [i_eq (by omega) (by omega)]; exact e), hcn, show (3 : Int32) = nI 3 from rfl]
        by_cases c3 : cnA (mA M) = 3
        · refine Or.inr (Or.inl ⟨e, by rw [decide_eq_true c3]; rfl, ?_⟩)
          rw [if_pos (by rw [c3])]; exact e1 3 (by decide)
        rw [if_neg (by rw [i_eq (by omega) (by omega)]; exact c3), decide_eq_false c3, Bool.false_or, show nI 3 = (3 : Int32) from rfl, i_ib hq (by decide), if_pos rfl, i_cl (by omega), hpn', show (0 : Int32) = nI 0 from rfl]
        by_cases p0 : pnA (mA M) q = 0
        · refine Or.inr (Or.inl ⟨e, by rw [p0]; rfl, ?_⟩)
          rw [if_pos (by rw [p0])]; exact e1 3 (by decide)
        rw [if_neg (by rw [i_eq (by omega) (by omega)]; exact p0), P_mBeyond hq hpn' hp8 hok, r1_s, decide_eq_true (show 0 < pnA (mA M) q by omega), Bool.and_true]
        cases hw : ((List.range' 0 (pnA (mA M) q)).all (whS (pnA (mA M) q) (wA (mA M) q) (kA (mA M) q) (bA (mA M) q))) with
        | false =>
          refine Or.inr (Or.inl ⟨e, rfl, ?_⟩)
          rw [if_neg (show ¬ bI (!false) = nI 0 by decide)]; exact e1 3 (by decide)
        | true =>
          refine Or.inr (Or.inr ⟨e, by omega, rfl, ?_⟩)
          rw [if_pos (show bI (!true) = nI 0 from rfl), E_Model_channel_14]
          simp only [u_1, Nat.reduceEqDiff, false_and, and_false, if_false, hcn, i_ib (show cnA (mA M) < 3 by omega) (by decide), if_true, i_cl (show cnA (mA M) < 2147483648 by omega), true_and, and_true, nI_1, nI_pred, E_Model_changed_0, r0_s]
          rw [if_neg (show ¬ (0 : Int32) < nI 0 by decide)]; rfl
