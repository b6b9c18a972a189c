/-! LEVEL B: the reference's channel -/
theorem okS_w {w x y : Int32} (h : okS w x y = true) : w = 0 ∨ w = 1 ∨ w = 2 ∨ w = 3 ∨ w = 4 := by
  rw [okS_in, Bool.and_eq_true] at h
  obtain ⟨k, hk, rfl⟩ := wN_of (n := 5) (by decide) h.1
  rcases (show k = 0 ∨ k = 1 ∨ k = 2 ∨ k = 3 ∨ k = 4 by omega) with rfl | rfl | rfl | rfl | rfl
  · exact Or.inl rfl
  · exact Or.inr (Or.inl rfl)
  · exact Or.inr (Or.inr (Or.inl rfl))
  · exact Or.inr (Or.inr (Or.inr (Or.inl rfl)))
  · exact Or.inr (Or.inr (Or.inr (Or.inr rfl)))
theorem whS_4 {n i : Nat} {w a b : Nat → Int32} (hn : n < 2147483648) (hi : i < n) (h : w i = 4) : whS n w a b i = true := by
  have e : ∀ way, nxS w a b i way = nI i := fun way => by unfold nxS; rw [if_pos h]
  unfold whS
  rw [e, e, decide_eq_true (by rw [i_lt (by omega) hn]; exact hi)]; rfl
theorem whS_1 {n i : Nat} {w a b : Nat → Int32} (h4 : ¬ w i = 4) (h2 : ¬ w i = 2) (h3 : ¬ w i = 3) : whS n w a b i = decide (b i < nI n) := by
  have e : ∀ way, nxS w a b i way = b i := fun way => by unfold nxS; rw [if_neg h4, if_neg (fun q => q.1.elim h2 h3)]
  unfold whS
  rw [e, e, Bool.and_self]
theorem whS_2 {n i : Nat} {w a b : Nat → Int32} (h4 : ¬ w i = 4) (h : w i = 2 ∨ w i = 3) : whS n w a b i = (decide (a i < nI n) && decide (b i < nI n)) := by
  have e0 : nxS w a b i 0 = a i := by unfold nxS; rw [if_neg h4, if_pos ⟨h, rfl⟩]
  have e1 : nxS w a b i 1 = b i := by unfold nxS; rw [if_neg h4, if_neg (by omega)]
  unfold whS
  rw [e0, e1]
theorem P_mBeyond1 {sc : Nat × (Nat → Int32)} {M : sm_M} {p n : Nat} (hp : p < 3) (h : M.1 10 0 2 p = nI n) (hn : n ≤ 8) (hw : ∀ i, i < n → okS (wA (mA M) p i) (kA (mA M) p i) (bA (mA M) p i) = true) : ∀ (k i : Nat) (u : Bool), i + k = n →
    dn sc kModel_goesBeyond 1 [.inr (.inr (10, 0, 0)), .inl (nI p), .inl (bI u), .inl (nI (8 * p + i))] [] M = some (0, .inl (bI (u || !((List.range' i k).all (whS n (wA (mA M) p) (kA (mA M) p) (bA (mA M) p))))), M) := by
  have e8 : ∀ m, (8 : Int32) * nI p + nI m = nI (8 * p + m) := fun m => by rw [show (8 : Int32) = nI 8 from rfl, i_mul, nI_add]
  intro k
  induction k with
  | zero =>
    intro i u hi
    rw [E_Model_goesBeyond_1, i_ib hp (by decide), if_pos rfl, i_cl (by omega), h, e8, if_neg (by rw [i_lt (by omega) (by omega)]; omega), bI_K, show ((List.range' i 0).all (whS n (wA (mA M) p) (kA (mA M) p) (bA (mA M) p))) = true from rfl, Bool.not_true, Bool.or_false]
  | succ k ih =>
    intro i u hi
    have iT : dn sc kModel_goesBeyond 1 [.inr (.inr (10, 0, 0)), .inl (nI p), .inl 1, .inl (nI (8 * p + (i + 1)))] [] M = some (0, .inl (bI true), M) := (ih (i + 1) true (by omega)).trans (by rw [Bool.true_or])
    have iF := ih (i + 1) false (by omega)
    rw [Bool.false_or] at iF
    have iF : dn sc kModel_goesBeyond 1 [.inr (.inr (10, 0, 0)), .inl (nI p), .inl 0, .inl (nI (8 * p + (i + 1)))] [] M = _ := iF
    have e1 : nI (8 * p + i) + 1 = nI (8 * p + (i + 1)) := by rw [nI_1]; rfl
    rw [E_Model_goesBeyond_1, i_ib hp (by decide), if_pos rfl, i_cl (by omega), h, e8, if_pos (by rw [i_lt (by omega) (by omega)]; omega), List.range'_succ, List.all_cons]
    cases u with
    | true => rw [if_neg (show ¬ bI true = 0 by decide), e1, iT, Bool.true_or]
    | false =>
      rw [if_pos (show bI false = 0 from rfl), i_ib (show 8 * p + i < 24 by omega) (by decide), if_pos rfl, if_pos rfl, if_pos rfl, i_cl (show 8 * p + i < 2147483648 by omega), e1, Bool.false_or]
      have hok := okS_w (hw i (by omega))
      have eW : M.1 10 0 3 (8 * p + i) = wA (mA M) p i := rfl
      have eX : M.1 10 0 4 (8 * p + i) = kA (mA M) p i := rfl
      have eY : M.1 10 0 5 (8 * p + i) = bA (mA M) p i := rfl
      rw [E_Model_goesBeyond_5, i_ib (show 8 * p + i < 24 by omega) (by decide), if_pos rfl, if_pos rfl, if_pos rfl, i_ib hp (by decide), if_pos rfl, i_cl (show 8 * p + i < 2147483648 by omega), i_cl (show p < 2147483648 by omega), h, e1, iT, iF, eW, eX, eY]
      by_cases q4 : wA (mA M) p i = 4
      · rw [if_pos q4, if_neg (by rw [q4]; decide), if_pos q4, whS_4 (by omega) (by omega) q4, Bool.true_and]
      rw [if_neg q4]
      by_cases q : wA (mA M) p i = 2 ∨ wA (mA M) p i = 3
      · rw [whS_2 q4 q, if_neg (show ¬ wA (mA M) p i < 2 by rcases q with q | q <;> rw [q] <;> decide), if_neg q4]
        by_cases qb : bA (mA M) p i < nI n
        · rw [if_pos qb, decide_eq_true qb]
          by_cases qa : kA (mA M) p i < nI n
          · rw [if_pos qa, decide_eq_true qa]; rfl
          · rw [if_neg qa, decide_eq_false qa]; rfl
        · rw [if_neg qb, decide_eq_false qb, Bool.and_false]; rfl
      · have q2 : ¬ wA (mA M) p i = 2 := fun z => q (Or.inl z)
        have q3 : ¬ wA (mA M) p i = 3 := fun z => q (Or.inr z)
        rw [whS_1 q4 q2 q3, if_pos (show wA (mA M) p i < 2 by rcases hok with z | z | z | z | z <;> first | (rw [z]; decide) | exact absurd z q2 | exact absurd z q3 | exact absurd z q4)]
        by_cases qb : bA (mA M) p i < nI n
        · rw [if_pos qb, decide_eq_true qb]; rfl
        · rw [if_neg qb, decide_eq_false qb]; rfl
theorem P_mBeyond {sc : Nat × (Nat → Int32)} {M : sm_M} {p n : Nat} (hp : p < 3) (h : M.1 10 0 2 p = nI n) (hn : n ≤ 8) (hw : ∀ i, i < n → okS (wA (mA M) p i) (kA (mA M) p i) (bA (mA M) p i) = true) : dn sc kModel_goesBeyond 0 [.inr (.inr (10, 0, 0)), .inl (nI p)] [] M = some (0, .inl (bI (!((List.range' 0 n).all (whS n (wA (mA M) p) (kA (mA M) p) (bA (mA M) p))))), M) := by
  rw [E_Model_goesBeyond_0, show (8 : Int32) * nI p = nI (8 * p + 0) by rw [show (8 : Int32) = nI 8 from rfl, i_mul]; rfl]
  exact P_mBeyond1 hp h hn hw n 0 false (by omega)
