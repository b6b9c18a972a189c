/-! LEVEL B: op and unop on both sides -/
def opA (a : Nat → Nat → Int32) (k n : Nat) (w x y : Int32) : Nat → Nat → Int32 := fun j i => if j = 10 ∧ i = k then nI (n + 1) else if j = 11 ∧ i = 16 * k + n then w else if j = 12 ∧ i = 16 * k + n then x else if j = 13 ∧ i = 16 * k + n then y else a j i
theorem opA_o {a : Nat → Nat → Int32} {k n : Nat} {w x y : Int32} {j i : Nat} (h : j < 10) : opA a k n w x y j i = a j i := by
  unfold opA
  rw [if_neg (by omega), if_neg (by omega), if_neg (by omega), if_neg (by omega)]
theorem opA_n {a : Nat → Nat → Int32} {k n : Nat} {w x y : Int32} {p : Nat} (hn : n < 16) : onA (opA a k n w x y) p = if p = k then n + 1 else onA a p := by
  unfold onA opA
  by_cases q : p = k
  · rw [if_pos ⟨rfl, q⟩, if_pos q, i_cl (by omega)]
  · rw [if_neg (by omega), if_neg (by omega), if_neg (by omega), if_neg (by omega), if_neg q]
theorem opA_w {a : Nat → Nat → Int32} {k n : Nat} {w x y : Int32} {p i : Nat} (hn : n < 16) (hi : i < 16) : opW (opA a k n w x y) p i = if p = k ∧ i = n then w else opW a p i := by
  unfold opW opA
  rw [if_neg (by omega)]
  by_cases q : p = k ∧ i = n
  · rw [if_pos ⟨rfl, by omega⟩, if_pos q]
  · rw [if_neg (by omega), if_neg (by omega), if_neg (by omega), if_neg q]
theorem opA_x {a : Nat → Nat → Int32} {k n : Nat} {w x y : Int32} {p i : Nat} (hn : n < 16) (hi : i < 16) : opX (opA a k n w x y) p i = if p = k ∧ i = n then x else opX a p i := by
  unfold opX opA
  rw [if_neg (by omega), if_neg (by omega)]
  by_cases q : p = k ∧ i = n
  · rw [if_pos ⟨rfl, by omega⟩, if_pos q]
  · rw [if_neg (by omega), if_neg (by omega), if_neg q]
theorem opA_y {a : Nat → Nat → Int32} {k n : Nat} {w x y : Int32} {p i : Nat} (hn : n < 16) (hi : i < 16) : opY (opA a k n w x y) p i = if p = k ∧ i = n then y else opY a p i := by
  unfold opY opA
  rw [if_neg (by omega), if_neg (by omega), if_neg (by omega)]
  by_cases q : p = k ∧ i = n
  · rw [if_pos ⟨rfl, by omega⟩, if_pos q]
  · rw [if_neg (by omega), if_neg q]
/-- memories of the reference that are alike but for ops tell the same protocols and channels -/
def lowE (a b : Nat → Nat → Int32) : Prop := ∀ j, j < 10 → b j = a j
theorem rP_low {a b : Nat → Nat → Int32} {M : sm_M} (e : lowE a b) (r : (∀ p, p < 3 → rP M p (pnA a p) (wA a p) (kA a p) (bA a p)) ∧ rCh a M) : (∀ p, p < 3 → rP M p (pnA b p) (wA b p) (kA b p) (bA b p)) ∧ rCh b M := by
  unfold rCh rCh1 askA cnA prA lA rA pnA wA kA bA at r ⊢
  rw [e 0 (by decide), e 2 (by decide), e 3 (by decide), e 4 (by decide), e 5 (by decide), e 7 (by decide), e 8 (by decide), e 9 (by decide)]
  exact r
theorem opA_low {a : Nat → Nat → Int32} {k n : Nat} {w x y : Int32} : lowE a (opA a k n w x y) := fun j h => by funext i; exact opA_o h
/-- the class's memory behind op -/
def opC (M : sm_M) (k n : Nat) (w x y : Int32) : sm_M := sm_u (sm_u (sm_u (sm_u (forgets M k) 2 k 1 n w) 2 k 2 n x) 2 k 3 n y) 2 k 0 3 (nI (n + 1))
theorem rTel_op {a : Nat → Nat → Int32} {M : sm_M} (r : rTel a M) {k : Nat} {w x y : Int32} (hk : k < 3) (hn : onA a k < 16) : rTel (opA a k (onA a k) w x y) (opC M k (onA a k) w x y) := by
  obtain ⟨r1, r2, r3⟩ := r
  obtain ⟨l1, l2⟩ := rP_low (opA_low (k := k) (n := onA a k) (w := w) (x := x) (y := y)) ⟨r1, r3⟩
  refine ⟨l1, fun p hp => ?_, l2⟩
  obtain ⟨x1, x2, x3⟩ := r2 p hp
  unfold rK opC forgets
  simp only [u_1, Nat.reduceEqDiff, and_false, false_and, and_true, true_and, if_false, opA_n hn]
  by_cases q : p = k
  · subst q
    rw [if_pos rfl, if_pos rfl]
    refine ⟨rfl, by omega, fun i hi => ?_⟩
    rw [opA_w hn (by omega), opA_x hn (by omega), opA_y hn (by omega)]
    by_cases qi : i = onA a p
    · rw [if_pos ⟨rfl, qi⟩, if_pos ⟨rfl, qi⟩, if_pos ⟨rfl, qi⟩, if_pos ⟨rfl, qi⟩, if_pos ⟨rfl, qi⟩, if_pos ⟨rfl, qi⟩]
      exact ⟨rfl, rfl, rfl⟩
    · rw [if_neg (fun z => qi z.2), if_neg (fun z => qi z.2), if_neg (fun z => qi z.2), if_neg (fun z => qi z.2), if_neg (fun z => qi z.2), if_neg (fun z => qi z.2)]
      exact x3 i (by omega)
  · rw [if_neg q, if_neg q]
    refine ⟨x1, x2, fun i hi => ?_⟩
    rw [opA_w hn (by omega), opA_x hn (by omega), opA_y hn (by omega), if_neg (fun z => q z.1), if_neg (fun z => q z.1), if_neg (fun z => q z.1), if_neg (fun z => q z.1), if_neg (fun z => q z.1), if_neg (fun z => q z.1)]
    exact x3 i hi
theorem wfA_low {a b : Nat → Nat → Int32} (e : lowE a b) (wf : wfA a) (h : ∀ p, p < 3 → b 10 p = nI (onA b p) ∧ onA b p ≤ 16 ∧ ∀ i, i < onA b p → okO (opW b p i) (opX b p i) (opY b p i) = true) : wfA b := by
  obtain ⟨w1, _, w3⟩ := wf
  have w0 := And.intro w1 w3
  have w' : (∀ p, p < 3 → b 2 p = nI (pnA b p) ∧ pnA b p ≤ 8 ∧ ∀ i, i < pnA b p → okS (wA b p i) (kA b p i) (bA b p i) = true) ∧ b 0 5 = nI (cnA b) ∧ cnA b ≤ 3 ∧ ∀ c, c < cnA b → b 7 c = nI (prA b c) ∧ b 8 c = nI (lA b c) ∧ b 9 c = nI (rA b c) ∧ prA b c < 3 ∧ lA b c < 3 ∧ rA b c < 3 ∧ lA b c ≠ rA b c ∧ 0 < pnA b (prA b c) ∧ ∀ i, i < pnA b (prA b c) → whS (pnA b (prA b c)) (wA b (prA b c)) (kA b (prA b c)) (bA b (prA b c)) i = true := by
    unfold cnA prA lA rA pnA wA kA bA at w0 ⊢
    rw [e 0 (by decide), e 2 (by decide), e 3 (by decide), e 4 (by decide), e 5 (by decide), e 7 (by decide), e 8 (by decide), e 9 (by decide)]
    exact w0
  exact ⟨w'.1, h, w'.2⟩
theorem wfA_op {a : Nat → Nat → Int32} (wf : wfA a) {k : Nat} {w x y : Int32} (hk : k < 3) (hn : onA a k < 16) (ho : okO w x y = true) : wfA (opA a k (onA a k) w x y) := by
  refine wfA_low opA_low wf (fun p hp => ?_)
  obtain ⟨x1, x2, x3⟩ := wf.2.1 p hp
  rw [opA_n hn]
  by_cases q : p = k
  · subst q
    rw [if_pos rfl]
    refine ⟨by unfold opA; rw [if_pos ⟨rfl, rfl⟩], by omega, fun i hi => ?_⟩
    rw [opA_w hn (by omega), opA_x hn (by omega), opA_y hn (by omega)]
    by_cases qi : i = onA a p
    · rw [if_pos ⟨rfl, qi⟩, if_pos ⟨rfl, qi⟩, if_pos ⟨rfl, qi⟩]; exact ho
    · rw [if_neg (fun z => qi z.2), if_neg (fun z => qi z.2), if_neg (fun z => qi z.2)]
      exact x3 i (by omega)
  · rw [if_neg q]
    refine ⟨?_, x2, fun i hi => ?_⟩
    · unfold opA
      rw [if_neg (by omega), if_neg (by omega), if_neg (by omega), if_neg (by omega)]
      exact x1
    · rw [opA_w hn (by omega), opA_x hn (by omega), opA_y hn (by omega), if_neg (fun z => q z.1), if_neg (fun z => q z.1), if_neg (fun z => q z.1)]
      exact x3 i hi
/-- the reference's memory behind op -/
def opM (N : sm_M) (k n : Nat) (w x y : Int32) : sm_M := changed (sm_u (sm_u (sm_u (sm_u (sm_u N 10 0 0 0 0) 10 0 11 (16 * k + n) w) 10 0 12 (16 * k + n) x) 10 0 13 (16 * k + n) y) 10 0 10 k (nI (n + 1)))
theorem opM_telE {N : sm_M} {k n : Nat} {w x y : Int32} : telE (opA (mA N) k n w x y) (mA (opM N k n w x y)) := by
  refine ⟨?_, fun j h2 h13 => ?_⟩
  · rw [opA_o (by decide)]; rfl
  · funext i
    unfold mA opM opA changed
    rcases (show j = 2 ∨ j = 3 ∨ j = 4 ∨ j = 5 ∨ j = 6 ∨ j = 7 ∨ j = 8 ∨ j = 9 ∨ j = 10 ∨ j = 11 ∨ j = 12 ∨ j = 13 by omega) with rfl | rfl | rfl | rfl | rfl | rfl | rfl | rfl | rfl | rfl | rfl | rfl
    all_goals simp only [u_1, Nat.reduceEqDiff, true_and, false_and, if_false]
theorem S_op {sc : Nat × (Nat → Int32)} {M : sm_M} (r : rTel (mA M) M) (wf : wfA (mA M)) (p w x y : Int32) :
    (∃ e, e < 3 ∧ dn sc kTop_op 0 [.inr (.inr (9, 0, 0)), .inl p, .inl w, .inl x, .inl y] [] M = some (e + 1, .inl 0, M) ∧ ∀ N, eqT M N → dn sc kModel_op 0 [.inr (.inr (10, 0, 0)), .inl p, .inl w, .inl x, .inl y] [] N = some (0, .inl 0, sm_u N 10 0 0 0 (nI (e + 1)))) ∨
    (∃ k n, k < 3 ∧ n < 16 ∧ n = onA (mA M) k ∧ dn sc kTop_op 0 [.inr (.inr (9, 0, 0)), .inl p, .inl w, .inl x, .inl y] [] M = some (0, .inl (nI n), opC M k n w x y) ∧ ∀ N, eqT (opC M k n w x y) N → dn sc kModel_op 0 [.inr (.inr (10, 0, 0)), .inl p, .inl w, .inl x, .inl y] [] N = some (0, .inl (nI n), opM N k n w x y) ∧ rTel (mA (opM N k n w x y)) (opM N k n w x y) ∧ wfA (mA (opM N k n w x y))) := by
  have hs : ∀ N, mA N = mA M → ∀ k, k < 3 → p = nI k → ∃ m, m ≤ 16 ∧ N.1 10 0 10 k = nI m := fun N e k hk _ => ⟨onA (mA M) k, (wf.2.1 k hk).2.1, (show mA N 10 k = _ by rw [e]; exact (wf.2.1 k hk).1)⟩
  cases hp : wN p 3 with
  | false =>
    refine Or.inl ⟨0, by decide, by rw [P_tOp r, if_pos hp], fun N hN => ?_⟩
    rw [P_mOp (hs N (eqT_mA hN)), if_pos hp]; rfl
  | true =>
    have hp' : ¬ wN p 3 = false := by rw [hp]; decide
    cases ho : okO w x y with
    | false =>
      refine Or.inl ⟨1, by decide, by rw [P_tOp r, if_neg hp', if_pos ho], fun N hN => ?_⟩
      rw [P_mOp (hs N (eqT_mA hN)), if_neg hp', if_pos ho]; rfl
    | true =>
      have ho' : ¬ okO w x y = false := by rw [ho]; decide
      obtain ⟨k, hk, rfl⟩ := wN_of (n := 3) (by decide) hp
      obtain ⟨w1, w2, w3⟩ := wf.2.1 k hk
      have ek : (nI k).toNatClampNeg = k := i_cl (by omega)
      have e2 : ∀ N, mA N = mA M → N.1 10 0 10 k = nI (onA (mA M) k) := fun N e => (show mA N 10 k = _ by rw [e]; exact w1)
      by_cases q : onA (mA M) k = 16
      · refine Or.inl ⟨2, by decide, by rw [P_tOp r, if_neg hp', if_neg ho', ek, if_pos q], fun N hN => ?_⟩
        rw [P_mOp (hs N (eqT_mA hN)), if_neg hp', if_neg ho', ek, e2 N (eqT_mA hN), if_pos (by rw [q]; rfl)]; rfl
      · have h16 : onA (mA M) k < 16 := by omega
        refine Or.inr ⟨k, onA (mA M) k, hk, h16, rfl, by rw [P_tOp r, if_neg hp', if_neg ho', ek, if_neg q]; rfl, fun N hN => ?_⟩
        have hm : mA N = mA M := (eqT_mA hN).trans (show mA (opC M k (onA (mA M) k) w x y) = mA M from rfl)
        refine ⟨?_, ?_, ?_⟩
        · rw [P_mOp (hs N hm), if_neg hp', if_neg ho', ek, e2 N hm, if_neg (show ¬ nI (onA (mA M) k) = 16 by rw [show (16 : Int32) = nI 16 from rfl, i_eq (by omega) (by decide)]; exact q), i_cl (show onA (mA M) k < 2147483648 by omega), nI_1]; rfl
        · refine rTel_a opM_telE ?_
          rw [hm]
          exact rTel_M (rTel_op r hk h16) (hN 1 (by decide)).1 (hN 2 (by decide)).1 (hN 8 (by decide)).1
        · refine wfA_a opM_telE ?_
          rw [hm]
          exact wfA_op wf hk h16 ho
