/-! LEVEL B: the class's channels, told by the reference's cells: a j i is the reference's field cell -/
theorem i_mul (a b : Nat) : nI a * nI b = nI (a * b) := (Int32.ofNat_mul a b).symm
def cnA (a : Nat → Nat → Int32) : Nat := (a 0 5).toNatClampNeg
def prA (a : Nat → Nat → Int32) (c : Nat) : Nat := (a 7 c).toNatClampNeg
def lA (a : Nat → Nat → Int32) (c : Nat) : Nat := (a 8 c).toNatClampNeg
def rA (a : Nat → Nat → Int32) (c : Nat) : Nat := (a 9 c).toNatClampNeg
def pnA (a : Nat → Nat → Int32) (p : Nat) : Nat := (a 2 p).toNatClampNeg
def wA (a : Nat → Nat → Int32) (p s : Nat) : Int32 := a 3 (8 * p + s)
def kA (a : Nat → Nat → Int32) (p s : Nat) : Int32 := a 4 (8 * p + s)
def bA (a : Nat → Nat → Int32) (p s : Nat) : Int32 := a 5 (8 * p + s)
def trn (x : Int32) : Int32 := if x = 0 then 1 else if x = 1 then 0 else if x = 2 then 3 else if x = 3 then 2 else x
/-- what a step asks of a process -/
def askA (a : Nat → Nat → Int32) (c p s : Nat) : Int32 := if s < pnA a (prA a c) then (if p = lA a c then wA a (prA a c) s else if p = rA a c then trn (wA a (prA a c) s) else -1) else -1
def rCh1 (a : Nat → Nat → Int32) (M : sm_M) (c : Nat) : Prop :=
  M.1 1 0 1 c = nI (prA a c) ∧ M.1 1 0 2 c = nI (lA a c) ∧ M.1 1 0 3 c = nI (rA a c) ∧ (prA a c < 3 ∧ lA a c < 3 ∧ rA a c < 3 ∧ lA a c ≠ rA a c ∧ pnA a (prA a c) ≤ 8) ∧
  (∀ p s, p < 3 → s < 8 → M.1 1 0 4 ((c * 3 + p) * 8 + s) = askA a c p s) ∧ (∀ s, s < pnA a (prA a c) → M.1 1 0 5 (c * 8 + s) = kA a (prA a c) s) ∧
  (∀ s way, s < pnA a (prA a c) → way < 2 → M.1 1 0 6 ((c * 8 + s) * 2 + way) = nxS (wA a (prA a c)) (kA a (prA a c)) (bA a (prA a c)) s way)
/-- the class's channels are the reference's -/
def rCh (a : Nat → Nat → Int32) (M : sm_M) : Prop := M.1 1 0 0 6 = nI (cnA a) ∧ cnA a ≤ 3 ∧ (∀ c, c < cnA a → rCh1 a M c) ∧ ∀ c p s, cnA a ≤ c → c < 3 → p < 3 → s < 8 → M.1 1 0 4 ((c * 3 + p) * 8 + s) = -1
theorem P_cSize {sc : Nat × (Nat → Int32)} {a : Nat → Nat → Int32} {M : sm_M} (r : rCh a M) : dn sc kChannels_size 0 [.inr (.inr (1, 0, 0))] [] M = some (0, .inl (nI (cnA a)), M) := by
  rw [E_Channels_size_0, r.1]
theorem P_cFull {sc : Nat × (Nat → Int32)} {a : Nat → Nat → Int32} {M : sm_M} (r : rCh a M) : dn sc kChannels_isFull 0 [.inr (.inr (1, 0, 0))] [] M = some (0, .inl (bI (decide (cnA a = 3))), M) := by
  have hc := r.2.1
  rw [E_Channels_isFull_0, ite_0, r.1]
  have h2 : (!decide (nI (cnA a) < 3)) = decide (cnA a = 3) := by
    rw [← decide_not]
    refine decide_eq_decide.mpr ?_
    rw [show (3 : Int32) = nI 3 from rfl, i_lt (by omega) (by decide)]
    omega
  rw [h2]
theorem P_cHave1 {sc : Nat × (Nat → Int32)} {a : Nat → Nat → Int32} {M : sm_M} (r : rCh a M) {p : Nat} (hp : p < 3) : ∀ (k i : Nat), i + k = cnA a → dn sc kChannels_have 1 [.inr (.inr (1, 0, 0)), .inl (nI p), .inl (nI i)] [] M = some (0, .inl (bI ((List.range' i k).any (fun c => prA a c == p))), M) := by
  obtain ⟨h, hc, r, _⟩ := r
  intro k
  induction k with
  | zero =>
    intro i hi
    rw [E_Channels_have_1, h, if_neg (by rw [i_lt (by omega) (by omega)]; omega)]; rfl
  | succ k ih =>
    intro i hi
    have ri := r i (by omega)
    rw [E_Channels_have_1, h, if_pos (by rw [i_lt (by omega) (by omega)]; omega), i_ib (show i < 3 by omega) (by decide), if_pos rfl, i_cl (by omega), ri.1, List.range'_succ, List.any_cons]
    have hpr := ri.2.2.2.1.1
    by_cases q : prA a i = p
    · rw [q, if_pos rfl, beq_self_eq_true]; rfl
    · rw [if_neg (by rw [i_eq (by omega) (by omega)]; exact q), show (1 : Int32) = nI 1 from rfl, nI_add, ih (i + 1) (by omega), beq_eq_false_iff_ne.mpr q]; rfl
theorem P_cHave {sc : Nat × (Nat → Int32)} {a : Nat → Nat → Int32} {M : sm_M} (r : rCh a M) {p : Nat} (hp : p < 3) : dn sc kChannels_have 0 [.inr (.inr (1, 0, 0)), .inl (nI p)] [] M = some (0, .inl (bI ((List.range' 0 (cnA a)).any (fun c => prA a c == p))), M) := by
  rw [E_Channels_have_0]
  exact P_cHave1 r hp (cnA a) 0 (by omega)
/-- 0 for the left process, 1 for the right one, -1 for none -/
def sdA (a : Nat → Nat → Int32) (c p : Nat) : Int32 := if c < cnA a then (if lA a c = p then 0 else if rA a c = p then 1 else -1) else -1
theorem P_side {sc : Nat × (Nat → Int32)} {a : Nat → Nat → Int32} {M : sm_M} (r : rCh a M) {c p : Nat} (hc : c < 3) (hp : p < 3) : dn sc kChannels_sideOf 0 [.inr (.inr (1, 0, 0)), .inl (nI c), .inl (nI p)] [] M = some (0, .inl (sdA a c p), M) := by
  obtain ⟨h, hn, r, _⟩ := r
  rw [E_Channels_sideOf_0, if_neg (nI_pos (by omega)), h]
  unfold sdA
  by_cases q : c < cnA a
  · have rc := r c q
    have hl := rc.2.2.2.1
    rw [if_pos (by rw [i_lt (by omega) (by omega)]; exact q), if_pos q, i_ib hc (by decide), if_pos rfl, i_cl (by omega), rc.2.1, rc.2.2.1]
    by_cases ql : lA a c = p
    · rw [if_pos (by rw [ql]), if_pos ql]
    rw [if_neg (by rw [i_eq (by omega) (by omega)]; exact ql), if_neg ql, if_pos rfl]
    by_cases qr : rA a c = p
    · rw [if_pos (by rw [qr]), if_pos qr]
    rw [if_neg (by rw [i_eq (by omega) (by omega)]; exact qr), if_neg qr]
  · rw [if_neg (by rw [i_lt (by omega) (by omega)]; exact q), if_neg q]
theorem P_side_n {sc : Nat × (Nat → Int32)} {M : sm_M} {p : Int32} : dn sc kChannels_sideOf 0 [.inr (.inr (1, 0, 0)), .inl (-1), .inl p] [] M = some (0, .inl (-1), M) := by
  rw [E_Channels_sideOf_0, if_pos (by decide)]
/-- the process beyond a channel -/
def bdA (a : Nat → Nat → Int32) (c p : Nat) : Int32 := if c < cnA a then (if lA a c = p then nI (rA a c) else if rA a c = p then nI (lA a c) else -1) else -1
theorem P_beyond {sc : Nat × (Nat → Int32)} {a : Nat → Nat → Int32} {M : sm_M} (r : rCh a M) {c p : Nat} (hc : c < 3) (hp : p < 3) : dn sc kChannels_beyond 0 [.inr (.inr (1, 0, 0)), .inl (nI c), .inl (nI p)] [] M = some (0, .inl (bdA a c p), M) := by
  rw [E_Channels_beyond_0, P_side r hc hp, r1_s]
  unfold sdA bdA
  by_cases q : c < cnA a
  · have rc := r.2.2.1 c q
    rw [if_pos q, if_pos q]
    by_cases ql : lA a c = p
    · rw [if_pos ql, if_pos ql, if_neg (by decide), if_pos rfl, i_ib hc (by decide), if_pos rfl, i_cl (by omega), rc.2.2.1]
    rw [if_neg ql, if_neg ql]
    by_cases qr : rA a c = p
    · rw [if_pos qr, if_pos qr, if_neg (by decide), if_neg (by decide), i_ib hc (by decide), if_pos rfl, i_cl (by omega), rc.2.1]
    rw [if_neg qr, if_neg qr, if_pos rfl]
  · rw [if_neg q, if_neg q, if_pos rfl]
/-- a number where a channel may be: its step, -1 or -2 -/
theorem P_asked {sc : Nat × (Nat → Int32)} {a : Nat → Nat → Int32} {M : sm_M} (r : rCh a M) {c p s : Nat} (hc : c < cnA a) (hp : p < 3) (hs : s < 8) : dn sc kChannels_askedOf 0 [.inr (.inr (1, 0, 0)), .inl (nI p), .inl (nI c), .inl (nI s)] [] M = some (0, .inl (askA a c p s), M) := by
  obtain ⟨h, hn, r, _⟩ := r
  have rc := r c hc
  rw [E_Channels_askedOf_0, if_neg (nI_pos (by omega)), show (3 : Int32) = nI 3 from rfl, if_pos (by rw [i_lt (by omega) (by omega)]; exact hp), if_neg (nI_pos (by omega)), h, if_pos (by rw [i_lt (by omega) (by omega)]; exact hc), if_neg (nI_pos (by omega)), show (8 : Int32) = nI 8 from rfl, if_pos (by rw [i_lt (by omega) (by omega)]; exact hs)]
  rw [E_Channels_askedOf_8, if_neg (by decide), show (3 : Int32) = nI 3 from rfl, show (8 : Int32) = nI 8 from rfl, i_mul, nI_add, i_mul, nI_add, i_ib (show (c * 3 + p) * 8 + s < 72 by omega) (by decide), if_pos rfl, i_cl (by omega), rc.2.2.2.2.1 p s hp hs]
theorem P_asked_n {sc : Nat × (Nat → Int32)} {M : sm_M} {p c s : Int32} (h : s < 0) : dn sc kChannels_askedOf 0 [.inr (.inr (1, 0, 0)), .inl p, .inl c, .inl s] [] M = some (0, .inl (-1), M) := by
  have e : dn sc kChannels_askedOf 8 [.inr (.inr (1, 0, 0)), .inl p, .inl c, .inl s] [.inl 0] M = some (0, .inl (-1), M) := by rw [E_Channels_askedOf_8, if_pos rfl]
  rw [E_Channels_askedOf_0, e, if_pos h]
  split
  · rfl
  · split
    · split
      · rfl
      · split <;> rfl
    · rfl
theorem P_asked_c {sc : Nat × (Nat → Int32)} {a : Nat → Nat → Int32} {M : sm_M} (r : rCh a M) {c : Nat} {p s : Int32} (hc : cnA a ≤ c) (hc3 : c < 3) : dn sc kChannels_askedOf 0 [.inr (.inr (1, 0, 0)), .inl p, .inl (nI c), .inl s] [] M = some (0, .inl (-1), M) := by
  have e : dn sc kChannels_askedOf 8 [.inr (.inr (1, 0, 0)), .inl p, .inl (nI c), .inl s] [.inl 0] M = some (0, .inl (-1), M) := by rw [E_Channels_askedOf_8, if_pos rfl]
  rw [E_Channels_askedOf_0, e, r.1, if_neg (show ¬ nI c < nI (cnA a) by rw [i_lt (by omega) (by omega)]; omega)]
  split
  · rfl
  · split
    · split <;> rfl
    · rfl
theorem P_cKind {sc : Nat × (Nat → Int32)} {a : Nat → Nat → Int32} {M : sm_M} (r : rCh a M) {c s : Nat} (hc : c < cnA a) (hs : s < pnA a (prA a c)) : dn sc kChannels_kindAt 0 [.inr (.inr (1, 0, 0)), .inl (nI c), .inl (nI s)] [] M = some (0, .inl (kA a (prA a c) s), M) := by
  obtain ⟨h, hn, r, _⟩ := r
  have rc := r c hc
  have h8 := rc.2.2.2.1.2.2.2.2
  rw [E_Channels_kindAt_0, if_neg (nI_pos (by omega)), h, if_pos (by rw [i_lt (by omega) (by omega)]; exact hc), if_neg (nI_pos (by omega)), show (8 : Int32) = nI 8 from rfl, if_pos (by rw [i_lt (by omega) (by omega)]; omega), i_mul, nI_add, i_ib (show c * 8 + s < 24 by omega) (by decide), if_pos rfl, i_cl (by omega), rc.2.2.2.2.2.1 s hs]
theorem P_cNext {sc : Nat × (Nat → Int32)} {a : Nat → Nat → Int32} {M : sm_M} (r : rCh a M) {c s way : Nat} (hc : c < cnA a) (hs : s < pnA a (prA a c)) (hw : way < 2) : dn sc kChannels_nextAt 0 [.inr (.inr (1, 0, 0)), .inl (nI c), .inl (nI s), .inl (nI way)] [] M = some (0, .inl (nxS (wA a (prA a c)) (kA a (prA a c)) (bA a (prA a c)) s way), M) := by
  obtain ⟨h, hn, r, _⟩ := r
  have rc := r c hc
  have h8 := rc.2.2.2.1.2.2.2.2
  rw [E_Channels_nextAt_0, if_neg (nI_pos (by omega)), h, if_pos (by rw [i_lt (by omega) (by omega)]; exact hc), if_neg (nI_pos (by omega)), show (8 : Int32) = nI 8 from rfl, if_pos (by rw [i_lt (by omega) (by omega)]; omega), if_neg (nI_pos (by omega)), show (2 : Int32) = nI 2 from rfl, if_pos (by rw [i_lt (by omega) (by omega)]; omega)]
  rw [E_Channels_nextAt_8, if_neg (by decide), show (8 : Int32) = nI 8 from rfl, show (2 : Int32) = nI 2 from rfl, i_mul, nI_add, i_mul, nI_add, i_ib (show (c * 8 + s) * 2 + way < 48 by omega) (by decide), if_pos rfl, i_cl (by omega), rc.2.2.2.2.2.2 s way hs hw]
