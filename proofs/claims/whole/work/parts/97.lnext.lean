/-! LEVEL B: layouts: the class's questions of a layout -/
theorem l6 (p : Nat) : nI p * 6 = nI (6 * p) := by rw [show (6 : Int32) = nI 6 from rfl, i_mul, Nat.mul_comm]
theorem lSpot {h : Nat → Nat} (d : dgs h) {p : Nat} (hp : p < 3) : ((((lN (eN h)).toUInt64 >>> ((nI p * 6).toInt64.toUInt64 &&& Int64.toUInt64 63)).toInt64).toInt32 &&& 31) = nI (h p % 32) := by
  have := eN_lt d
  have e := eN_d d p (by omega)
  rw [l6, lN_sr (by omega) (by omega), lN_i, show (31 : Int32) = nI (2 ^ 5 - 1) from rfl, i_mask (by decide), show 2 ^ 5 = 32 from rfl]
  rw [show eN h / 2 ^ (6 * p) % 32 = h p % 32 by rw [← e]; omega]
theorem a32 {x y : Nat} (h : x % 64 = y) : (x &&& 32 = 0) = (y / 32 = 0) := by
  have e : x &&& 32 = y &&& 32 := by
    rw [← h, show (64 : Nat) = 2 ^ 6 from rfl, ← Nat.and_two_pow_sub_one_eq_mod, Nat.and_assoc]; rfl
  rw [e]
  have hy : y < 64 := by omega
  exact (by decide +kernel : ∀ y, y < 64 → (y &&& 32 = 0) = (y / 32 = 0)) y hy
theorem P_lEnd {sc : Nat × (Nat → Int32)} {M : sm_M} {h : Nat → Nat} (d : dgs h) {p : Nat} (hp : p < 3) : dn sc kLayouts_hasEnded 0 [.inr (.inl (lN (eN h))), .inl (nI p)] [] M = some (0, .inl (bI (!decide (h p / 32 = 0))), M) := by
  have := eN_lt d
  have e := eN_d d p (by omega)
  have hb : eN h / 2 ^ (6 * p) ≤ eN h := Nat.div_le_self _ _
  have hb2 : eN h / 2 ^ (6 * p) &&& 32 ≤ 32 := Nat.and_le_right
  rw [E_Layouts_hasEnded_0, l6, lN_sr (by omega) (by omega), show (32 : Int64) = lN 32 from rfl, lN_and, show (0 : Int64) = lN 0 from rfl]
  have c := lN_cmp (a := eN h / 2 ^ (6 * p) &&& 32) (b := 0) (by omega) (by decide)
  rw [a32 e] at c
  by_cases z : h p / 32 = 0
  · rw [if_pos (c.mpr z), decide_eq_true z]; rfl
  · rw [if_neg (fun y => z (c.mp y)), decide_eq_false z]; rfl
theorem P_lAll1 {sc : Nat × (Nat → Int32)} {M : sm_M} {h : Nat → Nat} (d : dgs h) : ∀ n i, i + n = 3 → dn sc kLayouts_allEnded 1 [.inr (.inl (lN (eN h))), .inl (nI i)] [] M = some (0, .inl (bI ((List.range' i n).all (fun p => !decide (h p / 32 = 0)))), M) := by
  intro n
  induction n with
  | zero =>
    intro i hi
    obtain rfl : i = 3 := by omega
    rw [E_Layouts_allEnded_1, if_neg (by decide)]; rfl
  | succ n ih =>
    intro i hi
    rw [E_Layouts_allEnded_1, show (3 : Int32) = nI 3 from rfl, if_pos (by rw [i_lt (by omega) (by decide)]; omega), P_lEnd d (by omega), r1_s, List.range'_succ, List.all_cons, nI_1, ih (i + 1) (by omega)]
    cases (!decide (h i / 32 = 0)) with
    | false => rw [if_pos (show bI false = 0 from rfl)]; rfl
    | true => rw [if_neg (show ¬ bI true = 0 by decide)]; rfl
def allE (h : Nat → Nat) : Bool := (List.range' 0 3).all (fun p => !decide (h p / 32 = 0))
theorem P_lAll {sc : Nat × (Nat → Int32)} {M : sm_M} {h : Nat → Nat} (d : dgs h) : dn sc kLayouts_allEnded 0 [.inr (.inr (5, 0, 0)), .inr (.inl (lN (eN h)))] [] M = some (0, .inl (bI (allE h)), M) := by
  rw [E_Layouts_allEnded_0]
  exact P_lAll1 d 3 0 (by decide)
theorem mvI : ∀ t, t < 33 → ∀ f, f < 33 → (nI t - nI f).toInt64 = lN t - lN f := by decide +kernel
theorem i64_as (x y z : Int64) : x + (y - z) = x + y - z := by rw [Int64.sub_eq_add_neg, Int64.sub_eq_add_neg, Int64.add_assoc]
theorem P_lMoved {sc : Nat × (Nat → Int32)} {M : sm_M} {g : Nat → Nat} {p f t : Nat} (hp : p < 3) (hf : g p = f) (hf3 : f < 33) (ht : t < 33) : dn sc kLayouts_moved 0 [.inr (.inl (lN (eN g))), .inl (nI p), .inl (nI f), .inl (nI t)] [] M = some (0, .inr (.inl (lN (eN (up g p t)))), M) := by
  have e := eN_up (h := g) (v := t) p (by omega)
  rw [hf] at e
  rw [E_Layouts_moved_0, l6, mvI t ht f hf3, lN_sl (by omega), Int64.sub_mul, lN_mul, lN_mul, i64_as, lN_add, ← e, lN_sub (Nat.le_add_left _ _), Nat.add_sub_cancel]
theorem P_lMsg {sc : Nat × (Nat → Int32)} {M : sm_M} {e s : Nat} (he : e < 9223372036854775808) (hs : s < 64) : dn sc kLayouts_messageAt 0 [.inr (.inl (lN e)), .inl (nI s)] [] M = some (0, .inl (nI (e / 2 ^ s % 8)), M) := by
  rw [E_Layouts_messageAt_0, lN_sr he hs, lN_i, show (7 : Int32) = nI (2 ^ 3 - 1) from rfl, i_mask (by decide)]
theorem msg_1 {h : Nat → Nat} (d : dgs h) {j : Nat} (hj : j < 9) : eN h / 2 ^ (6 * j) % 8 = h j % 8 := by
  rw [← eN_d d j hj]; omega
theorem msg_2 {h : Nat → Nat} (d : dgs h) {j : Nat} (hj : j < 9) : eN h / 2 ^ (6 * j + 3) % 8 = h j / 8 := by
  rw [← eN_d d j hj, Nat.pow_add, ← Nat.div_div_eq_div_mul]; omega
theorem P_lShift {sc : Nat × (Nat → Int32)} {a : Nat → Nat → Int32} {M : sm_M} (wf : wfA a) (r : rCh a M) {c p : Nat} (o : ofA a c p = true) : dn sc kLayouts_shiftOf 0 [.inr (.inr (5, 0, 0)), .inl (nI c), .inl (nI p)] [] M = some (0, .inl (nI (6 * (3 + qN a c p))), M) := by
  obtain ⟨c1, c3, p3, _⟩ := of_c wf o
  rw [E_Layouts_shiftOf_0, P_side r c3 p3, r1_s, (of_y wf o).1, if_neg (nI_pos (by split <;> omega)), show (2 : Int32) = nI 2 from rfl, i_mul, nI_add, show (6 : Int32) = nI 6 from rfl, i_mul, show (18 : Int32) = nI 18 from rfl, nI_add]
  have : 18 + 6 * (2 * c + if lA a c = p then 0 else 1) = 6 * (3 + qN a c p) := by unfold qN; omega
  rw [this]
