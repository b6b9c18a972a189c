/-! LEVEL B: bits (a family of the kit's starting texts, then ours), blocks of cells, sums -/
def bt (x : Int32) (i : Nat) : Bool := x.toBitVec.getLsbD i
theorem b_ext {x y : Int32} (h : ∀ i, i < 32 → bt x i = bt y i) : x = y := Int32.toBitVec_inj.mp (BitVec.eq_of_getLsbD_eq (fun i hi => h i hi))
theorem b_or (x y : Int32) (i : Nat) : bt (x ||| y) i = (bt x i || bt y i) := by unfold bt; rw [Int32.toBitVec_or, BitVec.getLsbD_or]
theorem b_and (x y : Int32) (i : Nat) : bt (x &&& y) i = (bt x i && bt y i) := by unfold bt; rw [Int32.toBitVec_and, BitVec.getLsbD_and]
theorem b_xor (x y : Int32) (i : Nat) : bt (x ^^^ y) i = (bt x i ^^ bt y i) := by unfold bt; rw [Int32.toBitVec_xor, BitVec.getLsbD_xor]
theorem b_big {x : Int32} {i : Nat} (h : 32 ≤ i) : bt x i = false := BitVec.getLsbD_of_ge _ _ h
theorem b_m1 : ∀ i, i < 32 → bt (-1) i = true := by decide +kernel
theorem b_0 (i : Nat) : bt 0 i = false := BitVec.getLsbD_zero
theorem s_l : ∀ n, n < 32 → ((nI n &&& 31).toBitVec.smod 32).toNat = n := by decide +kernel
theorem b_shl (n : Nat) (hn : n < 32) (x : Int32) {i : Nat} (hi : i < 32) : bt (x <<< (nI n &&& 31)) i = (decide (n ≤ i) && bt x (i - n)) := by
  unfold bt
  rw [Int32.toBitVec_shiftLeft]
  show (x.toBitVec <<< ((nI n &&& 31).toBitVec.smod 32).toNat).getLsbD i = _
  rw [s_l n hn, BitVec.getLsbD_shiftLeft]
  rcases Nat.lt_or_ge i n with h | h
  · simp [h, Nat.not_le.mpr h]
  · simp [hi, h, Nat.not_lt.mpr h]
theorem b_sshr (n : Nat) (hn : n < 32) (x : Int32) {i : Nat} (hi : i < 32) : bt (x >>> (nI n &&& 31)) i = if n + i < 32 then bt x (n + i) else bt x 31 := by
  unfold bt
  rw [Int32.toBitVec_shiftRight]
  show (x.toBitVec.sshiftRight ((nI n &&& 31).toBitVec.smod 32).toNat).getLsbD i = _
  rw [s_l n hn, BitVec.getLsbD_sshiftRight, BitVec.msb_eq_getLsbD_last]
  simp [hi]
theorem b_1 : ∀ i, i < 32 → bt 1 i = decide (i = 0) := by decide +kernel
/-- asking for a bit -/
theorem b_ask (k : Nat) (hk : k < 31) (x : Int32) : (((x >>> (nI k &&& 31)) &&& 1) = 0) = (bt x k = false) := by
  have e : ∀ i, i < 32 → bt ((x >>> (nI k &&& 31)) &&& 1) i = (decide (i = 0) && bt x k) := by
    intro i hi
    rw [b_and, b_sshr k (by omega) x hi, b_1 i hi]
    by_cases q : i = 0
    · subst q
      rw [if_pos (by omega), decide_eq_true rfl, Bool.and_true, Bool.true_and, Nat.add_zero]
    · rw [decide_eq_false q, Bool.and_false, Bool.false_and]
  refine propext ⟨fun h => ?_, fun h => ?_⟩
  · have := e 0 (by decide)
    rw [h, b_0, decide_eq_true rfl, Bool.true_and] at this
    exact this.symm
  · refine b_ext (fun i hi => ?_)
    rw [e i hi, h, Bool.and_false, b_0]
/-- one bit -/
theorem b_one (k : Nat) (hk : k < 32) {i : Nat} (hi : i < 32) : bt (1 <<< (nI k &&& 31)) i = decide (i = k) := by
  rw [b_shl k hk 1 hi]
  by_cases q : i = k
  · subst q
    rw [decide_eq_true (Nat.le_refl _), Nat.sub_self, b_1 0 (by decide), decide_eq_true rfl, decide_eq_true rfl]; rfl
  · rw [decide_eq_false q]
    by_cases q2 : k ≤ i
    · rw [b_1 (i - k) (by omega), decide_eq_false (show ¬ i - k = 0 by omega), Bool.and_false]
    · rw [decide_eq_false q2, Bool.false_and]
theorem b_set (k : Nat) (hk : k < 32) (x : Int32) {i : Nat} (hi : i < 32) : bt (x ||| (1 <<< (nI k &&& 31))) i = (bt x i || decide (i = k)) := by
  rw [b_or, b_one k hk hi]
theorem b_clr (k : Nat) (hk : k < 32) (x : Int32) {i : Nat} (hi : i < 32) : bt (x &&& ((1 <<< (nI k &&& 31)) ^^^ (-1))) i = (bt x i && !decide (i = k)) := by
  rw [b_and, b_xor, b_one k hk hi, b_m1 i hi, Bool.xor_true]
theorem bI_or0 (u : Bool) : bI u ||| 0 = bI u := by cases u <;> decide
theorem bI_or1 (u : Bool) : bI u ||| 1 = bI true := by cases u <;> decide
/-- cells base .. base + n - 1 of an array are written -/
def blk (M : sm_M) (c p j base n : Nat) (g : Nat → Int32) : sm_M := (fun c' p' j' i' => if (c' = c ∧ p' = p ∧ j' = j) ∧ base ≤ i' ∧ i' < base + n then g (i' - base) else M.1 c' p' j' i', M.2)
theorem blk_1 {M : sm_M} {c p j base n : Nat} {g : Nat → Int32} {c' p' j' i' : Nat} : (blk M c p j base n g).1 c' p' j' i' = if (c' = c ∧ p' = p ∧ j' = j) ∧ base ≤ i' ∧ i' < base + n then g (i' - base) else M.1 c' p' j' i' := rfl
theorem blk_0 {M : sm_M} {c p j base : Nat} {g : Nat → Int32} : blk M c p j base 0 g = M := by
  unfold blk
  refine Prod.ext ?_ rfl
  funext c' p' j' i'
  exact if_neg (by omega)
theorem blk_s {M : sm_M} {c p j base n : Nat} {g : Nat → Int32} : sm_u (blk M c p j base n g) c p j (base + n) (g n) = blk M c p j base (n + 1) g := by
  refine Prod.ext ?_ rfl
  funext c' p' j' i'
  rw [u_1, blk_1, blk_1]
  by_cases q : c' = c ∧ p' = p ∧ j' = j
  · obtain ⟨rfl, rfl, rfl⟩ := q
    by_cases q2 : i' = base + n
    · subst q2
      rw [if_pos ⟨rfl, rfl, rfl, rfl⟩, if_pos ⟨⟨rfl, rfl, rfl⟩, by omega, by omega⟩, Nat.add_sub_cancel_left]
    · rw [if_neg (fun z => q2 z.2.2.2)]
      by_cases q3 : base ≤ i' ∧ i' < base + n
      · rw [if_pos ⟨⟨rfl, rfl, rfl⟩, q3⟩, if_pos ⟨⟨rfl, rfl, rfl⟩, by omega⟩]
      · rw [if_neg (fun z => q3 z.2), if_neg (fun z => by omega)]
  · rw [if_neg (fun z => q ⟨z.1, z.2.1, z.2.2.1⟩), if_neg (fun z => q z.1), if_neg (fun z => q z.1)]
theorem blk_2 {M : sm_M} {c p j base n : Nat} {g : Nat → Int32} : (blk M c p j base n g).2 = M.2 := rfl
theorem blk_in {M : sm_M} {c p j base n : Nat} {g : Nat → Int32} {t : Nat} (h : t < n) : (blk M c p j base n g).1 c p j (base + t) = g t := by
  rw [blk_1, if_pos ⟨⟨rfl, rfl, rfl⟩, by omega, by omega⟩, Nat.add_sub_cancel_left]
theorem blk_no {M : sm_M} {c p j base n : Nat} {g : Nat → Int32} {c' p' j' i' : Nat} (h : ¬ (c' = c ∧ p' = p ∧ j' = j)) : (blk M c p j base n g).1 c' p' j' i' = M.1 c' p' j' i' := by
  rw [blk_1, if_neg (fun z => h z.1)]
theorem blk_out {M : sm_M} {c p j base n : Nat} {g : Nat → Int32} {c' p' j' i' : Nat} (h : i' < base ∨ base + n ≤ i') : (blk M c p j base n g).1 c' p' j' i' = M.1 c' p' j' i' := by
  rw [blk_1, if_neg (fun z => by omega)]
/-- some of the first n -/
def anyN : Nat → (Nat → Bool) → Bool
  | 0, _ => false
  | n + 1, d => anyN n d || d n
theorem anyN_s {n : Nat} {d : Nat → Bool} : anyN (n + 1) d = (anyN n d || d n) := rfl
theorem anyN_t {n : Nat} {d : Nat → Bool} : (anyN n d = true) = ∃ i, i < n ∧ d i = true := by
  induction n with
  | zero => exact propext ⟨fun h => (nomatch h), fun ⟨i, h, _⟩ => absurd h (Nat.not_lt_zero i)⟩
  | succ n ih =>
    unfold anyN
    rw [Bool.or_eq_true, ih]
    refine propext ⟨fun h => ?_, fun h => ?_⟩
    · rcases h with ⟨i, hi, h⟩ | h
      · exact ⟨i, by omega, h⟩
      · exact ⟨n, by omega, h⟩
    · obtain ⟨i, hi, h⟩ := h
      by_cases q : i = n
      · exact Or.inr (q ▸ h)
      · exact Or.inl ⟨i, by omega, h⟩
theorem anyN_f {n : Nat} {d : Nat → Bool} : (anyN n d = false) = ∀ i, i < n → d i = false := by
  refine propext ⟨fun h i hi => ?_, fun h => ?_⟩
  · cases q : d i with
    | false => rfl
    | true => exact absurd (anyN_t.mpr ⟨i, hi, q⟩) (by rw [h]; decide)
  · cases q : anyN n d with
    | false => rfl
    | true =>
      obtain ⟨i, hi, z⟩ := anyN_t.mp q
      rw [h i hi] at z
      cases z
/-- a sum -/
def sumN : Nat → (Nat → Nat) → Nat
  | 0, _ => 0
  | n + 1, f => sumN n f + f n
theorem sumN_s {n : Nat} {f : Nat → Nat} : sumN (n + 1) f = sumN n f + f n := rfl
theorem sumN_le {f g : Nat → Nat} : ∀ {n : Nat}, (∀ i, i < n → f i ≤ g i) → sumN n f ≤ sumN n g := by
  intro n
  induction n with
  | zero => intro _; exact Nat.le_refl _
  | succ n ih =>
    intro h
    exact Nat.add_le_add (ih (fun i hi => h i (by omega))) (h n (by omega))
theorem sumN_lt {f g : Nat → Nat} : ∀ {n k : Nat}, (∀ i, i < n → f i ≤ g i) → k < n → f k < g k → sumN n f < sumN n g := by
  intro n
  induction n with
  | zero => intro k _ h; omega
  | succ n ih =>
    intro k h hk hl
    have h1 := sumN_le (fun i hi => h i (show i < n + 1 by omega)) (n := n)
    have h2 := h n (by omega)
    by_cases q : k = n
    · subst q
      exact Nat.add_lt_add_of_le_of_lt h1 hl
    · exact Nat.add_lt_add_of_lt_of_le (ih (fun i hi => h i (by omega)) (by omega) hl) h2
theorem sumN_eq {f g : Nat → Nat} : ∀ {n : Nat}, (∀ i, i < n → f i = g i) → sumN n f = sumN n g := by
  intro n h
  exact Nat.le_antisymm (sumN_le (fun i hi => Nat.le_of_eq (h i hi))) (sumN_le (fun i hi => Nat.le_of_eq (h i hi).symm))
theorem sumN_bd {f : Nat → Nat} {b : Nat} : ∀ {n : Nat}, (∀ i, i < n → f i ≤ b) → sumN n f ≤ n * b := by
  intro n
  induction n with
  | zero => intro _; exact Nat.zero_le _
  | succ n ih =>
    intro h
    rw [Nat.succ_mul]
    exact Nat.add_le_add (ih (fun i hi => h i (by omega))) (h n (by omega))
/-- one place differs -/
theorem sumN_one {f g : Nat → Nat} : ∀ {n k : Nat}, (∀ i, i < n → i ≠ k → f i = g i) → k < n → sumN n f + g k = sumN n g + f k := by
  intro n
  induction n with
  | zero => intro k _ h; omega
  | succ n ih =>
    intro k h hk
    unfold sumN
    by_cases q : k = n
    · subst q
      rw [sumN_eq (fun i hi => h i (by omega) (by omega))]
      omega
    · have := ih (fun i hi => h i (by omega)) (show k < n by omega)
      have := h n (by omega) (fun z => q z.symm)
      omega
