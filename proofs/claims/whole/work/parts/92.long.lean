/-! LEVEL B: layouts: long numbers -/
theorem lN_or (a b : Nat) : lN a ||| lN b = lN (a ||| b) := Int64.toBitVec_inj.mp (show BitVec.ofNat 64 a ||| BitVec.ofNat 64 b = BitVec.ofNat 64 (a ||| b) from BitVec.ofNat_or.symm)
theorem lN_and (a b : Nat) : lN a &&& lN b = lN (a &&& b) := Int64.toBitVec_inj.mp (show BitVec.ofNat 64 a &&& BitVec.ofNat 64 b = BitVec.ofNat 64 (a &&& b) from BitVec.ofNat_and.symm)
theorem lN_inj {a b : Nat} (ha : a < 9223372036854775808) (hb : b < 9223372036854775808) : (lN a = lN b) = (a = b) := by
  refine propext ⟨fun h => ?_, fun h => by rw [h]⟩
  have h2 := congrArg Int64.toInt h
  unfold lN at h2
  rw [lg_ofNat_toInt (by omega), lg_ofNat_toInt (by omega)] at h2
  omega
theorem lN_m1 {a : Nat} (ha : a < 9223372036854775808) : ¬ lN a = -1 := by
  intro h
  have h2 := congrArg Int64.toInt h
  unfold lN at h2
  rw [lg_ofNat_toInt (by omega), show (-1 : Int64).toInt = -1 from rfl] at h2
  omega
theorem lN_cmp {a b : Nat} (ha : a < 9223372036854775808) (hb : b < 9223372036854775808) : (lg_cmp (lN a) (lN b) = 0) = (a = b) := by
  rw [propext (lg_cmp_eq _ _), lN_inj ha hb]
theorem sh_a : ∀ s, s < 64 → ((nI s).toInt64.toUInt64 &&& Int64.toUInt64 63) = UInt64.ofNat s := by decide +kernel
theorem sh_b : ∀ s, s < 64 → (((nI s).toInt64 &&& 63).toBitVec.smod 64).toNat = s := by decide +kernel
theorem lN_sr {e s : Nat} (he : e < 9223372036854775808) (hs : s < 64) : ((lN e).toUInt64 >>> ((nI s).toInt64.toUInt64 &&& Int64.toUInt64 63)).toInt64 = lN (e / 2 ^ s) := by
  rw [sh_a s hs]
  have h : (UInt64.ofNat e >>> UInt64.ofNat s) = UInt64.ofNat (e / 2 ^ s) := by
    apply UInt64.toNat_inj.mp
    have h1 : e / 2 ^ s ≤ e := Nat.div_le_self _ _
    rw [UInt64.toNat_shiftRight, UInt64.toNat_ofNat', UInt64.toNat_ofNat', UInt64.toNat_ofNat', Nat.mod_eq_of_lt (show e < 2 ^ 64 by omega), Nat.mod_eq_of_lt (show s < 2 ^ 64 by omega), Nat.mod_eq_of_lt (show s < 64 by omega), Nat.mod_eq_of_lt (show e / 2 ^ s < 2 ^ 64 by omega), Nat.shiftRight_eq_div_pow]
  show (UInt64.ofNat e >>> UInt64.ofNat s).toInt64 = _
  rw [h]; rfl
theorem lN_sl {x : Int64} {s : Nat} (hs : s < 64) : x <<< ((nI s).toInt64 &&& 63) = x * lN (2 ^ s) := by
  apply Int64.toBitVec_inj.mp
  show x.toBitVec <<< (((nI s).toInt64 &&& 63).toBitVec.smod 64) = x.toBitVec * BitVec.ofNat 64 (2 ^ s)
  rw [BitVec.shiftLeft_eq', sh_b s hs, BitVec.shiftLeft_eq_mul_twoPow, BitVec.twoPow_eq]
  congr 1
  apply BitVec.eq_of_toNat_eq
  rw [BitVec.toNat_shiftLeft, BitVec.toNat_ofNat, Nat.shiftLeft_eq]
  simp
theorem i_mask {x : Nat} {k : Nat} (hk : k < 32) : nI x &&& nI (2 ^ k - 1) = nI (x % 2 ^ k) := by
  apply Int32.toBitVec_inj.mp
  show BitVec.ofNat 32 x &&& BitVec.ofNat 32 (2 ^ k - 1) = BitVec.ofNat 32 (x % 2 ^ k)
  rw [← BitVec.ofNat_and, Nat.and_two_pow_sub_one_eq_mod]
theorem l_mask {x : Nat} {k : Nat} : lN x &&& lN (2 ^ k - 1) = lN (x % 2 ^ k) := by
  rw [lN_and, Nat.and_two_pow_sub_one_eq_mod]
/-- bits of their own are added -/
theorem or_add {e m s w : Nat} (h : e / 2 ^ s % 2 ^ w = 0) (hm : m < 2 ^ w) : e ||| (m * 2 ^ s) = e + m * 2 ^ s := by
  have e1 : e = 2 ^ (s + w) * (e / 2 ^ (s + w)) + e % 2 ^ s := by
    have a1 := Nat.div_add_mod e (2 ^ s)
    have a2 := Nat.div_add_mod (e / 2 ^ s) (2 ^ w)
    rw [h, Nat.add_zero, Nat.div_div_eq_div_mul, ← Nat.pow_add] at a2
    rw [← a2, ← Nat.mul_assoc, ← Nat.pow_add] at a1
    exact a1.symm
  have hl : e % 2 ^ s < 2 ^ s := Nat.mod_lt _ (Nat.pow_pos (by decide))
  have hl2 : m * 2 ^ s + e % 2 ^ s < 2 ^ (s + w) := by
    rw [Nat.pow_add]
    have : (m + 1) * 2 ^ s ≤ 2 ^ w * 2 ^ s := Nat.mul_le_mul_right _ hm
    rw [Nat.add_mul, Nat.one_mul] at this
    rw [Nat.mul_comm (2 ^ s) (2 ^ w)]
    omega
  have hl3 : e % 2 ^ s < 2 ^ (s + w) := by omega
  generalize e % 2 ^ s = l at *
  generalize e / 2 ^ (s + w) = hi at *
  rw [e1, Nat.two_pow_add_eq_or_of_lt hl3, Nat.or_assoc]
  have h3 : l ||| m * 2 ^ s = m * 2 ^ s + l := by rw [Nat.or_comm, Nat.mul_comm, ← Nat.two_pow_add_eq_or_of_lt hl]
  rw [h3, ← Nat.two_pow_add_eq_or_of_lt hl2, ← Nat.two_pow_add_eq_or_of_lt hl3]
  omega
theorem lN_oa {e m s w : Nat} (h : e / 2 ^ s % 2 ^ w = 0) (hm : m < 2 ^ w) : lN e ||| lN (m * 2 ^ s) = lN (e + m * 2 ^ s) := by rw [lN_or, or_add h hm]
/-- the hash's slot -/
theorem slot_ok (x : Int64) : ∃ k, k < 2048 ∧ ((x.toUInt64 >>> ((53 : Int32).toInt64.toUInt64 &&& Int64.toUInt64 63)).toInt64).toInt32 = nI k := by
  refine ⟨x.toUInt64.toNat / 2 ^ 53, ?_, ?_⟩
  · have : x.toUInt64.toNat < 2 ^ 64 := x.toUInt64.toNat_lt
    rw [Nat.div_lt_iff_lt_mul (by decide)]
    omega
  · rw [show (53 : Int32) = nI 53 from rfl, sh_a 53 (by decide)]
    have h : (x.toUInt64 >>> UInt64.ofNat 53) = UInt64.ofNat (x.toUInt64.toNat / 2 ^ 53) := by
      apply UInt64.toNat_inj.mp
      have h1 : x.toUInt64.toNat < 2 ^ 64 := x.toUInt64.toNat_lt
      have h2 : x.toUInt64.toNat / 2 ^ 53 < 2 ^ 64 := Nat.lt_of_le_of_lt (Nat.div_le_self _ _) h1
      rw [UInt64.toNat_shiftRight, UInt64.toNat_ofNat', UInt64.toNat_ofNat', Nat.mod_eq_of_lt h2, show 53 % 2 ^ 64 % 64 = 53 from rfl, Nat.shiftRight_eq_div_pow]
    rw [h]
    exact lN_i _
