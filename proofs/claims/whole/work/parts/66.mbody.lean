/-! LEVEL B: the run: the variables of a process in the reference -/
def aR (N : sm_M) (j p v : Nat) : Int32 := if v < 6 then N.1 10 0 j (6 * p + v) else 0
theorem aR_i {N : sm_M} {j p v : Nat} (hv : v < 6) : N.1 10 0 j (6 * p + v) = aR N j p v := (if_pos hv).symm
theorem aR_u {N : sm_M} {j p a : Nat} {y : Int32} (ha : a < 6) : aR (sm_u N 10 0 j (6 * p + a) y) j p = upL (aR N j p) a y := by
  funext v
  unfold upL aR
  by_cases z : v = a
  · rw [if_pos z, z, if_pos ha, u_hit]
  · rw [if_neg z]
    by_cases z2 : v < 6
    · rw [if_pos z2, if_pos z2, u_mis (by omega)]
    · rw [if_neg z2, if_neg z2]
theorem aR_j {N : sm_M} {c q j j' i p : Nat} {y : Int32} (h : ¬ (c = 10 ∧ q = 0 ∧ j' = j)) : aR (sm_u N c q j' i y) j p = aR N j p := by
  funext v
  unfold aR
  rw [u_mis (by omega)]
theorem aR_p {N : sm_M} {j p q a : Nat} {y : Int32} (h : ¬ p = q) (ha : a < 6) : aR (sm_u N 10 0 j (6 * q + a) y) j p = aR N j p := by
  funext v
  unfold aR
  by_cases z2 : v < 6
  · rw [if_pos z2, if_pos z2, u_mis (by omega)]
  · rw [if_neg z2, if_neg z2]
theorem aR_fr {S : Nat → Nat → Nat → Nat → Prop} {M N : sm_M} {j p : Nat} (h : frS S M N) (hS : ∀ v, v < 6 → ¬ S 10 0 j (6 * p + v)) : aR N j p = aR M j p := by
  funext v
  unfold aR
  by_cases z : v < 6
  · rw [if_pos z, if_pos z, h.2 _ _ _ _ (hS v z)]
  · rw [if_neg z, if_neg z]
/-- the reference drops a value -/
def dpR (N : sm_M) (x : Int32) : sm_M := if N.1 10 0 0 40 < 200 then sm_u (sm_u N 10 0 42 (N.1 10 0 0 40).toNatClampNeg x) 10 0 0 40 (N.1 10 0 0 40 + 1) else N
theorem P_mAway {sc : Nat × (Nat → Int32)} {N : sm_M} {d : Nat} {x : Int32} (h : N.1 10 0 0 40 = nI d) (hd : d ≤ 200) : dn sc kModel_goesAway 0 [.inr (.inr (10, 0, 0)), .inl x] [] N = some (0, .inl 0, dpR N x) := by
  rw [E_Model_goesAway_0]
  unfold dpR
  by_cases z : d < 200
  · have hl : N.1 10 0 0 40 < 200 := by rw [h, show (200 : Int32) = nI 200 from rfl, i_lt (by omega) (by decide)]; exact z
    have e : (sm_u N 10 0 42 (N.1 10 0 0 40).toNatClampNeg x).1 10 0 0 40 = N.1 10 0 0 40 := u_mis (by omega)
    rw [if_pos hl, if_pos hl, e, h, i_ib z (by decide), if_pos rfl]
  · have hl : ¬ N.1 10 0 0 40 < 200 := by rw [h, show (200 : Int32) = nI 200 from rfl, i_lt (by omega) (by decide)]; exact z
    rw [if_neg hl, if_neg hl]
theorem dpR_c {N : sm_M} {x : Int32} {c p j i : Nat} (h : ¬ (c = 10 ∧ p = 0 ∧ (j = 42 ∨ (j = 0 ∧ i = 40)))) : (dpR N x).1 c p j i = N.1 c p j i := by
  unfold dpR
  split
  · rw [u_mis (by omega), u_mis (by omega)]
  · rfl
theorem dpR_2 {N : sm_M} {x : Int32} : (dpR N x).2 = N.2 := by
  unfold dpR
  split <;> rfl
theorem dpR_a {N : sm_M} {x : Int32} {j p : Nat} (h : ¬ j = 42 ∧ ¬ j = 0) : aR (dpR N x) j p = aR N j p := by
  funext v
  unfold aR
  rw [dpR_c (by omega)]
theorem fsR_hit {P : Nat → Bool} : ∀ {k i j : Nat}, i ≤ j → j < i + k → P j = true → (∀ m, i ≤ m → m < i + k → P m = true → m = j) → fsR k i P = nI j := by
  intro k
  induction k with
  | zero => intro i j h1 h2; omega
  | succ k ih =>
    intro i j h1 h2 h3 h4
    rw [fsR_s]
    by_cases z : P i = true
    · rw [if_pos z, h4 i (Nat.le_refl _) (by omega) z]
    · rw [if_neg z]
      have : i ≠ j := fun y => z (y ▸ h3)
      exact ih (by omega) (by omega) h3 (fun m m1 m2 m3 => h4 m (by omega) (by omega) m3)
theorem fsR_none {P : Nat → Bool} : ∀ {k i : Nat}, (∀ m, i ≤ m → m < i + k → ¬ P m = true) → fsR k i P = -1 := by
  intro k
  induction k with
  | zero => intro i _; rfl
  | succ k ih =>
    intro i h
    rw [fsR_s, if_neg (h i (Nat.le_refl _) (by omega))]
    exact ih (fun m m1 m2 => h m (by omega) (by omega))
theorem P_mOw1 {sc : Nat × (Nat → Int32)} {N : sm_M} {p : Nat} {val : Int32} (hp : p < 3) : ∀ k i, i + k = 6 * p + 6 → dn sc kModel_ownerOf 1 [.inr (.inr (10, 0, 0)), .inl (nI p), .inl val, .inl (nI i)] [] N = some (0, .inl (fsR k i (fun m => decide (N.1 10 0 29 m = 1) && decide (N.1 10 0 30 m = val))), N) := by
  intro k
  have e6 : (6 : Int32) * nI p + 6 = nI (6 * p + 6) := by rw [show (6 : Int32) = nI 6 from rfl, i_mul, nI_add]
  induction k with
  | zero =>
    intro i hi
    rw [E_Model_ownerOf_1, e6, if_neg (by rw [i_lt (by omega) (by omega)]; omega)]; rfl
  | succ k ih =>
    intro i hi
    rw [E_Model_ownerOf_1, e6, if_pos (by rw [i_lt (by omega) (by omega)]; omega), i_ib (show i < 18 by omega) (by decide)]
    simp only [if_true]
    rw [i_cl (by omega), nI_1, ih (i + 1) (by omega), fsR_s]
    by_cases z : N.1 10 0 29 i = 1
    · rw [if_pos z, decide_eq_true z, Bool.true_and]
      by_cases z2 : N.1 10 0 30 i = val
      · rw [if_pos z2, decide_eq_true z2, if_pos rfl]
      · rw [if_neg z2, decide_eq_false z2, if_neg (show ¬ false = true by decide)]
    · rw [if_neg z, decide_eq_false z, Bool.false_and, if_neg (show ¬ false = true by decide)]
/-- the owner of a value: the only one -/
theorem P_mOw {sc : Nat × (Nat → Int32)} {N : sm_M} {p o : Nat} {val : Int32} (hp : p < 3) (ho : o < 6) (h1 : aR N 29 p o = 1) (hx : aR N 30 p o = val) (hu : ∀ m, m < 6 → aR N 29 p m = 1 → aR N 30 p m = val → m = o) : dn sc kModel_ownerOf 0 [.inr (.inr (10, 0, 0)), .inl (nI p), .inl val] [] N = some (0, .inl (nI (6 * p + o)), N) := by
  have h := P_mOw1 (sc := sc) (N := N) (val := val) hp 6 (6 * p) (by omega)
  rw [fsR_hit (j := 6 * p + o) (by omega) (by omega) (by rw [aR_i ho, aR_i ho, h1, hx, decide_eq_true rfl, decide_eq_true rfl]; rfl) (fun m m1 m2 m3 => by
    obtain ⟨w, rfl⟩ : ∃ w, m = 6 * p + w := ⟨m - 6 * p, by omega⟩
    have hw : w < 6 := by omega
    rw [aR_i hw, aR_i hw, Bool.and_eq_true, decide_eq_true_eq, decide_eq_true_eq] at m3
    rw [hu w hw m3.1 m3.2])] at h
  rw [E_Model_ownerOf_0, show (6 : Int32) = nI 6 from rfl, i_mul]
  exact h
theorem P_mOw_n {sc : Nat × (Nat → Int32)} {N : sm_M} {p : Nat} {val : Int32} (hp : p < 3) (hu : ∀ m, m < 6 → aR N 29 p m = 1 → ¬ aR N 30 p m = val) : dn sc kModel_ownerOf 0 [.inr (.inr (10, 0, 0)), .inl (nI p), .inl val] [] N = some (0, .inl (-1), N) := by
  have h := P_mOw1 (sc := sc) (N := N) (val := val) hp 6 (6 * p) (by omega)
  rw [fsR_none (fun m m1 m2 m3 => by
    obtain ⟨w, rfl⟩ : ∃ w, m = 6 * p + w := ⟨m - 6 * p, by omega⟩
    have hw : w < 6 := by omega
    rw [aR_i hw, aR_i hw, Bool.and_eq_true, decide_eq_true_eq, decide_eq_true_eq] at m3
    exact hu w hw m3.1 m3.2)] at h
  rw [E_Model_ownerOf_0, show (6 : Int32) = nI 6 from rfl, i_mul]
  exact h
def uqR (N : sm_M) (p : Nat) : Prop := ∀ v w, v < 6 → w < 6 → aR N 29 p v = 1 → aR N 29 p w = 1 → aR N 30 p v = aR N 30 p w → v = w
theorem P_mHolds {sc : Nat × (Nat → Int32)} {N : sm_M} {p v : Nat} (hp : p < 3) (hv : v < 6) (hu : uqR N p) (h23 : aR N 29 p v = 2 ∨ aR N 29 p v = 3) : ∃ b, dn sc kModel_holdsStill 0 [.inr (.inr (10, 0, 0)), .inl (nI p), .inl (nI (6 * p + v))] [] N = some (0, .inl (bI b), N) ∧ (b = true ↔ hbP (aR N 29 p) (aR N 30 p) (aR N 32 p) (aR N 33 p) (aR N 34 p) (6 * p) v) := by
  have hib : sm_ib (nI (6 * p + v)) 18 = true := i_ib (by omega) (by decide)
  by_cases q : ∃ o, o < 6 ∧ aR N 29 p o = 1 ∧ aR N 30 p o = aR N 30 p v
  · obtain ⟨o, o1, o2, o3⟩ := q
    have ho := P_mOw (sc := sc) hp o1 o2 o3 (fun m m1 m2 m3 => hu m o m1 o1 m2 o2 (m3.trans o3.symm))
    have uo : ∀ m, m < 6 → aR N 29 p m = 1 → aR N 30 p m = aR N 30 p v → m = o := fun m m1 m2 m3 => hu m o m1 o1 m2 o2 (m3.trans o3.symm)
    have hib2 : sm_ib (nI (6 * p + o)) 18 = true := i_ib (by omega) (by decide)
    have e : dn sc kModel_holdsStill 0 [.inr (.inr (10, 0, 0)), .inl (nI p), .inl (nI (6 * p + v))] [] N = if aR N 29 p v = 2 then (if aR N 32 p v < aR N 33 p o then some (0, .inl 0, N) else some (0, .inl 1, N)) else if aR N 34 p o = nI (6 * p + v) then some (0, .inl 1, N) else some (0, .inl 0, N) := by
      rw [E_Model_holdsStill_0, hib, if_pos rfl, i_cl (by omega), aR_i hv, ho, r1_s, if_neg ((by decide : ∀ n, n < 100 → ¬ nI n = -1) _ (by omega)), if_pos rfl, hib2, if_pos rfl, if_pos rfl, if_pos rfl, i_cl (by omega), aR_i hv, aR_i hv, aR_i o1, aR_i o1]
    rcases h23 with g | g
    · refine ⟨!decide (aR N 32 p v < aR N 33 p o), ?_, ?_⟩
      · rw [e, if_pos g, ite_0]
      · rw [Bool.not_eq_true', decide_eq_false_iff_not]
        refine ⟨fun h => ⟨o, o1, o2, o3, fun _ => h, fun y => absurd (g.symm.trans y) i32_0.2.2.2.2.2.2.2.1⟩, fun ⟨o', p1, p2, p3, p4, _⟩ => ?_⟩
        have := uo o' p1 p2 p3
        rw [this] at p4
        exact p4 g
    · refine ⟨decide (aR N 34 p o = nI (6 * p + v)), ?_, ?_⟩
      · rw [e, if_neg (show ¬ aR N 29 p v = 2 by rw [g]; decide), ite_1]
      · rw [decide_eq_true_eq]
        refine ⟨fun h => ⟨o, o1, o2, o3, fun y => absurd (y.symm.trans g) i32_0.2.2.2.2.2.2.2.1, fun _ => h⟩, fun ⟨o', p1, p2, p3, _, p5⟩ => ?_⟩
        have := uo o' p1 p2 p3
        rw [this] at p5
        exact p5 g
  · refine ⟨false, ?_, fun h => absurd h (by decide), fun ⟨o, o1, o2, o3, _⟩ => absurd ⟨o, o1, o2, o3⟩ q⟩
    rw [E_Model_holdsStill_0, hib, if_pos rfl, i_cl (by omega), aR_i hv, P_mOw_n hp (fun m m1 m2 m3 => q ⟨m, m1, m2, m3⟩), r1_s, if_pos rfl]; rfl
/-- the reference's memory behind leaves -/
def leM (N : sm_M) (p a : Nat) : sm_M := sm_u (if aR N 29 p a = 1 ∧ aR N 31 p a = 1 then dpR N (aR N 30 p a) else N) 10 0 29 (6 * p + a) 0
theorem P_mLeaves {sc : Nat × (Nat → Int32)} {N : sm_M} {p a d : Nat} (hp : p < 3) (ha : a < 6) (h : N.1 10 0 0 40 = nI d) (hd : d ≤ 200) : dn sc kModel_leaves 0 [.inr (.inr (10, 0, 0)), .inl (nI (6 * p + a))] [] N = some (0, .inl 0, leM N p a) := by
  have hib : sm_ib (nI (6 * p + a)) 18 = true := i_ib (by omega) (by decide)
  rw [E_Model_leaves_0, hib]
  simp only [if_true]
  rw [i_cl (by omega), aR_i ha, aR_i ha, aR_i ha, P_mAway h hd, r0_s]
  unfold leM
  by_cases z : aR N 29 p a = 1
  · rw [if_pos z]
    by_cases z2 : aR N 31 p a = 1
    · rw [if_pos z2, if_pos ⟨z, z2⟩]
    · rw [if_neg z2, if_neg (fun y => z2 y.2)]
  · rw [if_neg z, if_neg (fun y => z y.1)]
/-- the reference's memory behind owns -/
def owM (N : sm_M) (p a : Nat) (val kd : Int32) : sm_M := sm_u (sm_u (sm_u (sm_u (sm_u (sm_u N 10 0 29 (6 * p + a) 1) 10 0 30 (6 * p + a) val) 10 0 31 (6 * p + a) kd) 10 0 32 (6 * p + a) (N.1 10 0 0 38)) 10 0 33 (6 * p + a) (N.1 10 0 0 38)) 10 0 34 (6 * p + a) (-1)
theorem P_mOwns {sc : Nat × (Nat → Int32)} {N : sm_M} {p a : Nat} {val kd : Int32} (hp : p < 3) (ha : a < 6) : dn sc kModel_owns 0 [.inr (.inr (10, 0, 0)), .inl (nI (6 * p + a)), .inl val, .inl kd] [] N = some (0, .inl 0, owM N p a val kd) := by
  have hib : sm_ib (nI (6 * p + a)) 18 = true := i_ib (by omega) (by decide)
  rw [E_Model_owns_0, hib]
  simp only [if_true]
  rw [i_cl (by omega)]
  have e1 : (sm_u (sm_u (sm_u N 10 0 29 (6 * p + a) 1) 10 0 30 (6 * p + a) val) 10 0 31 (6 * p + a) kd).1 10 0 0 38 = N.1 10 0 0 38 := by rw [u_mis (by omega), u_mis (by omega), u_mis (by omega)]
  have e2 : ∀ y, (sm_u (sm_u (sm_u (sm_u N 10 0 29 (6 * p + a) 1) 10 0 30 (6 * p + a) val) 10 0 31 (6 * p + a) kd) 10 0 32 (6 * p + a) y).1 10 0 0 38 = N.1 10 0 0 38 := fun y => (u_mis (by omega)).trans e1
  rw [e1, e2]; rfl
/-- the reference's memory behind uses -/
def usM (N : sm_M) (p v o : Nat) (ch : Bool) : sm_M := sm_u (sm_u N 10 0 34 (6 * p + o) (if aR N 34 p o = nI (6 * p + v) then nI (6 * p + v) else -1)) 10 0 33 (6 * p + o) (if ch = true then N.1 10 0 0 38 else aR N 33 p o)
theorem P_mUses {sc : Nat × (Nat → Int32)} {N : sm_M} {p v o : Nat} {ch : Bool} (hp : p < 3) (hv : v < 6) (ho : o < 6) (h1 : aR N 29 p o = 1) (hx : aR N 30 p o = aR N 30 p v) (hu : uqR N p) : dn sc kModel_uses 0 [.inr (.inr (10, 0, 0)), .inl (nI p), .inl (nI (6 * p + v)), .inl (bI ch)] [] N = some (0, .inl 0, usM N p v o ch) := by
  have hib : sm_ib (nI (6 * p + v)) 18 = true := i_ib (by omega) (by decide)
  have hib2 : sm_ib (nI (6 * p + o)) 18 = true := i_ib (by omega) (by decide)
  have e3 : ∀ y, dn sc kModel_uses 3 [.inr (.inr (10, 0, 0)), .inl (bI ch), .inl (nI (6 * p + o))] [.inl y, .inl (nI (6 * p + o)), .inr (.inr (10, 0, 34))] N = some (0, .inl 0, sm_u (sm_u N 10 0 34 (6 * p + o) y) 10 0 33 (6 * p + o) (if ch = true then N.1 10 0 0 38 else aR N 33 p o)) := by
    intro y
    rw [E_Model_uses_3, hib2]
    simp only [if_true]
    rw [i_cl (by omega), u_mis (show ¬(10 = 10 ∧ 0 = 0 ∧ 33 = 34 ∧ 6 * p + o = 6 * p + o) by omega), u_mis (show ¬(10 = 10 ∧ 0 = 0 ∧ 0 = 34 ∧ 38 = 6 * p + o) by omega), aR_i ho]
    cases ch with
    | true => rw [if_neg (show ¬ bI true = 0 by decide), if_pos rfl]
    | false => rw [if_pos (show bI false = 0 from rfl), if_neg (show ¬ false = true by decide)]
  rw [E_Model_uses_0, hib, if_pos rfl, i_cl (show 6 * p + v < 2147483648 by omega), aR_i hv, P_mOw hp ho h1 hx (fun m m1 m2 m3 => hu m o m1 ho m2 h1 (m3.trans hx.symm)), r1_s, hib2, if_pos rfl, i_cl (by omega), aR_i ho, e3, e3]
  unfold usM
  by_cases z : aR N 34 p o = nI (6 * p + v)
  · rw [if_pos z, if_pos z]
  · rw [if_neg z, if_neg z]
/-- the reference copies what a variable owns -/
def cpR (N : sm_M) (p v : Nat) : sm_M := sm_u (sm_u N 10 0 34 (6 * p + v) (-1)) 10 0 0 39 (N.1 10 0 0 39 + 1)
theorem P_mCopied {sc : Nat × (Nat → Int32)} {N : sm_M} {p v : Nat} (hp : p < 3) (hv : v < 6) (h1 : aR N 29 p v = 1) (hu : uqR N p) : dn sc kModel_copied 0 [.inr (.inr (10, 0, 0)), .inl (nI p), .inl (nI (6 * p + v))] [] N = some (0, .inl (N.1 10 0 0 39), cpR N p v) := by
  have hib : sm_ib (nI (6 * p + v)) 18 = true := i_ib (by omega) (by decide)
  have e : sm_u (usM N p v v false) 10 0 34 (6 * p + v) (-1) = sm_u N 10 0 34 (6 * p + v) (-1) := by
    unfold usM
    rw [if_neg (show ¬ false = true by decide), u_comm (by omega), u_over, u_sme]
    rw [u_mis (by omega), aR_i hv]
  have e9 : (sm_u N 10 0 34 (6 * p + v) (-1)).1 10 0 0 39 = N.1 10 0 0 39 := u_mis (by omega)
  rw [E_Model_copied_0, show dn sc kModel_uses 0 [.inr (.inr (10, 0, 0)), .inl (nI p), .inl (nI (6 * p + v)), .inl 0] [] N = _ from P_mUses (ch := false) hp hv hv h1 rfl hu, r0_s, hib, if_pos rfl, i_cl (by omega), e, u_hit, e9, add1_sub]; rfl
