/-! THE SMALL MACHINE IS SOUND: a simple step -/
def sm_SW (D : va_G) (tc : Nat → ClassId) (ad : Nat × Nat × Nat → Nat) (A : Nat → Prop) (H0 : Heap) (nL : Nat) (K : Nat → Array Slot → List Value → Heap → List Loc → Prop) (pc : Nat) (ls : sm_L) (st : List sm_v) (M : sm_M) : Prop :=
  ∀ (H : Heap) (locs : List Loc) (la : Array Slot), va_P D vwCl (sm_W tc ad M) H → va_S A H0 H locs → lv_has la nL (sm_tl ad ls) → K pc la (st.map (sm_t ad)) H locs
section SND
variable {p : Program} {l : Launch} {e : Env} {R : Room} {s : State} {m : MethodId} {args : Array Value} {below : List Frame} {meth : Method} {c : Code} {cells slots : Nat} {Q : State → Prop}
abbrev sm_KW (p : Program) (l : Launch) (e : Env) (R : Room) (s : State) (m : MethodId) (args : Array Value) (below : List Frame) (meth : Method) (c : Code) (cells slots : Nat) (Q : State → Prop) : Nat → Array Slot → List Value → Heap → List Loc → Prop := fun pc la st H locs => W p l e R s m args below meth c H locs cells slots Q (F0 m pc la st)
/-- what a frame stands on -/
def sm_Cx (p : Program) (s : State) (m : MethodId) (args : Array Value) (c : Code) (cc : ByteArray) (nL : Nat) (own : String) (D : va_G) (tc : Nat → ClassId) (ad : Nat × Nat × Nat → Nat) (A : Nat → Prop) (H0 : Heap) (sc : Nat × (Nat → Int32)) (z : Bool) : Prop :=
  p.tables.exec = Jvm.exec ∧ c.code = cc ∧ c.maxLocals = nL ∧ s.vm.findClass own = some m.cls ∧ (∀ w ∈ lw_g, w.before args s = true) ∧ va_K D vwCl (sm_tys tc) s ∧ (∀ M, va_D A (sm_W tc ad M)) ∧ (∀ w ∈ sm_nw, va_Nw w s) ∧ (∀ q : Nat, H0.size ≤ q → A q) ∧ (z = true → va_X (ad (99, 0, 1)) sc.1 sc.2 s H0 ∧ ad (99, 0, 1) < H0.size ∧ ¬ A (ad (99, 0, 1)))
variable {cc : ByteArray} {nL : Nat} {own : String} {D : va_G} {tc : Nat → ClassId} {ad : Nat × Nat × Nat → Nat} {A : Nat → Prop} {H0 : Heap} {sc : Nat × (Nat → Int32)} {z : Bool}
theorem sm_lk_ok {k : Nat} {v : sm_v} {ls : sm_L} (h : sm_okl z ls) (hk : sm_lk k ls = some v) : sm_ok z v := h (k, v) (sm_lk_mem hk)
theorem sm_pi_inv {xs : List sm_v} {ls : sm_L} {st : List sm_v} {M : sm_M} {S : sm_S} (h : sm_pi xs ls st M = some S) : ∃ v, xs = [.inl v] ∧ S = (ls, .inl v :: st, M) := by
  unfold sm_pi at h
  split at h
  · exact ⟨_, rfl, (Option.some.inj h).symm⟩
  · cases h
theorem sm_pl_inv {xs : List sm_v} {ls : sm_L} {st : List sm_v} {M : sm_M} {S : sm_S} (h : sm_pl xs ls st M = some S) : ∃ v, xs = [.inr (.inl v)] ∧ S = (ls, .inr (.inl v) :: st, M) := by
  unfold sm_pl at h
  split at h
  · exact ⟨_, rfl, (Option.some.inj h).symm⟩
  · cases h
theorem sm_li_inv {k : Nat} {ls : sm_L} {st : List sm_v} {M : sm_M} {S : sm_S} (h : sm_li k ls st M = some S) : ∃ v, sm_lk k ls = some (.inl v) ∧ S = (ls, .inl v :: st, M) := by
  unfold sm_li at h
  split at h
  · rename_i v hv
    exact ⟨v, hv, (Option.some.inj h).symm⟩
  · cases h
theorem sm_ll_inv {k : Nat} {ls : sm_L} {st : List sm_v} {M : sm_M} {S : sm_S} (h : sm_ll k ls st M = some S) : ∃ v, sm_lk k ls = some (.inr (.inl v)) ∧ S = (ls, .inr (.inl v) :: st, M) := by
  unfold sm_ll at h
  split at h
  · rename_i v hv
    exact ⟨v, hv, (Option.some.inj h).symm⟩
  · cases h
theorem sm_la_inv {k : Nat} {ls : sm_L} {st : List sm_v} {M : sm_M} {S : sm_S} (h : sm_la k ls st M = some S) : ∃ v, sm_lk k ls = some (.inr (.inr v)) ∧ S = (ls, .inr (.inr v) :: st, M) := by
  unfold sm_la at h
  split at h
  · rename_i v hv
    exact ⟨v, hv, (Option.some.inj h).symm⟩
  · cases h
theorem sm_si_inv {k : Nat} {ls : sm_L} {st : List sm_v} {M : sm_M} {S : sm_S} (h : sm_si k ls st M = some S) : ∃ v st1, st = .inl v :: st1 ∧ S = (sm_st1 k (.inl v) ls, st1, M) := by
  unfold sm_si at h
  split at h
  · rename_i v st1
    exact ⟨v, st1, rfl, (Option.some.inj h).symm⟩
  · cases h
theorem sm_sl_inv {k : Nat} {ls : sm_L} {st : List sm_v} {M : sm_M} {S : sm_S} (h : sm_sl k ls st M = some S) : ∃ v st1, st = .inr (.inl v) :: st1 ∧ S = (sm_st2 k (.inr (.inl v)) ls, st1, M) := by
  unfold sm_sl at h
  split at h
  · rename_i v st1
    exact ⟨v, st1, rfl, (Option.some.inj h).symm⟩
  · cases h
theorem sm_sa_inv {k : Nat} {ls : sm_L} {st : List sm_v} {M : sm_M} {S : sm_S} (h : sm_sa k ls st M = some S) : ∃ v st1, st = .inr (.inr v) :: st1 ∧ S = (sm_st1 k (.inr (.inr v)) ls, st1, M) := by
  unfold sm_sa at h
  split at h
  · rename_i v st1
    exact ⟨v, st1, rfl, (Option.some.inj h).symm⟩
  · cases h
theorem sm_ic_inv {k : Nat} {xs : List sm_v} {ls : sm_L} {st : List sm_v} {M : sm_M} {S : sm_S} (h : sm_ic k xs ls st M = some S) : ∃ d v, xs = [.inl d] ∧ sm_lk k ls = some (.inl v) ∧ S = (sm_st1 k (.inl (v + d)) ls, st, M) := by
  unfold sm_ic at h
  split at h
  · rename_i d v hv
    exact ⟨d, v, rfl, hv, (Option.some.inj h).symm⟩
  · cases h
theorem sm_b_inv {f : Int32 → Int32 → Int32} {ls : sm_L} {st : List sm_v} {M : sm_M} {S : sm_S} (h : sm_b f ls st M = some S) : ∃ x y st1, st = .inl y :: .inl x :: st1 ∧ S = (ls, .inl (f x y) :: st1, M) := by
  unfold sm_b at h
  split at h
  · rename_i y x st1
    exact ⟨x, y, st1, rfl, (Option.some.inj h).symm⟩
  · cases h
theorem sm_bd_inv {f : Int32 → Int32 → Int32} {ls : sm_L} {st : List sm_v} {M : sm_M} {S : sm_S} (h : sm_bd f ls st M = some S) : ∃ x y st1, st = .inl y :: .inl x :: st1 ∧ ¬ y = 0 ∧ S = (ls, .inl (f x y) :: st1, M) := by
  unfold sm_bd at h
  split at h
  · rename_i y x st1
    split at h
    · cases h
    · rename_i hy
      exact ⟨x, y, st1, rfl, hy, (Option.some.inj h).symm⟩
  · cases h
theorem sm_bl_inv {f : Int64 → Int64 → Int64} {ls : sm_L} {st : List sm_v} {M : sm_M} {S : sm_S} (h : sm_bl f ls st M = some S) : ∃ x y st1, st = .inr (.inl y) :: .inr (.inl x) :: st1 ∧ S = (ls, .inr (.inl (f x y)) :: st1, M) := by
  unfold sm_bl at h
  split at h
  · rename_i y x st1
    exact ⟨x, y, st1, rfl, (Option.some.inj h).symm⟩
  · cases h
theorem sm_bs_inv {f : Int64 → Int32 → Int64} {ls : sm_L} {st : List sm_v} {M : sm_M} {S : sm_S} (h : sm_bs f ls st M = some S) : ∃ x y st1, st = .inl y :: .inr (.inl x) :: st1 ∧ S = (ls, .inr (.inl (f x y)) :: st1, M) := by
  unfold sm_bs at h
  split at h
  · rename_i y x st1
    exact ⟨x, y, st1, rfl, (Option.some.inj h).symm⟩
  · cases h
theorem sm_cmp_inv {ls : sm_L} {st : List sm_v} {M : sm_M} {S : sm_S} (h : sm_cmp ls st M = some S) : ∃ x y st1, st = .inr (.inl y) :: .inr (.inl x) :: st1 ∧ S = (ls, .inl (lg_cmp x y) :: st1, M) := by
  unfold sm_cmp at h
  split at h
  · rename_i y x st1
    exact ⟨x, y, st1, rfl, (Option.some.inj h).symm⟩
  · cases h
theorem sm_i2l_inv {ls : sm_L} {st : List sm_v} {M : sm_M} {S : sm_S} (h : sm_i2l ls st M = some S) : ∃ x st1, st = .inl x :: st1 ∧ S = (ls, .inr (.inl x.toInt64) :: st1, M) := by
  unfold sm_i2l at h
  split at h
  · rename_i x st1
    exact ⟨x, st1, rfl, (Option.some.inj h).symm⟩
  · cases h
theorem sm_l2i_inv {ls : sm_L} {st : List sm_v} {M : sm_M} {S : sm_S} (h : sm_l2i ls st M = some S) : ∃ x st1, st = .inr (.inl x) :: st1 ∧ S = (ls, .inl x.toInt32 :: st1, M) := by
  unfold sm_l2i at h
  split at h
  · rename_i x st1
    exact ⟨x, st1, rfl, (Option.some.inj h).symm⟩
  · cases h
/-- an array of numbers is read: its own place, or the script's -/
theorem sm_ial_inv {k : Nat} {ls : sm_L} {st : List sm_v} {M : sm_M} {S : sm_S} (h : sm_ial lt_al sc k ls st M = some S) : ∃ i c p j st1 n, st = .inl i :: .inr (.inr (c, p, j)) :: st1 ∧ ((lt_al c j = (k, n) ∧ sm_ib i n = true ∧ S = (ls, .inl (M.1 c p j i.toNatClampNeg) :: st1, M)) ∨ (lt_al c j = (100 + k, n) ∧ sm_ib i sc.1 = true ∧ S = (ls, .inl (sc.2 i.toNatClampNeg) :: st1, M))) := by
  unfold sm_ial at h
  split at h
  · rename_i i c p j st1
    cases ha : lt_al c j with
    | mk kd n =>
      rw [ha] at h
      dsimp only at h
      cases hb : Nat.beq kd k with
      | true =>
        rw [hb] at h
        have hk := Nat.eq_of_beq_eq_true hb
        subst hk
        by_cases hi : sm_ib i n = true
        · have h' : (if sm_ib i n = true then some (ls, Sum.inl (M.1 c p j i.toNatClampNeg) :: st1, M) else none) = some S := h
          rw [if_pos hi] at h'
          exact ⟨i, c, p, j, st1, n, rfl, Or.inl ⟨ha, hi, (Option.some.inj h').symm⟩⟩
        · have h' : (if sm_ib i n = true then some (ls, Sum.inl (M.1 c p j i.toNatClampNeg) :: st1, M) else none) = some S := h
          rw [if_neg hi] at h'
          cases h'
      | false =>
        rw [hb] at h
        cases hb2 : Nat.beq kd (100 + k) with
        | true =>
          rw [hb2] at h
          have hk := Nat.eq_of_beq_eq_true hb2
          subst hk
          have h' : (if sm_ib i sc.1 = true then some (ls, Sum.inl (sc.2 i.toNatClampNeg) :: st1, M) else none) = some S := h
          by_cases hi : sm_ib i sc.1 = true
          · rw [if_pos hi] at h'
            exact ⟨i, c, p, j, st1, n, rfl, Or.inr ⟨ha, hi, (Option.some.inj h').symm⟩⟩
          · rw [if_neg hi] at h'
            cases h'
        | false =>
          rw [hb2] at h
          cases h
  · cases h
theorem sm_lal_inv {ls : sm_L} {st : List sm_v} {M : sm_M} {S : sm_S} (h : sm_lal lt_al ls st M = some S) : ∃ i c p j st1 kd n, st = .inl i :: .inr (.inr (c, p, j)) :: st1 ∧ lt_al c j = (kd, n) ∧ kd = 2 ∧ sm_ib i n = true ∧ S = (ls, .inr (.inl (M.2 c p j i.toNatClampNeg)) :: st1, M) := by
  unfold sm_lal at h
  split at h
  · rename_i i c p j st1
    cases ha : lt_al c j with
    | mk kd n =>
      rw [ha] at h
      have h' : (bif Nat.beq kd 2 then (if sm_ib i n = true then some (ls, .inr (.inl (M.2 c p j i.toNatClampNeg)) :: st1, M) else none) else none) = some S := h
      cases hb : (Nat.beq kd 2) with
      | true =>
        rw [hb] at h'
        have h2 : (if sm_ib i n = true then some (ls, .inr (.inl (M.2 c p j i.toNatClampNeg)) :: st1, M) else none) = some S := h'
        by_cases hi : sm_ib i n = true
        · rw [if_pos hi] at h2
          exact ⟨i, c, p, j, st1, kd, n, rfl, ha, Nat.eq_of_beq_eq_true hb, hi, (Option.some.inj h2).symm⟩
        · rw [if_neg hi] at h2
          cases h2
      | false =>
        rw [hb] at h'
        cases h'
  · cases h
theorem sm_aal_inv {ls : sm_L} {st : List sm_v} {M : sm_M} {S : sm_S} (h : sm_aal lt_al ls st M = some S) : ∃ i c p j st1 kd n, st = .inl i :: .inr (.inr (c, p, j)) :: st1 ∧ lt_al c j = (kd, n) ∧ (3 ≤ kd ∧ kd ≤ 99) ∧ sm_ib i n = true ∧ S = (ls, .inr (.inr (kd - 3, i.toNatClampNeg, 0)) :: st1, M) := by
  unfold sm_aal at h
  split at h
  · rename_i i c p j st1
    cases ha : lt_al c j with
    | mk kd n =>
      rw [ha] at h
      have h' : (bif Nat.ble 3 kd && Nat.ble kd 99 then (if sm_ib i n = true then some (ls, .inr (.inr (kd - 3, i.toNatClampNeg, 0)) :: st1, M) else none) else none) = some S := h
      cases hb : (Nat.ble 3 kd && Nat.ble kd 99) with
      | true =>
        rw [hb] at h'
        have h2 : (if sm_ib i n = true then some (ls, .inr (.inr (kd - 3, i.toNatClampNeg, 0)) :: st1, M) else none) = some S := h'
        by_cases hi : sm_ib i n = true
        · rw [if_pos hi] at h2
          exact ⟨i, c, p, j, st1, kd, n, rfl, ha, ⟨Nat.le_of_ble_eq_true (Bool.and_eq_true_iff.mp hb).1, Nat.le_of_ble_eq_true (Bool.and_eq_true_iff.mp hb).2⟩, hi, (Option.some.inj h2).symm⟩
        · rw [if_neg hi] at h2
          cases h2
      | false =>
        rw [hb] at h'
        cases h'
  · cases h
theorem sm_ias_inv {ls : sm_L} {st : List sm_v} {M : sm_M} {S : sm_S} (h : sm_ias lt_al ls st M = some S) : ∃ x i c p j st1 kd n, st = .inl x :: .inl i :: .inr (.inr (c, p, j)) :: st1 ∧ lt_al c j = (kd, n) ∧ kd = 0 ∧ sm_ib i n = true ∧ S = (ls, st1, sm_u M c p j i.toNatClampNeg x) := by
  unfold sm_ias at h
  split at h
  · rename_i x i c p j st1
    cases ha : lt_al c j with
    | mk kd n =>
      rw [ha] at h
      have h' : (bif Nat.beq kd 0 then (if sm_ib i n = true then some (ls, st1, sm_u M c p j i.toNatClampNeg x) else none) else none) = some S := h
      cases hb : (Nat.beq kd 0) with
      | true =>
        rw [hb] at h'
        have h2 : (if sm_ib i n = true then some (ls, st1, sm_u M c p j i.toNatClampNeg x) else none) = some S := h'
        by_cases hi : sm_ib i n = true
        · rw [if_pos hi] at h2
          exact ⟨x, i, c, p, j, st1, kd, n, rfl, ha, Nat.eq_of_beq_eq_true hb, hi, (Option.some.inj h2).symm⟩
        · rw [if_neg hi] at h2
          cases h2
      | false =>
        rw [hb] at h'
        cases h'
  · cases h
theorem sm_zas_inv {ls : sm_L} {st : List sm_v} {M : sm_M} {S : sm_S} (h : sm_zas lt_al ls st M = some S) : ∃ x i c p j st1 kd n, st = .inl x :: .inl i :: .inr (.inr (c, p, j)) :: st1 ∧ lt_al c j = (kd, n) ∧ kd = 1 ∧ sm_ib i n = true ∧ S = (ls, st1, sm_u M c p j i.toNatClampNeg (vp_nar .boolean x)) := by
  unfold sm_zas at h
  split at h
  · rename_i x i c p j st1
    cases ha : lt_al c j with
    | mk kd n =>
      rw [ha] at h
      have h' : (bif Nat.beq kd 1 then (if sm_ib i n = true then some (ls, st1, sm_u M c p j i.toNatClampNeg (vp_nar .boolean x)) else none) else none) = some S := h
      cases hb : (Nat.beq kd 1) with
      | true =>
        rw [hb] at h'
        have h2 : (if sm_ib i n = true then some (ls, st1, sm_u M c p j i.toNatClampNeg (vp_nar .boolean x)) else none) = some S := h'
        by_cases hi : sm_ib i n = true
        · rw [if_pos hi] at h2
          exact ⟨x, i, c, p, j, st1, kd, n, rfl, ha, Nat.eq_of_beq_eq_true hb, hi, (Option.some.inj h2).symm⟩
        · rw [if_neg hi] at h2
          cases h2
      | false =>
        rw [hb] at h'
        cases h'
  · cases h
theorem sm_las_inv {ls : sm_L} {st : List sm_v} {M : sm_M} {S : sm_S} (h : sm_las lt_al ls st M = some S) : ∃ x i c p j st1 kd n, st = .inr (.inl x) :: .inl i :: .inr (.inr (c, p, j)) :: st1 ∧ lt_al c j = (kd, n) ∧ kd = 2 ∧ sm_ib i n = true ∧ S = (ls, st1, sm_w M c p j i.toNatClampNeg x) := by
  unfold sm_las at h
  split at h
  · rename_i x i c p j st1
    cases ha : lt_al c j with
    | mk kd n =>
      rw [ha] at h
      have h' : (bif Nat.beq kd 2 then (if sm_ib i n = true then some (ls, st1, sm_w M c p j i.toNatClampNeg x) else none) else none) = some S := h
      cases hb : (Nat.beq kd 2) with
      | true =>
        rw [hb] at h'
        have h2 : (if sm_ib i n = true then some (ls, st1, sm_w M c p j i.toNatClampNeg x) else none) = some S := h'
        by_cases hi : sm_ib i n = true
        · rw [if_pos hi] at h2
          exact ⟨x, i, c, p, j, st1, kd, n, rfl, ha, Nat.eq_of_beq_eq_true hb, hi, (Option.some.inj h2).symm⟩
        · rw [if_neg hi] at h2
          cases h2
      | false =>
        rw [hb] at h'
        cases h'
  · cases h
theorem sm_ids_100 {c p j k n : Nat} (h : (c, p, j) ∈ sm_ids) (hj : j ≠ 0) : ¬ lt_al c j = (100 + k, n) := by
  intro q
  have h1 : ∀ r ∈ sm_ids, (lt_al r.1 r.2.2).1 < 100 ∨ r.2.2 = 0 := by decide +kernel
  have h2 := h1 _ h
  dsimp only at h2
  rw [q] at h2
  rcases h2 with h2 | h2
  · dsimp only at h2
    omega
  · exact hj h2
theorem sm_gf_ok (hx : p.tables.exec = Jvm.exec) (hb : c.code = cc) (hown : s.vm.findClass own = some m.cls) (hts : ∀ w ∈ lw_g, w.before args s = true) (hK : va_K D vwCl (sm_tys tc) s) {os : List Nat} {n pc : Nat} {ls ls' : sm_L} {st st' : List sm_v} {M M' : sm_M} (hf : sm_fg own n os = true) (hdg : decode cc pc = .ok (.getfield n, 3)) (h : sm_gf os ls st M = some (ls', st', M')) (o1 : sm_okl z ls) (o2 : sm_oks z st) :
    (sm_okl z ls' ∧ sm_oks z st') ∧ (sm_SW D tc ad A H0 nL (sm_KW p l e R s m args below meth c cells slots Q) (pc + 3) ls' st' M' → sm_SW D tc ad A H0 nL (sm_KW p l e R s m args below meth c cells slots Q) pc ls st M) := by
  unfold sm_gf at h
  split at h
  · rename_i c1 k1 kd c2 s1 os' c1' p1 st1
    cases hb1 : Nat.beq c1' c1 with
    | false => rw [hb1] at h; cases h
    | true =>
      have e := Nat.eq_of_beq_eq_true hb1
      subst e
      rw [hb1] at h
      rw [sm_oks_c] at o2
      cases os' with
      | nil => cases hf
      | cons w os' =>
        have hr : (c1', p1, 0) ∈ sm_ids := by
          rcases o2.1 with hr | ⟨-, hr⟩
          · exact hr
          · cases hr
        obtain ⟨hc11, hfr⟩ := sm_ids_o hr
        obtain ⟨C, T, ty0, hcl, hin, hty, hnm⟩ := sm_cls hc11
        have hf' : (match vwCl[c1']? with
          | some (C, T, N) => Nat.blt k1 N && decide ((T k1).1 = C) && decide (lt_fk c1' k1 = (kd, c2, s1)) && sm_wd w (.fieldLink own n C (T k1).2.1 (T k1).2.2.1)
          | none => false) = true := hf
        rw [hcl] at hf'
        dsimp only at hf'
        rw [Bool.and_eq_true, Bool.and_eq_true, Bool.and_eq_true] at hf'
        obtain ⟨⟨⟨g1, g2⟩, g3⟩, g4⟩ := hf'
        have g1 := Nat.blt_eq.mp g1
        have g2 := of_decide_eq_true g2
        have g3 := of_decide_eq_true g3
        have g4 := hts _ (sm_wd_in g4)
        have key : ∀ v, sm_fv ad M c1' p1 k1 = sm_t ad v → ls' = ls → st' = v :: st1 → M' = M → sm_SW D tc ad A H0 nL (sm_KW p l e R s m args below meth c cells slots Q) (pc + 3) ls' st' M' → sm_SW D tc ad A H0 nL (sm_KW p l e R s m args below meth c cells slots Q) pc ls (.inr (.inr (c1', p1, 0)) :: st1) M := by
          intro v hv e1 e2 e3 k H locs la hP hS hl
          subst e1; subst e2; subst e3
          obtain ⟨q0, hq, hw⟩ := sm_W_at (tc := tc) (ad := ad) M' hr
          rw [sm_ce_o] at hw
          have hv2 := sm_fvs ad M' (p := p1) g1
          rw [hv] at hv2
          exact va_get hx hb hts hin hown hK hP q0 hw hcl k1 g1 (ref := C) g4 (fun x hx => by rw [g2] at hx; exact hx) hv2 hdg (k H locs la hP hS hl)
        have hfr1 := hfr k1 g1
        cases h
        refine ⟨⟨o1, sm_oks_c.mpr ⟨?_, o2.2⟩⟩, key _ ?_ rfl rfl rfl⟩
        · rcases kd with _ | _ | _ | kd
          · trivial
          · exact Or.inl (hfr1 _ (by rw [g3]; rfl))
          · exact Or.inl (hfr1 _ (by rw [g3]; rfl))
          · exact Or.inl (hfr1 _ (by rw [g3]; rfl))
        · unfold sm_fv
          rw [g3]
          rcases kd with _ | _ | _ | kd <;> rfl
  · cases h
theorem sm_pf_ok (hx : p.tables.exec = Jvm.exec) (hb : c.code = cc) (hown : s.vm.findClass own = some m.cls) (hts : ∀ w ∈ lw_g, w.before args s = true) (hK : va_K D vwCl (sm_tys tc) s) (hD : ∀ M, va_D A (sm_W tc ad M)) {os : List Nat} {n pc : Nat} {ls ls' : sm_L} {st st' : List sm_v} {M M' : sm_M} (hf : sm_fp own n os = true) (hdg : decode cc pc = .ok (.putfield n, 3)) (h : sm_pf os ls st M = some (ls', st', M')) (o1 : sm_okl z ls) (o2 : sm_oks z st) :
    (sm_okl z ls' ∧ sm_oks z st') ∧ (sm_SW D tc ad A H0 nL (sm_KW p l e R s m args below meth c cells slots Q) (pc + 3) ls' st' M' → sm_SW D tc ad A H0 nL (sm_KW p l e R s m args below meth c cells slots Q) pc ls st M) := by
  unfold sm_pf at h
  split at h
  · rename_i c1 k1 z1 os' x1 c1' p1 st1
    cases hb1 : Nat.beq c1' c1 with
    | false => rw [hb1] at h; cases h
    | true =>
      have e := Nat.eq_of_beq_eq_true hb1
      subst e
      rw [hb1] at h
      rw [sm_oks_c, sm_oks_c] at o2
      cases os' with
      | nil => cases hf
      | cons w os' =>
        have hr : (c1', p1, 0) ∈ sm_ids := by
          rcases o2.2.1 with hr | ⟨-, hr⟩
          · exact hr
          · cases hr
        obtain ⟨hc11, hfr⟩ := sm_ids_o hr
        obtain ⟨C, T, ty0, hcl, hin, hty, hnm⟩ := sm_cls hc11
        have hf' : (match vwCl[c1']? with
          | some (C, T, N) => Nat.blt k1 N && decide ((T k1).1 = C) && decide (lt_fk c1' k1 = (0, 0, 0)) && !(T k1).2.2.2 && decide (parseFieldDescriptor (T k1).2.2.1 = some (sm_zt z1)) && sm_wd w (.fieldLink own n C (T k1).2.1 (T k1).2.2.1)
          | none => false) = true := hf
        rw [hcl] at hf'
        dsimp only at hf'
        rw [Bool.and_eq_true, Bool.and_eq_true, Bool.and_eq_true, Bool.and_eq_true, Bool.and_eq_true] at hf'
        obtain ⟨⟨⟨⟨⟨g1, g2⟩, g3⟩, g5⟩, g6⟩, g4⟩ := hf'
        have g1 := Nat.blt_eq.mp g1
        have g2 := of_decide_eq_true g2
        have g3 := of_decide_eq_true g3
        have g4 := hts _ (sm_wd_in g4)
        have g5 : (T k1).2.2.2 = false := by
          cases hq : (T k1).2.2.2 with
          | false => rfl
          | true => rw [hq] at g5; cases g5
        have g6 := of_decide_eq_true g6
        have key : ∀ x2 : Int32, narrow (sm_zt z1) (.int x2) = .int x2 → fits (sm_zt z1) (.int x2) = true → x1 = x2 → sm_SW D tc ad A H0 nL (sm_KW p l e R s m args below meth c cells slots Q) (pc + 3) ls st1 (sm_u M c1' p1 0 k1 x2) → sm_SW D tc ad A H0 nL (sm_KW p l e R s m args below meth c cells slots Q) pc ls (.inl x1 :: .inr (.inr (c1', p1, 0)) :: st1) M := by
          intro x2 hn hfit e1 k H locs la hP hS hl
          subst e1
          obtain ⟨q0, hq, hw⟩ := sm_W_at (tc := tc) (ad := ad) M hr
          rw [sm_ce_o] at hw
          refine va_put hx hb hts hin ty0 hty hnm hown hK hP (hD M) hS q0 hw hcl k1 g1 (ref := C) g4 (fun x hx => by rw [g2] at hx; exact hx) g5 g6 hn hfit (by simpa using g1) hdg (fun H1 locs1 hP1 hD1 hS1 => k H1 locs1 la ?_ hS1 hl)
          have e1 := sm_W_set (tc := tc) (ad := ad) (M := M) (M' := sm_u M c1' p1 0 k1 x1) hq (fun r' hr' => sm_ce_eq (sm_u_ne hr') rfl)
          rw [sm_ce_o, ← sm_fvs_set ad M g3] at e1
          rw [← e1]
          exact hP1
        cases z1 with
        | zero =>
          cases h
          exact ⟨⟨o1, o2.2.2⟩, key x1 rfl rfl rfl⟩
        | succ z1 =>
          have h' : (if x1 = 0 then some (ls, st1, sm_u M c1' p1 0 k1 0) else if x1 = 1 then some (ls, st1, sm_u M c1' p1 0 k1 1) else none) = some (ls', st', M') := h
          by_cases q0 : x1 = 0
          · rw [if_pos q0] at h'
            cases h'
            exact ⟨⟨o1, o2.2.2⟩, key 0 rfl rfl q0⟩
          · rw [if_neg q0] at h'
            by_cases q1 : x1 = 1
            · rw [if_pos q1] at h'
              cases h'
              exact ⟨⟨o1, o2.2.2⟩, key 1 rfl rfl q1⟩
            · rw [if_neg q1] at h'
              cases h'
  · cases h
theorem sm_s1_ok (X : sm_Cx p s m args c cc nL own D tc ad A H0 sc z) {i : sm_I} {len pc : Nat} {ls ls' : sm_L} {st st' : List sm_v} {M M' : sm_M} (hf : sm_fb own nL len i = true) (hdg : decode cc pc = .ok (i.1, len)) (h : sm_s1 lt_al sc i ls st M = some (ls', st', M')) (o1 : sm_okl z ls) (o2 : sm_oks z st) :
    (sm_okl z ls' ∧ sm_oks z st') ∧ (sm_SW D tc ad A H0 nL (sm_KW p l e R s m args below meth c cells slots Q) (pc + len) ls' st' M' → sm_SW D tc ad A H0 nL (sm_KW p l e R s m args below meth c cells slots Q) pc ls st M) := by
  obtain ⟨hx, hb, hml, hown, hts, hK, hD, hN, hA, hscr⟩ := X
  unfold sm_s1 at h
  unfold sm_fb at hf
  split at h
  · rename_i n he
    rw [he] at hf hdg
    have hf : (Nat.beq len 1 && sm_fi i.2.1 (Int32.ofInt n)) = true := hf
    rw [Bool.and_eq_true] at hf
    obtain ⟨f1, f2⟩ := hf
    have f1 := Nat.eq_of_beq_eq_true f1
    subst f1
    obtain ⟨v, hv, hS⟩ := sm_pi_inv h
    cases hS
    rw [hv] at f2
    have f2 := of_decide_eq_true f2
    refine ⟨⟨o1, sm_oks_c.mpr ⟨trivial, o2⟩⟩, fun k H locs la hP hS hl => ?_⟩
    exact lv_iconst hx hb hdg f2 (k H locs la hP hS hl)
  · rename_i n he
    rw [he] at hf hdg
    have hf : (Nat.beq len 2 && sm_fi i.2.1 (Int8.ofInt n).toInt32) = true := hf
    rw [Bool.and_eq_true] at hf
    obtain ⟨f1, f2⟩ := hf
    have f1 := Nat.eq_of_beq_eq_true f1
    subst f1
    obtain ⟨v, hv, hS⟩ := sm_pi_inv h
    cases hS
    rw [hv] at f2
    have f2 := of_decide_eq_true f2
    refine ⟨⟨o1, sm_oks_c.mpr ⟨trivial, o2⟩⟩, fun k H locs la hP hS hl => ?_⟩
    exact lv_bipush hx hb hdg f2 (k H locs la hP hS hl)
  · rename_i n he
    rw [he] at hf hdg
    have hf : (Nat.beq len 3 && sm_fi i.2.1 (Int16.ofInt n).toInt32) = true := hf
    rw [Bool.and_eq_true] at hf
    obtain ⟨f1, f2⟩ := hf
    have f1 := Nat.eq_of_beq_eq_true f1
    subst f1
    obtain ⟨v, hv, hS⟩ := sm_pi_inv h
    cases hS
    rw [hv] at f2
    have f2 := of_decide_eq_true f2
    refine ⟨⟨o1, sm_oks_c.mpr ⟨trivial, o2⟩⟩, fun k H locs la hP hS hl => ?_⟩
    exact lv_sipush hx hb hdg f2 (k H locs la hP hS hl)
  · rename_i n he
    rw [he] at hf hdg
    have hf : (Nat.beq len 2 && sm_fk own n i.2.1 i.2.2) = true := hf
    rw [Bool.and_eq_true] at hf
    obtain ⟨f1, f2⟩ := hf
    have f1 := Nat.eq_of_beq_eq_true f1
    subst f1
    obtain ⟨v, hv, hS⟩ := sm_pi_inv h
    cases hS
    rw [hv] at f2
    cases ho : i.2.2 with
    | nil => rw [ho] at f2; cases f2
    | cons w os =>
      rw [ho] at f2
      have f3 := hts _ (sm_wd_in f2)
      refine ⟨⟨o1, sm_oks_c.mpr ⟨trivial, o2⟩⟩, fun k H locs la hP hS hl => ?_⟩
      exact lv_ldc hx hb hown f3 hdg (k H locs la hP hS hl)
  · rename_i n he
    rw [he] at hf hdg
    have hf : (Nat.beq len 3 && sm_fk own n i.2.1 i.2.2) = true := hf
    rw [Bool.and_eq_true] at hf
    obtain ⟨f1, f2⟩ := hf
    have f1 := Nat.eq_of_beq_eq_true f1
    subst f1
    obtain ⟨v, hv, hS⟩ := sm_pi_inv h
    cases hS
    rw [hv] at f2
    cases ho : i.2.2 with
    | nil => rw [ho] at f2; cases f2
    | cons w os =>
      rw [ho] at f2
      have f3 := hts _ (sm_wd_in f2)
      refine ⟨⟨o1, sm_oks_c.mpr ⟨trivial, o2⟩⟩, fun k H locs la hP hS hl => ?_⟩
      exact lv_ldcw hx hb hown f3 hdg (k H locs la hP hS hl)
  · rename_i n he
    rw [he] at hf hdg
    have hf : (Nat.beq len 1 && sm_fl2 i.2.1 (Int64.ofNat n.val)) = true := hf
    rw [Bool.and_eq_true] at hf
    obtain ⟨f1, f2⟩ := hf
    have f1 := Nat.eq_of_beq_eq_true f1
    subst f1
    obtain ⟨v, hv, hS⟩ := sm_pl_inv h
    cases hS
    rw [hv] at f2
    have f2 := of_decide_eq_true f2
    refine ⟨⟨o1, sm_oks_c.mpr ⟨trivial, o2⟩⟩, fun k H locs la hP hS hl => ?_⟩
    exact lv_lconst hx hb hdg f2 (k H locs la hP hS hl)
  · rename_i n he
    rw [he] at hf hdg
    have hf : (Nat.beq len 3 && sm_fk2 own n i.2.1 i.2.2) = true := hf
    rw [Bool.and_eq_true] at hf
    obtain ⟨f1, f2⟩ := hf
    have f1 := Nat.eq_of_beq_eq_true f1
    subst f1
    obtain ⟨v, hv, hS⟩ := sm_pl_inv h
    cases hS
    rw [hv] at f2
    cases ho : i.2.2 with
    | nil => rw [ho] at f2; cases f2
    | cons w os =>
      rw [ho] at f2
      have f3 := hts _ (sm_wd_in f2)
      refine ⟨⟨o1, sm_oks_c.mpr ⟨trivial, o2⟩⟩, fun k H locs la hP hS hl => ?_⟩
      exact lv_ldc2 hx hb hown f3 hdg (k H locs la hP hS hl)
  · rename_i n he
    rw [he] at hf hdg
    have f1 : Nat.beq len 1 = true := hf
    have f1 := Nat.eq_of_beq_eq_true f1
    subst f1
    obtain ⟨v, hv, hS⟩ := sm_li_inv h
    cases hS
    refine ⟨⟨o1, sm_oks_c.mpr ⟨trivial, o2⟩⟩, fun k H locs la hP hS hl => ?_⟩
    exact lv_iload_n hx hb hdg rfl (sm_lk_at hl hv) (k H locs la hP hS hl)
  · rename_i n he
    rw [he] at hf hdg
    have f1 : Nat.beq len 2 = true := hf
    have f1 := Nat.eq_of_beq_eq_true f1
    subst f1
    obtain ⟨v, hv, hS⟩ := sm_li_inv h
    cases hS
    refine ⟨⟨o1, sm_oks_c.mpr ⟨trivial, o2⟩⟩, fun k H locs la hP hS hl => ?_⟩
    exact lv_iload hx hb hdg (sm_lk_at hl hv) (k H locs la hP hS hl)
  · rename_i n he
    rw [he] at hf hdg
    have f1 : Nat.beq len 1 = true := hf
    have f1 := Nat.eq_of_beq_eq_true f1
    subst f1
    obtain ⟨v, hv, hS⟩ := sm_ll_inv h
    cases hS
    refine ⟨⟨o1, sm_oks_c.mpr ⟨trivial, o2⟩⟩, fun k H locs la hP hS hl => ?_⟩
    exact lv_lload_n hx hb hdg rfl (sm_lk_at hl hv) (k H locs la hP hS hl)
  · rename_i n he
    rw [he] at hf hdg
    have f1 : Nat.beq len 2 = true := hf
    have f1 := Nat.eq_of_beq_eq_true f1
    subst f1
    obtain ⟨v, hv, hS⟩ := sm_ll_inv h
    cases hS
    refine ⟨⟨o1, sm_oks_c.mpr ⟨trivial, o2⟩⟩, fun k H locs la hP hS hl => ?_⟩
    exact lv_lload hx hb hdg (sm_lk_at hl hv) (k H locs la hP hS hl)
  · rename_i n he
    rw [he] at hf hdg
    have f1 : Nat.beq len 1 = true := hf
    have f1 := Nat.eq_of_beq_eq_true f1
    subst f1
    obtain ⟨v, hv, hS⟩ := sm_la_inv h
    cases hS
    refine ⟨⟨o1, sm_oks_c.mpr ⟨sm_lk_ok o1 hv, o2⟩⟩, fun k H locs la hP hS hl => ?_⟩
    exact lv_aload_n hx hb hdg rfl (sm_lk_at hl hv) (k H locs la hP hS hl)
  · rename_i n he
    rw [he] at hf hdg
    have f1 : Nat.beq len 2 = true := hf
    have f1 := Nat.eq_of_beq_eq_true f1
    subst f1
    obtain ⟨v, hv, hS⟩ := sm_la_inv h
    cases hS
    refine ⟨⟨o1, sm_oks_c.mpr ⟨sm_lk_ok o1 hv, o2⟩⟩, fun k H locs la hP hS hl => ?_⟩
    exact lv_aload hx hb hdg (sm_lk_at hl hv) (k H locs la hP hS hl)
  · rename_i n he
    rw [he] at hf hdg
    have hf : (Nat.beq len 1 && Nat.blt (n.val) nL) = true := hf
    rw [Bool.and_eq_true] at hf
    obtain ⟨f1, f2⟩ := hf
    have f1 := Nat.eq_of_beq_eq_true f1
    subst f1
    obtain ⟨v, st1, hv, hS⟩ := sm_si_inv h
    cases hS
    subst hv
    rw [sm_oks_c] at o2
    have f2 := Nat.blt_eq.mp f2
    refine ⟨⟨sm_okl_st1 o1 o2.1, o2.2⟩, fun k H locs la hP hS hl => ?_⟩
    exact lv_istore_n hx hb hdg rfl hl f2 (sm_tl_st1 ad _ (.inl v) ls) (fun la hl => k H locs la hP hS hl)
  · rename_i n he
    rw [he] at hf hdg
    have hf : (Nat.beq len 2 && Nat.blt (n) nL) = true := hf
    rw [Bool.and_eq_true] at hf
    obtain ⟨f1, f2⟩ := hf
    have f1 := Nat.eq_of_beq_eq_true f1
    subst f1
    obtain ⟨v, st1, hv, hS⟩ := sm_si_inv h
    cases hS
    subst hv
    rw [sm_oks_c] at o2
    have f2 := Nat.blt_eq.mp f2
    refine ⟨⟨sm_okl_st1 o1 o2.1, o2.2⟩, fun k H locs la hP hS hl => ?_⟩
    exact lv_istore hx hb hdg hl f2 (sm_tl_st1 ad _ (.inl v) ls) (fun la hl => k H locs la hP hS hl)
  · rename_i n he
    rw [he] at hf hdg
    have hf : (Nat.beq len 1 && Nat.blt (n.val + 1) nL) = true := hf
    rw [Bool.and_eq_true] at hf
    obtain ⟨f1, f2⟩ := hf
    have f1 := Nat.eq_of_beq_eq_true f1
    subst f1
    obtain ⟨v, st1, hv, hS⟩ := sm_sl_inv h
    cases hS
    subst hv
    rw [sm_oks_c] at o2
    have f2 := Nat.blt_eq.mp f2
    refine ⟨⟨sm_okl_st2 o1 o2.1, o2.2⟩, fun k H locs la hP hS hl => ?_⟩
    exact lv_lstore_n hx hb hdg rfl hl f2 (sm_tl_st2 ad _ (.inr (.inl v)) ls) (fun la hl => k H locs la hP hS hl)
  · rename_i n he
    rw [he] at hf hdg
    have hf : (Nat.beq len 2 && Nat.blt (n + 1) nL) = true := hf
    rw [Bool.and_eq_true] at hf
    obtain ⟨f1, f2⟩ := hf
    have f1 := Nat.eq_of_beq_eq_true f1
    subst f1
    obtain ⟨v, st1, hv, hS⟩ := sm_sl_inv h
    cases hS
    subst hv
    rw [sm_oks_c] at o2
    have f2 := Nat.blt_eq.mp f2
    refine ⟨⟨sm_okl_st2 o1 o2.1, o2.2⟩, fun k H locs la hP hS hl => ?_⟩
    exact lv_lstore hx hb hdg hl f2 (sm_tl_st2 ad _ (.inr (.inl v)) ls) (fun la hl => k H locs la hP hS hl)
  · rename_i n he
    rw [he] at hf hdg
    have hf : (Nat.beq len 1 && Nat.blt (n.val) nL) = true := hf
    rw [Bool.and_eq_true] at hf
    obtain ⟨f1, f2⟩ := hf
    have f1 := Nat.eq_of_beq_eq_true f1
    subst f1
    obtain ⟨v, st1, hv, hS⟩ := sm_sa_inv h
    cases hS
    subst hv
    rw [sm_oks_c] at o2
    have f2 := Nat.blt_eq.mp f2
    refine ⟨⟨sm_okl_st1 o1 o2.1, o2.2⟩, fun k H locs la hP hS hl => ?_⟩
    exact lv_astore_n hx hb hdg rfl hl f2 (sm_tl_st1 ad _ (.inr (.inr v)) ls) (fun la hl => k H locs la hP hS hl)
  · rename_i n he
    rw [he] at hf hdg
    have hf : (Nat.beq len 2 && Nat.blt (n) nL) = true := hf
    rw [Bool.and_eq_true] at hf
    obtain ⟨f1, f2⟩ := hf
    have f1 := Nat.eq_of_beq_eq_true f1
    subst f1
    obtain ⟨v, st1, hv, hS⟩ := sm_sa_inv h
    cases hS
    subst hv
    rw [sm_oks_c] at o2
    have f2 := Nat.blt_eq.mp f2
    refine ⟨⟨sm_okl_st1 o1 o2.1, o2.2⟩, fun k H locs la hP hS hl => ?_⟩
    exact lv_astore hx hb hdg hl f2 (sm_tl_st1 ad _ (.inr (.inr v)) ls) (fun la hl => k H locs la hP hS hl)
  · rename_i kk n he
    rw [he] at hf hdg
    have hf : (Nat.beq len 3 && sm_fi i.2.1 (Int32.ofInt n) && Nat.blt kk nL) = true := hf
    rw [Bool.and_eq_true, Bool.and_eq_true] at hf
    obtain ⟨⟨f1, f2⟩, f3⟩ := hf
    have f1 := Nat.eq_of_beq_eq_true f1
    subst f1
    obtain ⟨d, v, hv, hk, hS⟩ := sm_ic_inv h
    cases hS
    rw [hv] at f2
    have f2 := of_decide_eq_true f2
    have f3 := Nat.blt_eq.mp f3
    refine ⟨⟨sm_okl_st1 o1 trivial, o2⟩, fun k H locs la hP hS hl => ?_⟩
    obtain ⟨ix, hix⟩ := List.getElem?_of_mem (List.mem_map_of_mem (f := fun q : Nat × sm_v => (q.1, sm_t ad q.2)) (sm_lk_mem hk))
    exact lv_iinc hx hb hdg hl (k := ix) hix (by rw [f2]) f3 (sm_tl_st1 ad _ (.inl (v + d)) ls) (fun la hl => k H locs la hP hS hl)
  · rename_i he
    rw [he] at hf hdg
    have f1 : Nat.beq len 1 = true := hf
    have f1 := Nat.eq_of_beq_eq_true f1
    subst f1
    obtain ⟨x, y, st1, hv, hS⟩ := sm_b_inv h
    cases hS
    subst hv
    rw [sm_oks_c, sm_oks_c] at o2
    refine ⟨⟨o1, sm_oks_c.mpr ⟨trivial, o2.2.2⟩⟩, fun k H locs la hP hS hl => ?_⟩
    exact lv_iadd hx hb hdg (k H locs la hP hS hl)
  · rename_i he
    rw [he] at hf hdg
    have f1 : Nat.beq len 1 = true := hf
    have f1 := Nat.eq_of_beq_eq_true f1
    subst f1
    obtain ⟨x, y, st1, hv, hS⟩ := sm_b_inv h
    cases hS
    subst hv
    rw [sm_oks_c, sm_oks_c] at o2
    refine ⟨⟨o1, sm_oks_c.mpr ⟨trivial, o2.2.2⟩⟩, fun k H locs la hP hS hl => ?_⟩
    exact lv_isub hx hb hdg (k H locs la hP hS hl)
  · rename_i he
    rw [he] at hf hdg
    have f1 : Nat.beq len 1 = true := hf
    have f1 := Nat.eq_of_beq_eq_true f1
    subst f1
    obtain ⟨x, y, st1, hv, hS⟩ := sm_b_inv h
    cases hS
    subst hv
    rw [sm_oks_c, sm_oks_c] at o2
    refine ⟨⟨o1, sm_oks_c.mpr ⟨trivial, o2.2.2⟩⟩, fun k H locs la hP hS hl => ?_⟩
    exact lv_imul hx hb hdg (k H locs la hP hS hl)
  · rename_i he
    rw [he] at hf hdg
    have f1 : Nat.beq len 1 = true := hf
    have f1 := Nat.eq_of_beq_eq_true f1
    subst f1
    obtain ⟨x, y, st1, hv, hS⟩ := sm_b_inv h
    cases hS
    subst hv
    rw [sm_oks_c, sm_oks_c] at o2
    refine ⟨⟨o1, sm_oks_c.mpr ⟨trivial, o2.2.2⟩⟩, fun k H locs la hP hS hl => ?_⟩
    exact lv_iand hx hb hdg (k H locs la hP hS hl)
  · rename_i he
    rw [he] at hf hdg
    have f1 : Nat.beq len 1 = true := hf
    have f1 := Nat.eq_of_beq_eq_true f1
    subst f1
    obtain ⟨x, y, st1, hv, hS⟩ := sm_b_inv h
    cases hS
    subst hv
    rw [sm_oks_c, sm_oks_c] at o2
    refine ⟨⟨o1, sm_oks_c.mpr ⟨trivial, o2.2.2⟩⟩, fun k H locs la hP hS hl => ?_⟩
    exact lv_ior hx hb hdg (k H locs la hP hS hl)
  · rename_i he
    rw [he] at hf hdg
    have f1 : Nat.beq len 1 = true := hf
    have f1 := Nat.eq_of_beq_eq_true f1
    subst f1
    obtain ⟨x, y, st1, hv, hS⟩ := sm_b_inv h
    cases hS
    subst hv
    rw [sm_oks_c, sm_oks_c] at o2
    refine ⟨⟨o1, sm_oks_c.mpr ⟨trivial, o2.2.2⟩⟩, fun k H locs la hP hS hl => ?_⟩
    exact lv_ixor hx hb hdg (k H locs la hP hS hl)
  · rename_i he
    rw [he] at hf hdg
    have f1 : Nat.beq len 1 = true := hf
    have f1 := Nat.eq_of_beq_eq_true f1
    subst f1
    obtain ⟨x, y, st1, hv, hy, hS⟩ := sm_bd_inv h
    cases hS
    subst hv
    rw [sm_oks_c, sm_oks_c] at o2
    refine ⟨⟨o1, sm_oks_c.mpr ⟨trivial, o2.2.2⟩⟩, fun k H locs la hP hS hl => ?_⟩
    exact lv_idiv hx hb hdg hy (k H locs la hP hS hl)
  · rename_i he
    rw [he] at hf hdg
    have f1 : Nat.beq len 1 = true := hf
    have f1 := Nat.eq_of_beq_eq_true f1
    subst f1
    obtain ⟨x, y, st1, hv, hy, hS⟩ := sm_bd_inv h
    cases hS
    subst hv
    rw [sm_oks_c, sm_oks_c] at o2
    refine ⟨⟨o1, sm_oks_c.mpr ⟨trivial, o2.2.2⟩⟩, fun k H locs la hP hS hl => ?_⟩
    exact lv_irem hx hb hdg hy (k H locs la hP hS hl)
  · rename_i he
    rw [he] at hf hdg
    have f1 : Nat.beq len 1 = true := hf
    have f1 := Nat.eq_of_beq_eq_true f1
    subst f1
    obtain ⟨x, y, st1, hv, hS⟩ := sm_b_inv h
    cases hS
    subst hv
    rw [sm_oks_c, sm_oks_c] at o2
    refine ⟨⟨o1, sm_oks_c.mpr ⟨trivial, o2.2.2⟩⟩, fun k H locs la hP hS hl => ?_⟩
    exact lv_ishl hx hb hdg (k H locs la hP hS hl)
  · rename_i he
    rw [he] at hf hdg
    have f1 : Nat.beq len 1 = true := hf
    have f1 := Nat.eq_of_beq_eq_true f1
    subst f1
    obtain ⟨x, y, st1, hv, hS⟩ := sm_b_inv h
    cases hS
    subst hv
    rw [sm_oks_c, sm_oks_c] at o2
    refine ⟨⟨o1, sm_oks_c.mpr ⟨trivial, o2.2.2⟩⟩, fun k H locs la hP hS hl => ?_⟩
    exact lv_ishr hx hb hdg (k H locs la hP hS hl)
  · rename_i he
    rw [he] at hf hdg
    have f1 : Nat.beq len 1 = true := hf
    have f1 := Nat.eq_of_beq_eq_true f1
    subst f1
    obtain ⟨x, y, st1, hv, hS⟩ := sm_b_inv h
    cases hS
    subst hv
    rw [sm_oks_c, sm_oks_c] at o2
    refine ⟨⟨o1, sm_oks_c.mpr ⟨trivial, o2.2.2⟩⟩, fun k H locs la hP hS hl => ?_⟩
    exact lv_iushr hx hb hdg rfl (k H locs la hP hS hl)
  · rename_i he
    rw [he] at hf hdg
    have f1 : Nat.beq len 1 = true := hf
    have f1 := Nat.eq_of_beq_eq_true f1
    subst f1
    obtain ⟨x, y, st1, hv, hS⟩ := sm_bl_inv h
    cases hS
    subst hv
    rw [sm_oks_c, sm_oks_c] at o2
    refine ⟨⟨o1, sm_oks_c.mpr ⟨trivial, o2.2.2⟩⟩, fun k H locs la hP hS hl => ?_⟩
    exact lv_ladd hx hb hdg (k H locs la hP hS hl)
  · rename_i he
    rw [he] at hf hdg
    have f1 : Nat.beq len 1 = true := hf
    have f1 := Nat.eq_of_beq_eq_true f1
    subst f1
    obtain ⟨x, y, st1, hv, hS⟩ := sm_bl_inv h
    cases hS
    subst hv
    rw [sm_oks_c, sm_oks_c] at o2
    refine ⟨⟨o1, sm_oks_c.mpr ⟨trivial, o2.2.2⟩⟩, fun k H locs la hP hS hl => ?_⟩
    exact lv_lsub hx hb hdg (k H locs la hP hS hl)
  · rename_i he
    rw [he] at hf hdg
    have f1 : Nat.beq len 1 = true := hf
    have f1 := Nat.eq_of_beq_eq_true f1
    subst f1
    obtain ⟨x, y, st1, hv, hS⟩ := sm_bl_inv h
    cases hS
    subst hv
    rw [sm_oks_c, sm_oks_c] at o2
    refine ⟨⟨o1, sm_oks_c.mpr ⟨trivial, o2.2.2⟩⟩, fun k H locs la hP hS hl => ?_⟩
    exact lv_lmul hx hb hdg (k H locs la hP hS hl)
  · rename_i he
    rw [he] at hf hdg
    have f1 : Nat.beq len 1 = true := hf
    have f1 := Nat.eq_of_beq_eq_true f1
    subst f1
    obtain ⟨x, y, st1, hv, hS⟩ := sm_bl_inv h
    cases hS
    subst hv
    rw [sm_oks_c, sm_oks_c] at o2
    refine ⟨⟨o1, sm_oks_c.mpr ⟨trivial, o2.2.2⟩⟩, fun k H locs la hP hS hl => ?_⟩
    exact lv_land hx hb hdg (k H locs la hP hS hl)
  · rename_i he
    rw [he] at hf hdg
    have f1 : Nat.beq len 1 = true := hf
    have f1 := Nat.eq_of_beq_eq_true f1
    subst f1
    obtain ⟨x, y, st1, hv, hS⟩ := sm_bl_inv h
    cases hS
    subst hv
    rw [sm_oks_c, sm_oks_c] at o2
    refine ⟨⟨o1, sm_oks_c.mpr ⟨trivial, o2.2.2⟩⟩, fun k H locs la hP hS hl => ?_⟩
    exact lv_lor hx hb hdg (k H locs la hP hS hl)
  · rename_i he
    rw [he] at hf hdg
    have f1 : Nat.beq len 1 = true := hf
    have f1 := Nat.eq_of_beq_eq_true f1
    subst f1
    obtain ⟨x, y, st1, hv, hS⟩ := sm_bs_inv h
    cases hS
    subst hv
    rw [sm_oks_c, sm_oks_c] at o2
    refine ⟨⟨o1, sm_oks_c.mpr ⟨trivial, o2.2.2⟩⟩, fun k H locs la hP hS hl => ?_⟩
    exact lv_lshl hx hb hdg rfl (k H locs la hP hS hl)
  · rename_i he
    rw [he] at hf hdg
    have f1 : Nat.beq len 1 = true := hf
    have f1 := Nat.eq_of_beq_eq_true f1
    subst f1
    obtain ⟨x, y, st1, hv, hS⟩ := sm_bs_inv h
    cases hS
    subst hv
    rw [sm_oks_c, sm_oks_c] at o2
    refine ⟨⟨o1, sm_oks_c.mpr ⟨trivial, o2.2.2⟩⟩, fun k H locs la hP hS hl => ?_⟩
    exact lv_lushr hx hb hdg rfl (k H locs la hP hS hl)
  · rename_i he
    rw [he] at hf hdg
    have f1 : Nat.beq len 1 = true := hf
    have f1 := Nat.eq_of_beq_eq_true f1
    subst f1
    obtain ⟨x, y, st1, hv, hS⟩ := sm_cmp_inv h
    cases hS
    subst hv
    rw [sm_oks_c, sm_oks_c] at o2
    refine ⟨⟨o1, sm_oks_c.mpr ⟨trivial, o2.2.2⟩⟩, fun k H locs la hP hS hl => ?_⟩
    exact W.lcmp hx hb hdg (k H locs la hP hS hl)
  · rename_i he
    rw [he] at hf hdg
    have f1 : Nat.beq len 1 = true := hf
    have f1 := Nat.eq_of_beq_eq_true f1
    subst f1
    obtain ⟨x, st1, hv, hS⟩ := sm_i2l_inv h
    cases hS
    subst hv
    rw [sm_oks_c] at o2
    refine ⟨⟨o1, sm_oks_c.mpr ⟨trivial, o2.2⟩⟩, fun k H locs la hP hS hl => ?_⟩
    exact lv_i2l hx hb hdg rfl (k H locs la hP hS hl)
  · rename_i he
    rw [he] at hf hdg
    have f1 : Nat.beq len 1 = true := hf
    have f1 := Nat.eq_of_beq_eq_true f1
    subst f1
    obtain ⟨x, st1, hv, hS⟩ := sm_l2i_inv h
    cases hS
    subst hv
    rw [sm_oks_c] at o2
    refine ⟨⟨o1, sm_oks_c.mpr ⟨trivial, o2.2⟩⟩, fun k H locs la hP hS hl => ?_⟩
    exact lv_l2i hx hb hdg rfl (k H locs la hP hS hl)
  · rename_i he
    rw [he] at hf hdg
    have f1 : Nat.beq len 1 = true := hf
    have f1 := Nat.eq_of_beq_eq_true f1
    subst f1
    unfold sm_dup at h
    split at h
    · cases h
      rw [sm_oks_c] at o2
      refine ⟨⟨o1, sm_oks_c.mpr ⟨o2.1, sm_oks_c.mpr o2⟩⟩, fun k H locs la hP hS hl => ?_⟩
      exact lv_dup hx hb hdg rfl (k H locs la hP hS hl)
    · cases h
      rw [sm_oks_c] at o2
      refine ⟨⟨o1, sm_oks_c.mpr ⟨o2.1, sm_oks_c.mpr o2⟩⟩, fun k H locs la hP hS hl => ?_⟩
      exact lv_dup hx hb hdg rfl (k H locs la hP hS hl)
    · cases h
  · rename_i he
    rw [he] at hf hdg
    have f1 : Nat.beq len 1 = true := hf
    have f1 := Nat.eq_of_beq_eq_true f1
    subst f1
    unfold sm_dup2 at h
    split at h
    · cases h
      rw [sm_oks_c, sm_oks_c] at o2
      refine ⟨⟨o1, sm_oks_c.mpr ⟨o2.1, sm_oks_c.mpr ⟨o2.2.1, sm_oks_c.mpr ⟨o2.1, sm_oks_c.mpr o2.2⟩⟩⟩⟩, fun k H locs la hP hS hl => ?_⟩
      exact lv_dup2_11 hx hb hdg rfl rfl (k H locs la hP hS hl)
    · cases h
      rw [sm_oks_c, sm_oks_c] at o2
      refine ⟨⟨o1, sm_oks_c.mpr ⟨o2.1, sm_oks_c.mpr ⟨o2.2.1, sm_oks_c.mpr ⟨o2.1, sm_oks_c.mpr o2.2⟩⟩⟩⟩, fun k H locs la hP hS hl => ?_⟩
      exact lv_dup2_11 hx hb hdg rfl rfl (k H locs la hP hS hl)
    · cases h
  · rename_i he
    rw [he] at hf hdg
    have f1 : Nat.beq len 1 = true := hf
    have f1 := Nat.eq_of_beq_eq_true f1
    subst f1
    unfold sm_pop at h
    split at h
    · cases h
      rw [sm_oks_c] at o2
      refine ⟨⟨o1, o2.2⟩, fun k H locs la hP hS hl => ?_⟩
      exact lv_pop hx hb hdg rfl (k H locs la hP hS hl)
    · cases h
      rw [sm_oks_c] at o2
      refine ⟨⟨o1, o2.2⟩, fun k H locs la hP hS hl => ?_⟩
      exact lv_pop hx hb hdg rfl (k H locs la hP hS hl)
    · cases h
  · rename_i n he
    rw [he] at hf hdg
    have hf : (Nat.beq len 3 && sm_fg own n i.2.2) = true := hf
    rw [Bool.and_eq_true] at hf
    obtain ⟨f1, f2⟩ := hf
    have f1 := Nat.eq_of_beq_eq_true f1
    subst f1
    exact sm_gf_ok hx hb hown hts hK f2 hdg h o1 o2
  · rename_i n he
    rw [he] at hf hdg
    have hf : (Nat.beq len 3 && sm_fp own n i.2.2) = true := hf
    rw [Bool.and_eq_true] at hf
    obtain ⟨f1, f2⟩ := hf
    have f1 := Nat.eq_of_beq_eq_true f1
    subst f1
    exact sm_pf_ok hx hb hown hts hK hD f2 hdg h o1 o2
  · rename_i he
    rw [he] at hf hdg
    have f1 : Nat.beq len 1 = true := hf
    have f1 := Nat.eq_of_beq_eq_true f1
    subst f1
    obtain ⟨ix, c1, p1, j1, st1, n, hv, hh⟩ := sm_ial_inv h
    subst hv
    rw [sm_oks_c, sm_oks_c] at o2
    have hj : j1 ≠ 0 := by
      rintro rfl
      have q := lt_al_0 c1
      rcases hh with ⟨q2, -, -⟩ | ⟨q2, -, -⟩ <;> rw [q2] at q <;> cases q
    rcases hh with ⟨ha, hi, hS⟩ | ⟨ha, hi, hS⟩
    · cases hS
      refine ⟨⟨o1, sm_oks_c.mpr ⟨trivial, o2.2.2⟩⟩, fun k H locs la hP hS hl => ?_⟩
      rcases o2.2.1 with hr | ⟨hz, hr⟩
      · obtain ⟨q0, hq, hw⟩ := sm_W_at (tc := tc) (ad := ad) M hr
        rw [sm_ce_i M hj ha] at hw
        exact va_iald hx hb hK hP q0 0 hw rfl (sm_ib_in hi) hdg (k H locs la hP hS hl)
      · cases hr
        cases ha
    · cases hS
      refine ⟨⟨o1, sm_oks_c.mpr ⟨trivial, o2.2.2⟩⟩, fun k H locs la hP hS hl => ?_⟩
      rcases o2.2.1 with hr | ⟨hz, hr⟩
      · exact absurd ha (sm_ids_100 hr hj)
      · cases hr
        obtain ⟨hX, hbl, hbA⟩ := hscr hz
        exact va_sld hx hb hX hbl hbA hS (sm_ib_in hi) hdg (k H locs la hP hS hl)
  · rename_i he
    rw [he] at hf hdg
    have f1 : Nat.beq len 1 = true := hf
    have f1 := Nat.eq_of_beq_eq_true f1
    subst f1
    obtain ⟨ix, c1, p1, j1, st1, n, hv, hh⟩ := sm_ial_inv h
    subst hv
    rw [sm_oks_c, sm_oks_c] at o2
    have hj : j1 ≠ 0 := by
      rintro rfl
      have q := lt_al_0 c1
      rcases hh with ⟨q2, -, -⟩ | ⟨q2, -, -⟩ <;> rw [q2] at q <;> cases q
    rcases hh with ⟨ha, hi, hS⟩ | ⟨ha, hi, hS⟩
    · cases hS
      refine ⟨⟨o1, sm_oks_c.mpr ⟨trivial, o2.2.2⟩⟩, fun k H locs la hP hS hl => ?_⟩
      rcases o2.2.1 with hr | ⟨hz, hr⟩
      · obtain ⟨q0, hq, hw⟩ := sm_W_at (tc := tc) (ad := ad) M hr
        rw [sm_ce_z M hj ha] at hw
        exact va_zald hx hb hK hP q0 1 hw rfl (sm_ib_in hi) hdg (k H locs la hP hS hl)
      · cases hr
        cases ha
    · cases hS
      refine ⟨⟨o1, sm_oks_c.mpr ⟨trivial, o2.2.2⟩⟩, fun k H locs la hP hS hl => ?_⟩
      rcases o2.2.1 with hr | ⟨hz, hr⟩
      · exact absurd ha (sm_ids_100 hr hj)
      · cases hr
        cases ha
  · rename_i he
    rw [he] at hf hdg
    have f1 : Nat.beq len 1 = true := hf
    have f1 := Nat.eq_of_beq_eq_true f1
    subst f1
    obtain ⟨ix, c1, p1, j1, st1, kd, n, hv, ha, rfl, hi, hS⟩ := sm_lal_inv h
    subst hv
    rw [sm_oks_c, sm_oks_c] at o2
    have hj : j1 ≠ 0 := by
      rintro rfl
      have q := lt_al_0 c1
      rw [ha] at q
      cases q
    cases hS
    refine ⟨⟨o1, sm_oks_c.mpr ⟨trivial, o2.2.2⟩⟩, fun k H locs la hP hS hl => ?_⟩
    rcases o2.2.1 with hr | ⟨hz, hr⟩
    · obtain ⟨q0, hq, hw⟩ := sm_W_at (tc := tc) (ad := ad) M hr
      rw [sm_ce_l M hj ha] at hw
      exact va_lald hx hb hK hP q0 2 hw rfl (sm_ib_in hi) hdg (k H locs la hP hS hl)
    · cases hr
      cases ha
  · rename_i he
    rw [he] at hf hdg
    have f1 : Nat.beq len 1 = true := hf
    have f1 := Nat.eq_of_beq_eq_true f1
    subst f1
    obtain ⟨ix, c1, p1, j1, st1, kd, n, hv, ha, ⟨hk3, hk99⟩, hi, hS⟩ := sm_aal_inv h
    subst hv
    rw [sm_oks_c, sm_oks_c] at o2
    have hj : j1 ≠ 0 := by
      rintro rfl
      have q := lt_al_0 c1
      rw [ha] at q
      have q' : kd = 9999 := q
      omega
    cases hS
    rcases o2.2.1 with hr | ⟨hz, hr⟩
    · obtain ⟨hkd, hel⟩ := sm_ids_q hr hj ha hk3
      refine ⟨⟨o1, sm_oks_c.mpr ⟨Or.inl (hel _ (sm_ib_lt hi)), o2.2.2⟩⟩, fun k H locs la hP hS hl => ?_⟩
      obtain ⟨q0, hq, hw⟩ := sm_W_at (tc := tc) (ad := ad) M hr
      rw [sm_ce_q M hj ha hk3] at hw
      rcases hkd with rfl | rfl | rfl | rfl
      · exact va_aldq hx hb hK hP q0 3 hw rfl (sm_ib_in hi) hdg (k H locs la hP hS hl)
      · exact va_aldq hx hb hK hP q0 4 hw rfl (sm_ib_in hi) hdg (k H locs la hP hS hl)
      · exact va_aldq hx hb hK hP q0 5 hw rfl (sm_ib_in hi) hdg (k H locs la hP hS hl)
      · exact va_aldq hx hb hK hP q0 6 hw rfl (sm_ib_in hi) hdg (k H locs la hP hS hl)
    · cases hr
      cases ha
      omega
  · rename_i he
    rw [he] at hf hdg
    have f1 : Nat.beq len 1 = true := hf
    have f1 := Nat.eq_of_beq_eq_true f1
    subst f1
    obtain ⟨x, ix, c1, p1, j1, st1, kd, n, hv, ha, rfl, hi, hS⟩ := sm_ias_inv h
    subst hv
    rw [sm_oks_c, sm_oks_c, sm_oks_c] at o2
    have hj : j1 ≠ 0 := by
      rintro rfl
      have q := lt_al_0 c1
      rw [ha] at q
      cases q
    cases hS
    refine ⟨⟨o1, o2.2.2.2⟩, fun k H locs la hP hS hl => ?_⟩
    rcases o2.2.2.1 with hr | ⟨hz, hr⟩
    · obtain ⟨q0, hq, hw⟩ := sm_W_at (tc := tc) (ad := ad) M hr
      rw [sm_ce_i M hj ha] at hw
      refine va_iast hx hb hK hP (hD M) hS q0 0 hw rfl (sm_ib_in hi) hdg (fun H1 locs1 hP1 hD1 hS1 => k H1 locs1 la ?_ hS1 hl)
      have e1 := sm_W_set (tc := tc) (ad := ad) (M := M) (M' := sm_u M c1 p1 j1 ix.toNatClampNeg x) hq (fun r' hr' => sm_ce_eq (sm_u_ne hr') rfl)
      rw [sm_ce_i _ hj ha, sm_u_at] at e1
      rw [← e1]
      exact hP1
    · cases hr
      cases ha
  · rename_i he
    rw [he] at hf hdg
    have f1 : Nat.beq len 1 = true := hf
    have f1 := Nat.eq_of_beq_eq_true f1
    subst f1
    obtain ⟨x, ix, c1, p1, j1, st1, kd, n, hv, ha, rfl, hi, hS⟩ := sm_zas_inv h
    subst hv
    rw [sm_oks_c, sm_oks_c, sm_oks_c] at o2
    have hj : j1 ≠ 0 := by
      rintro rfl
      have q := lt_al_0 c1
      rw [ha] at q
      cases q
    cases hS
    refine ⟨⟨o1, o2.2.2.2⟩, fun k H locs la hP hS hl => ?_⟩
    rcases o2.2.2.1 with hr | ⟨hz, hr⟩
    · obtain ⟨q0, hq, hw⟩ := sm_W_at (tc := tc) (ad := ad) M hr
      rw [sm_ce_z M hj ha] at hw
      refine va_zast hx hb hK hP (hD M) hS q0 1 hw rfl (sm_ib_in hi) hdg (fun H1 locs1 hP1 hD1 hS1 => k H1 locs1 la ?_ hS1 hl)
      have e1 := sm_W_set (tc := tc) (ad := ad) (M := M) (M' := sm_u M c1 p1 j1 ix.toNatClampNeg (vp_nar .boolean x)) hq (fun r' hr' => sm_ce_eq (sm_u_ne hr') rfl)
      rw [sm_ce_z _ hj ha, sm_u_at] at e1
      rw [← e1]
      exact hP1
    · cases hr
      cases ha
  · rename_i he
    rw [he] at hf hdg
    have f1 : Nat.beq len 1 = true := hf
    have f1 := Nat.eq_of_beq_eq_true f1
    subst f1
    obtain ⟨x, ix, c1, p1, j1, st1, kd, n, hv, ha, rfl, hi, hS⟩ := sm_las_inv h
    subst hv
    rw [sm_oks_c, sm_oks_c, sm_oks_c] at o2
    have hj : j1 ≠ 0 := by
      rintro rfl
      have q := lt_al_0 c1
      rw [ha] at q
      cases q
    cases hS
    refine ⟨⟨o1, o2.2.2.2⟩, fun k H locs la hP hS hl => ?_⟩
    rcases o2.2.2.1 with hr | ⟨hz, hr⟩
    · obtain ⟨q0, hq, hw⟩ := sm_W_at (tc := tc) (ad := ad) M hr
      rw [sm_ce_l M hj ha] at hw
      refine va_last hx hb hK hP (hD M) hS q0 2 hw rfl (sm_ib_in hi) hdg (fun H1 locs1 hP1 hD1 hS1 => k H1 locs1 la ?_ hS1 hl)
      have e1 := sm_W_set (tc := tc) (ad := ad) (M := M) (M' := sm_w M c1 p1 j1 ix.toNatClampNeg x) hq (fun r' hr' => sm_ce_eq rfl (sm_w_ne hr'))
      rw [sm_ce_l _ hj ha, sm_w_at] at e1
      rw [← e1]
      exact hP1
    · cases hr
      cases ha
  · rename_i he
    rw [he] at hf hdg
    have f1 : Nat.beq len 1 = true := hf
    have f1 := Nat.eq_of_beq_eq_true f1
    subst f1
    unfold sm_len at h
    split at h
    · rename_i c1 p1 j1 st1
      rw [sm_oks_c] at o2
      cases ha : lt_al c1 j1 with
      | mk kd n =>
        rw [ha] at h
        have h : (bif Nat.ble kd 2 then some (ls, Sum.inl (nI n) :: st1, M) else bif Nat.beq kd 100 then some (ls, Sum.inl (nI sc.1) :: st1, M) else none) = some (ls', st', M') := h
        have hj0 : kd = 9999 ∨ j1 ≠ 0 := by
          by_cases q : j1 = 0
          · subst q
            have q := lt_al_0 c1
            rw [ha] at q
            exact Or.inl q
          · exact Or.inr q
        cases hb1 : Nat.ble kd 2 with
        | true =>
          rw [hb1] at h
          cases h
          have hk2 := Nat.le_of_ble_eq_true hb1
          have hj : j1 ≠ 0 := by
            rcases hj0 with q | q
            · omega
            · exact q
          refine ⟨⟨o1, sm_oks_c.mpr ⟨trivial, o2.2⟩⟩, fun k H locs la hP hS hl => ?_⟩
          rcases o2.1 with hr | ⟨hz, hr⟩
          · obtain ⟨q0, hq, hw⟩ := sm_W_at (tc := tc) (ad := ad) M hr
            match kd, ha, hk2 with
            | 0, ha, _ =>
              rw [sm_ce_i M hj ha] at hw
              exact va_alen hx hb hK hP q0 0 hw rfl rfl hdg (k H locs la hP hS hl)
            | 1, ha, _ =>
              rw [sm_ce_z M hj ha] at hw
              exact va_alen hx hb hK hP q0 1 hw rfl rfl hdg (k H locs la hP hS hl)
            | 2, ha, _ =>
              rw [sm_ce_l M hj ha] at hw
              exact va_alen hx hb hK hP q0 2 hw rfl rfl hdg (k H locs la hP hS hl)
          · cases hr
            cases ha
            omega
        | false =>
          rw [hb1] at h
          cases hb2 : Nat.beq kd 100 with
          | true =>
            have hk := Nat.eq_of_beq_eq_true hb2
            subst hk
            rw [hb2] at h
            cases h
            refine ⟨⟨o1, sm_oks_c.mpr ⟨trivial, o2.2⟩⟩, fun k H locs la hP hS hl => ?_⟩
            have hj : j1 ≠ 0 := by
              rcases hj0 with q | q
              · omega
              · exact q
            rcases o2.1 with hr | ⟨hz, hr⟩
            · exact absurd ha (sm_ids_100 (k := 0) hr hj)
            · cases hr
              obtain ⟨hX, hbl, hbA⟩ := hscr hz
              exact va_slen hx hb hX hbl hbA hS hdg (k H locs la hP hS hl)
          | false =>
            rw [hb2] at h
            cases h
    · cases h
  · cases h
end SND
