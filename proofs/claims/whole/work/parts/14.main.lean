/-! THE SMALL MACHINE IS SOUND: the walk of a method, and the methods by induction -/
def sm_fd (own : String) (nL : Nat) (cc : ByteArray) (f : Nat → Bool) (pc : Nat) (i : sm_I) : Bool := match decode cc pc with
  | .ok (j, len) => decide (j = i.1) && (sm_fb own nL len i && f (pc + len))
  | _ => false
theorem sm_fd_inv {own : String} {nL : Nat} {cc : ByteArray} {f : Nat → Bool} {pc : Nat} {i : sm_I} (h : sm_fd own nL cc f pc i = true) : ∃ len, decode cc pc = .ok (i.1, len) ∧ sm_fb own nL len i = true ∧ f (pc + len) = true := by
  unfold sm_fd at h
  split at h
  · rename_i j len hd
    rw [Bool.and_eq_true, Bool.and_eq_true] at h
    have e := of_decide_eq_true h.1
    subst e
    exact ⟨len, hd, h.2.1, h.2.2⟩
  · cases h
set_option maxHeartbeats 4000000 in
theorem sm_fit_d {own : String} {nL fr lo : Nat} {ret : Option FieldType} {cc : ByteArray} {pcs : Nat → Nat} {pc : Nat} {i : sm_I} {is : List sm_I} (hf : sm_fit own nL fr lo ret cc pcs pc (i :: is) = true) {sc : Nat × (Nat → Int32)} {ls : sm_L} {st : List sm_v} {M : sm_M} {S : sm_S} (hS : sm_s1 lt_al sc i ls st M = some S) :
    ∃ len, decode cc pc = .ok (i.1, len) ∧ sm_fb own nL len i = true ∧ sm_fit own nL fr lo ret cc pcs (pc + len) is = true := by
  refine sm_fd_inv (f := fun pc => sm_fit own nL fr lo ret cc pcs pc is) ?_
  obtain ⟨ins, xs, os⟩ := i
  cases ins <;> first | exact hf | cases hS
theorem sm_bn_inv {o : Option sm_S} {K : sm_L → List sm_v → sm_M → Option sm_R} {R : sm_R} (h : sm_bn o K = some R) : ∃ ls st M, o = some (ls, st, M) ∧ K ls st M = some R := by
  match o, h with
  | some (ls, st, M), h => exact ⟨ls, st, M, rfl, h⟩
theorem sm_ftr_inv {cc : ByteArray} {pc ix len : Nat} {e : Nat} {os : List Nat} (h : sm_ftr cc pc ix len (e :: os) = true) : ∃ is ic tx, len = 3 ∧ decode cc (pc + 3) = .ok (.dup, 1) ∧ decode cc (pc + 4) = .ok (.ldc is, 2) ∧ decode cc (pc + 6) = .ok (.invokespecial ic, 3) ∧ decode cc (pc + 9) = .ok (.athrow, 1) ∧ lt_xk e = (ix, ic) ∧ lt_tx is = some tx := by
  match os, h with
  | is :: ic :: os, h =>
    have h' : (Nat.beq len 3 && decide (decode cc (pc + 3) = .ok (.dup, 1)) && decide (decode cc (pc + 4) = .ok (.ldc is, 2)) && decide (decode cc (pc + 6) = .ok (.invokespecial ic, 3)) && decide (decode cc (pc + 9) = .ok (.athrow, 1)) && decide (lt_xk e = (ix, ic)) && (lt_tx is).isSome) = true := h
    rw [Bool.and_eq_true, Bool.and_eq_true, Bool.and_eq_true, Bool.and_eq_true, Bool.and_eq_true, Bool.and_eq_true] at h'
    obtain ⟨⟨⟨⟨⟨⟨f1, f2⟩, f3⟩, f4⟩, f5⟩, f6⟩, f7⟩ := h'
    obtain ⟨tx, ht⟩ := Option.isSome_iff_exists.mp f7
    exact ⟨is, ic, tx, Nat.eq_of_beq_eq_true f1, of_decide_eq_true f2, of_decide_eq_true f3, of_decide_eq_true f4, of_decide_eq_true f5, of_decide_eq_true f6, ht⟩
/-- an end of a method -/
def sm_End (ret : Option FieldType) (cc : ByteArray) (pc : Nat) (st : List sm_v) (M : sm_M) (R0 : sm_R) : Prop :=
  (∃ x, st = [.inl x] ∧ R0 = (0, .inl x, M) ∧ decode cc pc = .ok (.ireturn, 1) ∧ (ret = some .int ∨ (ret = some .boolean ∧ (x = 0 ∨ x = 1)))) ∨
  (∃ x, st = [.inr (.inl x)] ∧ R0 = (0, .inr (.inl x), M) ∧ decode cc pc = .ok (.lreturn, 1) ∧ ret = some .long) ∨
  (∃ r C, st = [.inr (.inr r)] ∧ R0 = (0, .inr (.inr r), M) ∧ decode cc pc = .ok (.areturn, 1) ∧ ret = some (.object C)) ∨
  (st = [] ∧ R0 = (0, .inl 0, M) ∧ decode cc pc = .ok (.return_, 1) ∧ ret = none) ∨
  (∃ e ix is ic tx, st = [] ∧ R0 = (e + 1, .inl 0, M) ∧ decode cc pc = .ok (.new ix, 3) ∧ decode cc (pc + 3) = .ok (.dup, 1) ∧ decode cc (pc + 4) = .ok (.ldc is, 2) ∧ decode cc (pc + 6) = .ok (.invokespecial ic, 3) ∧ decode cc (pc + 9) = .ok (.athrow, 1) ∧ lt_xk e = (ix, ic) ∧ lt_tx is = some tx)
section MAIN
variable {p : Program} {l : Launch} {e : Env} {R : Room} {s : State} {m : MethodId} {args : Array Value} {below : List Frame} {meth : Method} {c : Code} {cells slots : Nat} {Q : State → Prop}
variable {cc : ByteArray} {nL : Nat} {own : String} {D : va_G} {tc : Nat → ClassId} {ad : Nat × Nat × Nat → Nat} {A : Nat → Prop} {H0 : Heap} {sc : Nat × (Nat → Int32)} {z : Bool}
theorem sm_ft_eq {pcs : Nat → Nat} {pc t : Nat} {off : Int} (h : sm_ft pcs pc off t = true) : (pc : Int) + off = (pcs t : Int) := of_decide_eq_true h
theorem sm_nat1 (X : sm_Cx p s m args c cc nL own D tc ad A H0 sc z) {fr lo pc ix w : Nat} (hR : fr ≤ R.frames ∧ lo ≤ R.locals ∧ cells ≤ R.cells ∧ slots ≤ R.slots) {K : List sm_v → sm_M → Option sm_R} {R0 : sm_R} (mx : Bool)
    (hf : (sm_wd w (.methodLink own ix (match mx with | true => Lib.Math.max.name | false => Lib.Math.min.name)) && Nat.ble 1 fr && Nat.ble 21 lo) = true) (hdg : decode cc pc = .ok (.invokestatic ix, 3)) {ls : sm_L} {x y : Int32} {st : List sm_v} {M : sm_M}
    (h : (bif Nat.ble (sm_cats st) 8 then K (.inl (match mx with | true => (if x < y then y else x) | false => (if y < x then y else x)) :: st) M else none) = some R0) (o2 : sm_oks z st)
    (k : ∀ st M, K st M = some R0 → sm_oks z st → sm_SW D tc ad A H0 nL (sm_KW p l e R s m args below meth c cells slots Q) (pc + 3) ls st M) :
    sm_SW D tc ad A H0 nL (sm_KW p l e R s m args below meth c cells slots Q) pc ls (.inl y :: .inl x :: st) M := by
  obtain ⟨hx, hb, hml, hown, hts, hK, hD, hN, hA, hscr⟩ := X
  rw [Bool.and_eq_true, Bool.and_eq_true] at hf
  obtain ⟨⟨f1, f2⟩, f3⟩ := hf
  have f1 := hts _ (sm_wd_in f1)
  have f2 := Nat.le_of_ble_eq_true f2
  have f3 := Nat.le_of_ble_eq_true f3
  obtain ⟨w1, w2, w3, w4, w5⟩ := sm_minw
  cases hb1 : Nat.ble (sm_cats st) 8 with
  | false => rw [hb1] at h; cases h
  | true =>
    rw [hb1] at h
    have hcat := Nat.le_of_ble_eq_true hb1
    intro H locs la hP hS hl
    have k1 := k _ _ h (sm_oks_c.mpr ⟨trivial, o2⟩) H locs la hP hS hl
    cases mx with
    | true => exact va_mmax hx hb (hml.trans hl.1.symm) hown f1 (hts _ w4) (hts _ w2) (hts _ w5) (Nat.le_trans f2 hR.1) (by rw [sm_cats_eq]; exact Nat.le_trans (by omega) hR.2.1) hR.2.2.1 hR.2.2.2 hdg k1
    | false => exact va_mmin hx hb (hml.trans hl.1.symm) hown f1 (hts _ w1) (hts _ w2) (hts _ w3) (Nat.le_trans f2 hR.1) (by rw [sm_cats_eq]; exact Nat.le_trans (by omega) hR.2.1) hR.2.2.1 hR.2.2.2 hdg k1
theorem sm_cp_ne {M : sm_M} {c0 p0 j0 c1 p1 j1 sp dp n : Nat} {r : Nat × Nat × Nat} (h : r ≠ (c1, p1, j1)) : (sm_cp M c0 p0 j0 c1 p1 j1 sp dp n).1 r.1 r.2.1 r.2.2 = M.1 r.1 r.2.1 r.2.2 := by
  show (if r.1 = c1 ∧ r.2.1 = p1 ∧ r.2.2 = j1 then _ else M.1 r.1 r.2.1 r.2.2) = _
  rw [if_neg]
  rintro ⟨h1, h2, h3⟩
  exact h (by rw [← h1, ← h2, ← h3])
theorem sm_cp_at {M : sm_M} {c0 p0 j0 c1 p1 j1 sp dp n : Nat} : (sm_cp M c0 p0 j0 c1 p1 j1 sp dp n).1 c1 p1 j1 = va_cpy (M.1 c0 p0 j0) (M.1 c1 p1 j1) sp dp n := by
  show (if c1 = c1 ∧ p1 = p1 ∧ j1 = j1 then _ else _) = _
  rw [if_pos ⟨rfl, rfl, rfl⟩]
theorem sm_nat3 (X : sm_Cx p s m args c cc nL own D tc ad A H0 sc z) {fr lo pc ix w : Nat} (hR : fr ≤ R.frames ∧ lo ≤ R.locals ∧ cells ≤ R.cells ∧ slots ≤ R.slots) {K : List sm_v → sm_M → Option sm_R} {R0 : sm_R}
    (hf : (sm_wd w (.methodLink own ix arraycopyName) && Nat.ble 1 fr && Nat.ble (8 + (nativeFrameWords "java/lang/System" "arraycopy" 5 + 11)) lo) = true) (hdg : decode cc pc = .ok (.invokestatic ix, 3)) {ls : sm_L} {n dp sp : Int32} {c0 p0 j0 c1 p1 j1 k0 n0 k1 n1 : Nat} {st : List sm_v} {M : sm_M} (ha0 : lt_al c0 j0 = (k0, n0)) (ha1 : lt_al c1 j1 = (k1, n1))
    (h : (bif Nat.beq k0 0 && Nat.beq k1 0 && Nat.ble (sm_cats st) 8 then (if (¬ sp < 0 ∧ ¬ dp < 0 ∧ ¬ n < 0) ∧ sp.toNatClampNeg + n.toNatClampNeg ≤ n0 ∧ dp.toNatClampNeg + n.toNatClampNeg ≤ n1 then K st (sm_cp M c0 p0 j0 c1 p1 j1 sp.toNatClampNeg dp.toNatClampNeg n.toNatClampNeg) else none) else none) = some R0)
    (o2 : sm_oks z (.inl n :: .inl dp :: .inr (.inr (c1, p1, j1)) :: .inl sp :: .inr (.inr (c0, p0, j0)) :: st))
    (k : ∀ st M, K st M = some R0 → sm_oks z st → sm_SW D tc ad A H0 nL (sm_KW p l e R s m args below meth c cells slots Q) (pc + 3) ls st M) :
    sm_SW D tc ad A H0 nL (sm_KW p l e R s m args below meth c cells slots Q) pc ls (.inl n :: .inl dp :: .inr (.inr (c1, p1, j1)) :: .inl sp :: .inr (.inr (c0, p0, j0)) :: st) M := by
  obtain ⟨hx, hb, hml, hown, hts, hK, hD, hN, hA, hscr⟩ := X
  rw [Bool.and_eq_true, Bool.and_eq_true] at hf
  obtain ⟨⟨f1, f2⟩, f3⟩ := hf
  have f1 := hts _ (sm_wd_in f1)
  have f2 := Nat.le_of_ble_eq_true f2
  have f3 := Nat.le_of_ble_eq_true f3
  obtain ⟨w1, w2, w3⟩ := sm_copyw
  rw [sm_oks_c, sm_oks_c, sm_oks_c, sm_oks_c, sm_oks_c] at o2
  obtain ⟨-, -, ok1, -, ok0, o2⟩ := o2
  cases hb1 : (Nat.beq k0 0 && Nat.beq k1 0 && Nat.ble (sm_cats st) 8) with
  | false => rw [hb1] at h; cases h
  | true =>
    rw [hb1] at h
    rw [Bool.and_eq_true, Bool.and_eq_true] at hb1
    obtain ⟨⟨q1, q2⟩, q3⟩ := hb1
    have q1 := Nat.eq_of_beq_eq_true q1
    have q2 := Nat.eq_of_beq_eq_true q2
    have hcat := Nat.le_of_ble_eq_true q3
    subst q1; subst q2
    by_cases hc : (¬ sp < 0 ∧ ¬ dp < 0 ∧ ¬ n < 0) ∧ sp.toNatClampNeg + n.toNatClampNeg ≤ n0 ∧ dp.toNatClampNeg + n.toNatClampNeg ≤ n1
    · have h' : (if (¬ sp < 0 ∧ ¬ dp < 0 ∧ ¬ n < 0) ∧ sp.toNatClampNeg + n.toNatClampNeg ≤ n0 ∧ dp.toNatClampNeg + n.toNatClampNeg ≤ n1 then K st (sm_cp M c0 p0 j0 c1 p1 j1 sp.toNatClampNeg dp.toNatClampNeg n.toNatClampNeg) else none) = some R0 := h
      rw [if_pos hc] at h'
      obtain ⟨⟨h1, h2, h3⟩, h4, h5⟩ := hc
      have hj0 : j0 ≠ 0 := by
        rintro rfl
        have q := lt_al_0 c0
        rw [ha0] at q
        cases q
      have hj1 : j1 ≠ 0 := by
        rintro rfl
        have q := lt_al_0 c1
        rw [ha1] at q
        cases q
      intro H locs la hP hS hl
      rcases ok1 with hr1 | ⟨-, hr1⟩
      · rcases ok0 with hr0 | ⟨-, hr0⟩
        · obtain ⟨i0, hi0, hw0⟩ := sm_W_at (tc := tc) (ad := ad) M hr0
          obtain ⟨i1, hi1, hw1⟩ := sm_W_at (tc := tc) (ad := ad) M hr1
          rw [sm_ce_i M hj0 ha0] at hw0
          rw [sm_ce_i M hj1 ha1] at hw1
          refine va_copyi hx hb (hml.trans hl.1.symm) hown f1 (hts _ w1) (hts _ w2) (hts _ w3) hK hP (hD M) hS i0 i1 0 0 (ty := .int) hw0 hw1 rfl rfl rfl h1 h2 h3 h4 h5 (fun _ _ => rfl) (Nat.le_trans f2 hR.1) (by rw [sm_cats_eq]; exact Nat.le_trans (by omega) hR.2.1) hdg (fun H1 locs1 hP1 hD1 hS1 => k _ _ h' o2 H1 locs1 la ?_ hS1 hl)
          have e1 := sm_W_set (tc := tc) (ad := ad) (M := M) (M' := sm_cp M c0 p0 j0 c1 p1 j1 sp.toNatClampNeg dp.toNatClampNeg n.toNatClampNeg) hi1 (fun r' hr' => sm_ce_eq (sm_cp_ne hr') rfl)
          rw [sm_ce_i _ hj1 ha1, sm_cp_at] at e1
          rw [← e1]
          exact hP1
        · cases hr0
          cases ha0
      · cases hr1
        cases ha1
    · have h' : (if (¬ sp < 0 ∧ ¬ dp < 0 ∧ ¬ n < 0) ∧ sp.toNatClampNeg + n.toNatClampNeg ≤ n0 ∧ dp.toNatClampNeg + n.toNatClampNeg ≤ n1 then K st (sm_cp M c0 p0 j0 c1 p1 j1 sp.toNatClampNeg dp.toNatClampNeg n.toNatClampNeg) else none) = some R0 := h
      rw [if_neg hc] at h'
      cases h'
theorem sm_nat4 (X : sm_Cx p s m args c cc nL own D tc ad A H0 sc z) (hF : sm_MetF l D tc ad) {fr lo pc ix w : Nat} (hR : fr ≤ R.frames ∧ lo ≤ R.locals ∧ cells ≤ R.cells ∧ slots ≤ R.slots) {K : List sm_v → sm_M → Option sm_R} {R0 : sm_R}
    (hf : (sm_wd w (.methodLink own ix yA_fill) && Nat.ble 1 fr && Nat.ble (8 + (4 + 11)) lo) = true) (hdg : decode cc pc = .ok (.invokestatic ix, 3)) {ls : sm_L} {x : Int32} {c1 p1 j1 k1 n1 : Nat} {st : List sm_v} {M : sm_M} (ha1 : lt_al c1 j1 = (k1, n1))
    (h : (bif Nat.beq k1 0 && Nat.ble (sm_cats st) 8 && !(Nat.beq c1 99) then K st (sm_fl M c1 p1 j1 x) else none) = some R0)
    (o2 : sm_oks z (.inl x :: .inr (.inr (c1, p1, j1)) :: st))
    (k : ∀ st M, K st M = some R0 → sm_oks z st → sm_SW D tc ad A H0 nL (sm_KW p l e R s m args below meth c cells slots Q) (pc + 3) ls st M) :
    sm_SW D tc ad A H0 nL (sm_KW p l e R s m args below meth c cells slots Q) pc ls (.inl x :: .inr (.inr (c1, p1, j1)) :: st) M := by
  obtain ⟨hx, hb, hml, hown, hts, hK, hD, hN, hA, hscr⟩ := X
  rw [Bool.and_eq_true, Bool.and_eq_true] at hf
  obtain ⟨⟨f1, f2⟩, f3⟩ := hf
  have f1 := hts _ (sm_wd_in f1)
  have f2 := Nat.le_of_ble_eq_true f2
  have f3 := Nat.le_of_ble_eq_true f3
  obtain ⟨w1, w2, w3⟩ := sm_fillw
  rw [sm_oks_c, sm_oks_c] at o2
  obtain ⟨-, ok1, o2⟩ := o2
  cases hb1 : (Nat.beq k1 0 && Nat.ble (sm_cats st) 8 && !(Nat.beq c1 99)) with
  | false => rw [hb1] at h; cases h
  | true =>
    rw [hb1] at h
    rw [Bool.and_eq_true, Bool.and_eq_true] at hb1
    obtain ⟨⟨q1, q2⟩, q3⟩ := hb1
    have q1 := Nat.eq_of_beq_eq_true q1
    have hcat := Nat.le_of_ble_eq_true q2
    subst q1
    have hr1 : (c1, p1, j1) ∈ sm_ids := by
      rcases ok1 with hr1 | ⟨-, hr1⟩
      · exact hr1
      · cases hr1
        cases q3
    intro H locs la hP hS hl
    have hpre := sm_pre hK hD hN hP [.ref (ad (c1, p1, j1)), .int x]
    have hrun := va_runS (p := p) (l := l) (e := e) (R := R) (below := below) (meth := meth) (locs := locs) (cells := cells) (slots := slots) (As := [.ref (ad (c1, p1, j1)), .int x]) (rest := st.map (sm_t ad)) (n := 2) (index := ix) (g := F0 m pc la ((.inl x :: .inr (.inr (c1, p1, j1)) :: st).map (sm_t ad))) ⟨hx, hb, hml, hown, hts⟩ (hF c1 p1 j1 n1 x M H.size hr1 ha1)
      ⟨callB_of 2 hts (lw_g_in (fun w hw => by rcases List.mem_cons.mp hw with rfl | hw; exact w3; exact hw)) rfl rfl rfl (hts _ w2) f1 ⟨by decide +kernel, by decide +kernel, by decide +kernel⟩ ⟨Nat.le_trans f2 hR.1, Nat.le_trans f3 hR.2.1⟩, hts _ w1⟩
      hpre rfl rfl hl.1 rfl (lv_room (by rw [sm_cats_eq]; exact hcat)) hdg ⟨hR.2.2.1, hR.2.2.2⟩
    have hFr := sm_freeA hD hA hS M
    refine va_callv (S := Unit) (a := [.ref (ad (c1, p1, j1)), .int x].toArray) hrun hS (fun q _ h => hFr q h) hFr (fun u t H1 locs1 ht hvm hw hB hz1 hk1 hS1 => ?_)
    have hP1 : va_P D vwCl (sm_W tc ad (sm_fl M c1 p1 j1 x)) t.heap := hB
    rw [ht] at hP1
    exact k _ _ h o2 H1 locs1 la hP1 hS1 hl
end MAIN
