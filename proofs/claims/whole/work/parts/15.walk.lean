/-! THE SMALL MACHINE IS SOUND: the walk of a block, of a method; all methods -/
theorem sm_sw_ok {pcs : Nat → Nat} {pc : Nat} {x : Int32} {d : Option sm_R} {G : Nat → Option sm_R} {R0 : sm_R} : ∀ (ks : List sm_v) (os : List Int) (ts : List Nat) (lo : Int), sm_fs pcs pc lo ks os ts = true → sm_sw x d G ks ts = some R0 →
    (d = some R0 ∧ (x.toInt < lo ∨ lo + (os.length : Int) - 1 < x.toInt)) ∨ ∃ (n : Nat) (off : Int) (t : Nat), os[n]? = some off ∧ x.toInt = lo + (n : Int) ∧ (pc : Int) + off = (pcs t : Int) ∧ G t = some R0 := by
  intro ks
  induction ks with
  | nil =>
    intro os ts lo hf h
    cases os with
    | cons o os => cases hf
    | nil =>
      cases ts with
      | cons t ts => cases hf
      | nil =>
        refine Or.inl ⟨h, ?_⟩
        show x.toInt < lo ∨ lo + 0 - 1 < x.toInt
        omega
  | cons k ks ih =>
    intro os ts lo hf h
    rcases k with k | k | k
    · cases os with
      | nil => cases hf
      | cons o os =>
        cases ts with
        | nil => cases hf
        | cons t ts =>
          have hf' : (decide (k.toInt = lo) && sm_ft pcs pc o t && sm_fs pcs pc (lo + 1) ks os ts) = true := hf
          rw [Bool.and_eq_true, Bool.and_eq_true] at hf'
          obtain ⟨⟨f1, f2⟩, f3⟩ := hf'
          have f1 := of_decide_eq_true f1
          have f2 := sm_ft_eq f2
          have h' : (if x = k then G t else sm_sw x d G ks ts) = some R0 := h
          by_cases hx : x = k
          · rw [if_pos hx] at h'
            exact Or.inr ⟨0, o, t, rfl, by rw [hx, f1]; simp, f2, h'⟩
          · rw [if_neg hx] at h'
            have hne : ¬ x.toInt = lo := by
              intro q
              exact hx (Int32.toInt_inj.mp (q.trans f1.symm))
            rcases ih os ts (lo + 1) f3 h' with ⟨g1, g2⟩ | ⟨n, off, t', g1, g2, g3, g4⟩
            · refine Or.inl ⟨g1, ?_⟩
              have e1 : ((o :: os).length : Int) = (os.length : Int) + 1 := by simp
              rw [e1]
              omega
            · exact Or.inr ⟨n + 1, off, t', g1, by rw [g2]; push_cast; omega, g3, g4⟩
    · cases os <;> cases hf
    · cases os <;> cases hf
section WALK
variable {p : Program} {l : Launch} {e : Env} {R : Room} {s : State} {m : MethodId} {args : Array Value} {below : List Frame} {meth : Method} {c : Code} {cells slots : Nat} {Q : State → Prop}
variable {cc : ByteArray} {nL : Nat} {own : String} {D : va_G} {tc : Nat → ClassId} {ad : Nat × Nat × Nat → Nat} {A : Nat → Prop} {H0 : Heap} {sc : Nat × (Nat → Int32)} {z : Bool}
set_option maxHeartbeats 4000000 in
theorem sm_l_ok (X : sm_Cx p s m args c cc nL own D tc ad A H0 sc z) {C : Nat → List sm_v → sm_M → Option sm_R} (hC : sm_CO l D tc ad C) (hF : sm_MetF l D tc ad) {fr lo : Nat} (hR : fr ≤ R.frames ∧ lo ≤ R.locals ∧ cells ≤ R.cells ∧ slots ≤ R.slots) {G : Nat → sm_L → List sm_v → sm_M → Option sm_R} {R0 : sm_R} {ret : Option FieldType} {pcs : Nat → Nat}
    (hG : ∀ b ls st M, G b ls st M = some R0 → sm_okl z ls → sm_oks z st → sm_SW D tc ad A H0 nL (sm_KW p l e R s m args below meth c cells slots Q) (pcs b) ls st M)
    (hE : ∀ pc ls st M, sm_End ret cc pc st M R0 → sm_oks z st → sm_SW D tc ad A H0 nL (sm_KW p l e R s m args below meth c cells slots Q) pc ls st M) :
    ∀ (is : List sm_I) (pc : Nat) (ls : sm_L) (st : List sm_v) (M : sm_M), sm_fit own nL fr lo ret cc pcs pc is = true → sm_l lt_al sc C G is ls st M = some R0 → sm_okl z ls → sm_oks z st → sm_SW D tc ad A H0 nL (sm_KW p l e R s m args below meth c cells slots Q) pc ls st M := by
  intro is
  induction is with
  | nil => intro pc ls st M hf h; cases h
  | cons i is ih =>
    intro pc ls st M hf h o1 o2
    -- a simple step
    have simple : sm_bn (sm_s1 lt_al sc i ls st M) (fun ls st M => sm_l lt_al sc C G is ls st M) = some R0 → sm_SW D tc ad A H0 nL (sm_KW p l e R s m args below meth c cells slots Q) pc ls st M := by
      intro h
      obtain ⟨ls', st', M', hS, h'⟩ := sm_bn_inv h
      obtain ⟨len, hdg, hfb, hft⟩ := sm_fit_d hf hS
      obtain ⟨⟨q1, q2⟩, q3⟩ := sm_s1_ok X hfb hdg hS o1 o2
      exact q3 (ih _ _ _ _ hft h' q1 q2)
    obtain ⟨hx, hb, hml, hown, hts, hK, hD, hN, hA, hscr⟩ := id X
    unfold sm_l at h
    split at h
    -- nop
    · rename_i he
      unfold sm_fit at hf
      rw [he] at hf
      dsimp only at hf
      split at h
      · rename_i t os ho
        rw [ho] at hf
        have e1 := Nat.eq_of_beq_eq_true hf
        rw [← e1]
        exact hG _ _ _ _ h o1 o2
      · cases h
    -- goto
    · rename_i off he
      unfold sm_fit at hf
      rw [he] at hf
      dsimp only at hf
      split at hf
      · rename_i j len hd
        rw [Bool.and_eq_true] at hf
        have ej := of_decide_eq_true hf.1
        subst ej
        split at h
        · rename_i t os ho
          have hf2 := hf.2
          rw [ho] at hf2
          dsimp only at hf2
          rw [Bool.and_eq_true] at hf2
          have e3 := Nat.eq_of_beq_eq_true hf2.1
          subst e3
          intro H locs la hP hS hl
          exact lv_goto hx hb hd (sm_ft_eq hf2.2) (hG _ _ _ _ h o1 o2 H locs la hP hS hl)
        · cases h
      · cases hf
    -- if_icmp
    · rename_i cnd off he
      unfold sm_fit at hf
      rw [he] at hf
      dsimp only at hf
      split at hf
      · rename_i j len hd
        rw [Bool.and_eq_true] at hf
        have ej := of_decide_eq_true hf.1
        subst ej
        split at h
        · rename_i y x st1
          rw [sm_oks_c, sm_oks_c] at o2
          obtain ⟨-, -, o2⟩ := o2
          have hf2 := hf.2
          unfold sm_if at h
          split at h
          · rename_i t f os ho
            rw [ho] at hf2
            dsimp only at hf2
            rw [Bool.and_eq_true, Bool.and_eq_true] at hf2
            obtain ⟨⟨e3, e4⟩, e5⟩ := hf2
            have e3 := Nat.eq_of_beq_eq_true e3
            subst e3
            have e5 := Nat.eq_of_beq_eq_true e5
            have e4 := sm_ft_eq e4
            intro H locs la hP hS hl
            have kt : G t ls st1 M = some R0 → W p l e R s m args below meth c H locs cells slots Q (F0 m (pcs t) la (st1.map (sm_t ad))) := fun h => hG _ _ _ _ h o1 o2 H locs la hP hS hl
            have kf : G f ls st1 M = some R0 → W p l e R s m args below meth c H locs cells slots Q (F0 m (pc + 3) la (st1.map (sm_t ad))) := fun h => by rw [← e5]; exact hG _ _ _ _ h o1 o2 H locs la hP hS hl
            cases cnd <;> dsimp only at h
            · exact lv_icmp_eq hx hb hd e4 (fun q => kt (by rw [if_pos q] at h; exact h)) (fun q => kf (by rw [if_neg q] at h; exact h))
            · exact lv_icmp_ne hx hb hd e4 (fun q => kt (by rw [if_neg q] at h; exact h)) (fun q => kf (by rw [if_pos q] at h; exact h))
            · exact lv_icmp_lt hx hb hd e4 (fun q => kt (by rw [if_pos q] at h; exact h)) (fun q => kf (by rw [if_neg q] at h; exact h))
            · exact lv_icmp_ge hx hb hd e4 (fun q => kt (by rw [if_neg (Int32.not_lt.mpr q)] at h; exact h)) (fun q => kf (by rw [if_pos (Int32.not_le.mp q)] at h; exact h))
            · exact lv_icmp_gt hx hb hd e4 (fun q => kt (by rw [if_pos q] at h; exact h)) (fun q => kf (by rw [if_neg q] at h; exact h))
            · exact lv_icmp_le hx hb hd e4 (fun q => kt (by rw [if_neg (Int32.not_lt.mpr q)] at h; exact h)) (fun q => kf (by rw [if_pos (Int32.not_le.mp q)] at h; exact h))
          · cases h
        · cases h
      · cases hf
    -- if
    · rename_i cnd off he
      unfold sm_fit at hf
      rw [he] at hf
      dsimp only at hf
      split at hf
      · rename_i j len hd
        rw [Bool.and_eq_true] at hf
        have ej := of_decide_eq_true hf.1
        subst ej
        split at h
        · rename_i x st1
          rw [sm_oks_c] at o2
          obtain ⟨-, o2⟩ := o2
          have hf2 := hf.2
          unfold sm_if at h
          split at h
          · rename_i t f os ho
            rw [ho] at hf2
            dsimp only at hf2
            rw [Bool.and_eq_true, Bool.and_eq_true] at hf2
            obtain ⟨⟨e3, e4⟩, e5⟩ := hf2
            have e3 := Nat.eq_of_beq_eq_true e3
            subst e3
            have e5 := Nat.eq_of_beq_eq_true e5
            have e4 := sm_ft_eq e4
            intro H locs la hP hS hl
            have kt : G t ls st1 M = some R0 → W p l e R s m args below meth c H locs cells slots Q (F0 m (pcs t) la (st1.map (sm_t ad))) := fun h => hG _ _ _ _ h o1 o2 H locs la hP hS hl
            have kf : G f ls st1 M = some R0 → W p l e R s m args below meth c H locs cells slots Q (F0 m (pc + 3) la (st1.map (sm_t ad))) := fun h => by rw [← e5]; exact hG _ _ _ _ h o1 o2 H locs la hP hS hl
            cases cnd <;> dsimp only at h
            · exact lv_if_eq hx hb hd e4 (fun q => kt (by rw [if_pos q] at h; exact h)) (fun q => kf (by rw [if_neg q] at h; exact h))
            · exact lv_if_ne hx hb hd e4 (fun q => kt (by rw [if_neg q] at h; exact h)) (fun q => kf (by rw [if_pos q] at h; exact h))
            · exact lv_if_lt hx hb hd e4 (fun q => kt (by rw [if_pos q] at h; exact h)) (fun q => kf (by rw [if_neg q] at h; exact h))
            · exact lv_if_ge hx hb hd e4 (fun q => kt (by rw [if_neg (Int32.not_lt.mpr q)] at h; exact h)) (fun q => kf (by rw [if_pos (Int32.not_le.mp q)] at h; exact h))
            · exact lv_if_gt hx hb hd e4 (fun q => kt (by rw [if_pos q] at h; exact h)) (fun q => kf (by rw [if_neg q] at h; exact h))
            · exact lv_if_le hx hb hd e4 (fun q => kt (by rw [if_neg (Int32.not_lt.mpr q)] at h; exact h)) (fun q => kf (by rw [if_pos (Int32.not_le.mp q)] at h; exact h))
          · cases h
        · cases h
      · cases hf
    -- tableswitch
    · rename_i df lw hg offs he
      unfold sm_fit at hf
      rw [he] at hf
      dsimp only at hf
      split at hf
      · rename_i j len hd
        rw [Bool.and_eq_true] at hf
        have ej := of_decide_eq_true hf.1
        subst ej
        have hf2 := hf.2
        split at h
        · rename_i x st1 d1 ts ho
          rw [sm_oks_c] at o2
          obtain ⟨-, o2⟩ := o2
          rw [ho] at hf2
          dsimp only at hf2
          rw [Bool.and_eq_true, Bool.and_eq_true] at hf2
          obtain ⟨⟨e3, e4⟩, e5⟩ := hf2
          have e3 := sm_ft_eq e3
          have e4 := of_decide_eq_true e4
          intro H locs la hP hS hl
          rcases sm_sw_ok _ _ _ _ e5 h with ⟨g1, g2⟩ | ⟨n, off, t, g1, g2, g3, g4⟩
          · refine lv_tableOut hx hb hd ?_ e3 (hG _ _ _ _ g1 o1 o2 H locs la hP hS hl)
            rcases g2 with g2 | g2
            · exact Or.inl g2
            · refine Or.inr ?_
              rw [e4]
              rw [Array.length_toList] at g2
              exact g2
          · have hn : n < offs.toList.length := (List.getElem?_eq_some_iff.mp g1).1
            rw [Array.length_toList] at hn
            refine lv_tableIn hx hb hd (off := off) ?_ ?_ ?_ g3 (hG _ _ _ _ g4 o1 o2 H locs la hP hS hl)
            · omega
            · rw [e4]; omega
            · have e6 : (x.toInt - lw).toNat = n := by omega
              rw [e6, ← Array.getElem?_toList]
              exact g1
        · cases h
      · cases hf
    -- invokestatic
    · rename_i ix he
      unfold sm_fit at hf
      rw [he] at hf
      dsimp only at hf
      split at hf
      · rename_i j len hd
        rw [Bool.and_eq_true] at hf
        have ej := of_decide_eq_true hf.1
        subst ej
        have hf2 := hf.2
        rw [Bool.and_eq_true, Bool.and_eq_true] at hf2
        obtain ⟨⟨e3, e4⟩, e5⟩ := hf2
        have e3 := Nat.eq_of_beq_eq_true e3
        subst e3
        have k : ∀ st M, sm_l lt_al sc C G is ls st M = some R0 → sm_oks z st → sm_SW D tc ad A H0 nL (sm_KW p l e R s m args below meth c cells slots Q) (pc + 3) ls st M := fun st M h o2 => ih _ _ _ _ e5 h o1 o2
        obtain ⟨ins, xs, os⟩ := i
        dsimp only at he h e4
        subst he
        unfold sm_fc at e4
        split at e4
        · rename_i q _; cases q
        · rename_i m1 n1 rk1 rc1 w1 os1 e6 e7
          cases e6
          have e7 : os = _ := e7
          subst e7
          exact sm_stat X hC hR e4 hd h o2 k
        · rename_i w1 os1 e6 e7
          cases e6
          have e7 : os = _ := e7
          subst e7
          have h2 : (match (generalizing := false) st with
            | .inl y :: .inl x :: st => bif Nat.ble (sm_cats st) 8 then sm_l lt_al sc C G is ls (.inl (if y < x then y else x) :: st) M else none
            | _ => none) = some R0 := h
          split at h2
          · rw [sm_oks_c, sm_oks_c] at o2
            exact sm_nat1 (K := fun st M => sm_l lt_al sc C G is ls st M) X hR false e4 hd h2 o2.2.2 k
          · cases h2
        · rename_i w1 os1 e6 e7
          cases e6
          have e7 : os = _ := e7
          subst e7
          have h2 : (match (generalizing := false) st with
            | .inl y :: .inl x :: st => bif Nat.ble (sm_cats st) 8 then sm_l lt_al sc C G is ls (.inl (if x < y then y else x) :: st) M else none
            | _ => none) = some R0 := h
          split at h2
          · rw [sm_oks_c, sm_oks_c] at o2
            exact sm_nat1 (K := fun st M => sm_l lt_al sc C G is ls st M) X hR true e4 hd h2 o2.2.2 k
          · cases h2
        · rename_i w1 os1 e6 e7
          cases e6
          have e7 : os = _ := e7
          subst e7
          have h2 : (match (generalizing := false) st with
            | .inl n :: .inl dp :: .inr (.inr (c1, p1, j1)) :: .inl sp :: .inr (.inr (c0, p0, j0)) :: st => (bif Nat.beq (lt_al c0 j0).1 0 && Nat.beq (lt_al c1 j1).1 0 && Nat.ble (sm_cats st) 8 then (if (¬ sp < 0 ∧ ¬ dp < 0 ∧ ¬ n < 0) ∧ sp.toNatClampNeg + n.toNatClampNeg ≤ (lt_al c0 j0).2 ∧ dp.toNatClampNeg + n.toNatClampNeg ≤ (lt_al c1 j1).2 then sm_l lt_al sc C G is ls st (sm_cp M c0 p0 j0 c1 p1 j1 sp.toNatClampNeg dp.toNatClampNeg n.toNatClampNeg) else none) else none)
            | _ => none) = some R0 := h
          split at h2
          · exact sm_nat3 (K := fun st M => sm_l lt_al sc C G is ls st M) X hR e4 hd rfl rfl h2 o2 k
          · cases h2
        · rename_i w1 os1 e6 e7
          cases e6
          have e7 : os = _ := e7
          subst e7
          have h2 : (match (generalizing := false) st with
            | .inl x :: .inr (.inr (c1, p1, j1)) :: st => (bif Nat.beq (lt_al c1 j1).1 0 && Nat.ble (sm_cats st) 8 && !(Nat.beq c1 99) then sm_l lt_al sc C G is ls st (sm_fl M c1 p1 j1 x) else none)
            | _ => none) = some R0 := h
          split at h2
          · exact sm_nat4 (K := fun st M => sm_l lt_al sc C G is ls st M) X hF hR e4 hd rfl h2 o2 k
          · cases h2
        · cases e4
      · cases hf
    -- invokevirtual
    · rename_i ix he
      unfold sm_fit at hf
      rw [he] at hf
      dsimp only at hf
      split at hf
      · rename_i j len hd
        rw [Bool.and_eq_true] at hf
        have ej := of_decide_eq_true hf.1
        subst ej
        have hf2 := hf.2
        rw [Bool.and_eq_true, Bool.and_eq_true] at hf2
        obtain ⟨⟨e3, e4⟩, e5⟩ := hf2
        have e3 := Nat.eq_of_beq_eq_true e3
        subst e3
        have k : ∀ st M, sm_l lt_al sc C G is ls st M = some R0 → sm_oks z st → sm_SW D tc ad A H0 nL (sm_KW p l e R s m args below meth c cells slots Q) (pc + 3) ls st M := fun st M h o2 => ih _ _ _ _ e5 h o1 o2
        obtain ⟨ins, xs, os⟩ := i
        dsimp only at he h e4
        subst he
        exact sm_virt X hC hR e4 hd h o2 k
      · cases hf
    -- ireturn
    · rename_i he
      unfold sm_fit at hf
      rw [he] at hf
      dsimp only at hf
      split at hf
      · rename_i j len hd
        rw [Bool.and_eq_true, Bool.and_eq_true] at hf
        obtain ⟨ej, e3, e4⟩ := hf
        have ej := of_decide_eq_true ej
        subst ej
        have e3 := Nat.eq_of_beq_eq_true e3
        subst e3
        split at h
        · rename_i x ho
          rw [ho] at e4
          cases h
          exact hE _ _ _ _ (Or.inl ⟨x, rfl, rfl, hd, Or.inl (of_decide_eq_true e4)⟩) o2
        · rename_i x ho
          rw [ho] at e4
          by_cases q0 : x = 0
          · rw [if_pos q0] at h
            cases h
            subst q0
            exact hE _ _ _ _ (Or.inl ⟨0, rfl, rfl, hd, Or.inr ⟨of_decide_eq_true e4, Or.inl rfl⟩⟩) o2
          · rw [if_neg q0] at h
            by_cases q1 : x = 1
            · rw [if_pos q1] at h
              cases h
              subst q1
              exact hE _ _ _ _ (Or.inl ⟨1, rfl, rfl, hd, Or.inr ⟨of_decide_eq_true e4, Or.inr rfl⟩⟩) o2
            · rw [if_neg q1] at h
              cases h
        · cases h
      · cases hf
    -- lreturn
    · rename_i he
      unfold sm_fit at hf
      rw [he] at hf
      dsimp only at hf
      split at hf
      · rename_i j len hd
        rw [Bool.and_eq_true, Bool.and_eq_true] at hf
        obtain ⟨ej, e3, e4⟩ := hf
        have ej := of_decide_eq_true ej
        subst ej
        have e3 := Nat.eq_of_beq_eq_true e3
        subst e3
        split at h
        · rename_i x
          cases h
          exact hE _ _ _ _ (Or.inr (Or.inl ⟨x, rfl, rfl, hd, of_decide_eq_true e4⟩)) o2
        · cases h
      · cases hf
    -- areturn
    · rename_i he
      unfold sm_fit at hf
      rw [he] at hf
      dsimp only at hf
      split at hf
      · rename_i j len hd
        rw [Bool.and_eq_true, Bool.and_eq_true] at hf
        obtain ⟨ej, e3, e4⟩ := hf
        have ej := of_decide_eq_true ej
        subst ej
        have e3 := Nat.eq_of_beq_eq_true e3
        subst e3
        split at h
        · rename_i x
          cases h
          split at e4
          · rename_i C1
            exact hE _ _ _ _ (Or.inr (Or.inr (Or.inl ⟨x, C1, rfl, rfl, hd, rfl⟩))) o2
          · cases e4
        · cases h
      · cases hf
    -- return
    · rename_i he
      unfold sm_fit at hf
      rw [he] at hf
      dsimp only at hf
      split at hf
      · rename_i j len hd
        rw [Bool.and_eq_true, Bool.and_eq_true] at hf
        obtain ⟨ej, e3, e4⟩ := hf
        have ej := of_decide_eq_true ej
        subst ej
        have e3 := Nat.eq_of_beq_eq_true e3
        subst e3
        split at h
        · cases h
          exact hE _ _ _ _ (Or.inr (Or.inr (Or.inr (Or.inl ⟨rfl, rfl, hd, of_decide_eq_true e4⟩)))) o2
        · cases h
      · cases hf
    -- a throw
    · rename_i ix he
      unfold sm_fit at hf
      rw [he] at hf
      dsimp only at hf
      split at hf
      · rename_i j len hd
        rw [Bool.and_eq_true] at hf
        have ej := of_decide_eq_true hf.1
        subst ej
        split at h
        · rename_i e1 os ho
          cases h
          have hf2 := hf.2
          rw [ho] at hf2
          obtain ⟨is1, ic1, tx1, g1, g2, g3, g4, g5, g6, g7⟩ := sm_ftr_inv hf2
          subst g1
          exact hE _ _ _ _ (Or.inr (Or.inr (Or.inr (Or.inr ⟨e1, ix, is1, ic1, tx1, rfl, rfl, hd, g2, g3, g4, g5, g6, g7⟩)))) o2
        · cases h
      · cases hf
    · rename_i he; rw [sm_bdK_eq] at h; exact simple (by unfold sm_s1; rw [he]; exact h)
    · rename_i he; rw [sm_bdK_eq] at h; exact simple (by unfold sm_s1; rw [he]; exact h)
    · rename_i he; rw [sm_pfK_eq] at h; exact simple (by unfold sm_s1; rw [he]; exact h)
    · rename_i he; rw [sm_ialK_eq] at h; exact simple (by unfold sm_s1; rw [he]; exact h)
    · rename_i he; rw [sm_ialK_eq] at h; exact simple (by unfold sm_s1; rw [he]; exact h)
    · rename_i he; rw [sm_lalK_eq] at h; exact simple (by unfold sm_s1; rw [he]; exact h)
    · rename_i he; rw [sm_aalK_eq] at h; exact simple (by unfold sm_s1; rw [he]; exact h)
    · rename_i he; rw [sm_iasK_eq] at h; exact simple (by unfold sm_s1; rw [he]; exact h)
    · rename_i he; rw [sm_zasK_eq] at h; exact simple (by unfold sm_s1; rw [he]; exact h)
    · rename_i he; rw [sm_lasK_eq] at h; exact simple (by unfold sm_s1; rw [he]; exact h)
    · exact simple h
end WALK
