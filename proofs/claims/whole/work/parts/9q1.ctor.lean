def cwd_6 (tc : Nat → ClassId) (h0 : Nat) (q : Nat → Nat) : va_W := [(h0, .inr (6, [.ref (q 0), .int 0, .int 0, .int 0])), (q 0, .inl (tc 0, 200, .inl (fun _ => 0)))]
theorem dK6_0 : decode cX6_init 0 = .ok (.aload_n 0, 1) := by decide +kernel
theorem dK6_1 : decode cX6_init 1 = .ok (.invokespecial 3, 3) := by decide +kernel
theorem dK6_4 : decode cX6_init 4 = .ok (.aload_n 0, 1) := by decide +kernel
theorem dK6_5 : decode cX6_init 5 = .ok (.sipush 200, 3) := by decide +kernel
theorem dK6_8 : decode cX6_init 8 = .ok (.newarray .int, 2) := by decide +kernel
theorem dK6_10 : decode cX6_init 10 = .ok (.putfield 9, 3) := by decide +kernel
theorem dK6_13 : decode cX6_init 13 = .ok (.return_, 1) := by decide +kernel
set_option maxHeartbeats 20000000 in
set_option maxRecDepth 100000 in
theorem ctr_6 (l : Launch) (D : va_G) (tc : Nat → ClassId) (h0 sz : Nat) : Met l yX6_init (Cond.code yX6_init cX6_init 1 none :: lw_g) { frames := 1, cells := 1, slots := 200, locals := 12 } (va_Pc [.ref h0] (ctB D tc [(h0, .inr (6, [.null, .int 0, .int 0, .int 0]))] sz)) (va_Qv (S := Unit) (fun _ => True) (fun _ t => ∃ q : Nat → Nat, va_P D vwCl (cwd_6 tc h0 q) t.heap ∧ va_D (va_A [(h0, .inr (6, [.null, .int 0, .int 0, .int 0]))] sz) (cwd_6 tc h0 q)) (va_A [(h0, .inr (6, [.null, .int 0, .int 0, .int 0]))] sz)) 1 200 (va_A [(h0, .inr (6, [.null, .int 0, .int 0, .int 0]))] sz) := by
  refine Met.ofW (cc := cX6_init) (maxL := 1) (ret := none) (by decide +kernel) rfl ?_
  intro p e s m args below meth c s₁ B hml hv
  obtain ⟨rfl, hsz, hP, hK, hD0⟩ := hv
  have hx := B.exec
  have hb := B.bytes
  have hr := B.returns
  have hts0 := atoms_spec (ws := (Cond.code yX6_init cX6_init 1 none :: lw_g)) B.pre
  have hts : ∀ w ∈ lw_g, w.before _ s = true := fun w h => hts0 w (List.mem_cons_of_mem _ h)
  have hown : s.vm.findClass RX6 = some m.cls := findClass_of_methodNamed B.named
  have hlocks := B.notSynchronized
  have hin : meth.name = "<init>" := (name_of_methodNamed B.named B.method).1
  subst hsz
  have hD := hD0.self (sz := s.heap.size)
  generalize hAe : va_A [(h0, .inr (6, [.null, .int 0, .int 0, .int 0]))] s.heap.size = A at hD ⊢
  have hA : ∀ q : Nat, s.heap.size ≤ q → A q := fun q h => by rw [← hAe]; exact Or.inr h
  have hS : va_S A s.heap s.heap [] := va_S.rf
  have hl := lv_entry ([.ref h0]) (n := 1) (Nat.le_of_ble_eq_true rfl)
  rw [lg_entry_eq]
  generalize (lg_sl ([.ref h0]) ++ List.replicate (1 - (lg_sl ([.ref h0])).length) Slot.unset).toArray = ls at hl ⊢
  have hl : lv_has ls 1 [(0, .ref h0)] := hl
  refine lv_aload_n hx hb dK6_0 rfl (lv_at hl 0 rfl) ?_
  refine W.objInit hx hb hown (hts (.methodLink RX6 3 Lib.objectInit) (sm_wd_in (i := 298) (by decide +kernel))) (hts (.instanceMethod Lib.objectInit) (sm_wd_in (i := 134) (by decide +kernel))) (hts (.code Lib.objectInit ⟨#[0xb1]⟩ 1 none) (sm_wd_in (i := 135) (by decide +kernel))) rfl (by rw [hml]; exact hl.1) rfl dK6_1 (Nat.le_of_ble_eq_true rfl) (Nat.le_of_ble_eq_true rfl) ?_
  refine W.eq (g2 := F0 m 4 ls []) rfl ?_
  refine lv_aload_n hx hb dK6_4 rfl (lv_at hl 0 rfl) ?_
  refine lv_sipush (v := 200) hx hb dK6_5 (by decide +kernel) ?_
  refine ct_arr (atype := .int) (n := 200) (index := 9) (pc := 8) (t0 := 0) (cT := tc 0) (N' := 200) (a0 := (200, .inl (fun _ => 0))) (C := RX6) (T := TX6) (N := 4) (ci := 6) (k := 0) (ty2 := .array .int) hx hb hts hown hin hK hA rfl (sm_wd_in (i := 160) (by decide +kernel)) (fun _ => rfl) (by decide +kernel) (by decide +kernel) (by decide +kernel) sm_in6 tyX6 tyX6_ok nmX6 rfl (by decide) (show Cond.fieldLink RX6 9 RX6 "drops" "[I" ∈ lw_g from (sm_wd_in (i := 299) (by decide +kernel))) rfl rfl (by decide +kernel) (fun _ => rfl) (fun _ => rfl) (Nat.le_of_ble_eq_true rfl) (by decide +kernel) (by decide +kernel) hP hD hS dK6_8 dK6_10 (fun q0 H locs hP hD hS => ?_)
  have hP := hP.sub (ws' := cwd_6 tc h0 (fun k => ([q0] : List Nat).getD k 0)) [0, 1] rfl
  have hD := hD.sub (ws' := cwd_6 tc h0 (fun k => ([q0] : List Nat).getD k 0)) [0, 1] (by decide) rfl
  exact W.vret hx hb hr (fun t ht hW => ⟨⟨(), rfl, trivial, (fun k => ([q0] : List Nat).getD k 0), by rw [ht]; exact hP, hD⟩, hS.F ht⟩) hS.2.2 dK6_13
def cwd_7 (tc : Nat → ClassId) (h0 : Nat) (q : Nat → Nat) : va_W := [(h0, .inr (7, [.ref (q 0), .ref (q 1), .ref (q 2)])), (q 0, .inl (tc 0, 6, .inl (fun _ => 0))), (q 1, .inl (tc 0, 12, .inl (fun _ => 0))), (q 2, .inl (tc 0, 12, .inl (fun _ => 0)))]
theorem dK7_0 : decode cX7_init 0 = .ok (.aload_n 0, 1) := by decide +kernel
theorem dK7_1 : decode cX7_init 1 = .ok (.invokespecial 3, 3) := by decide +kernel
theorem dK7_4 : decode cX7_init 4 = .ok (.aload_n 0, 1) := by decide +kernel
theorem dK7_5 : decode cX7_init 5 = .ok (.bipush 6, 2) := by decide +kernel
theorem dK7_7 : decode cX7_init 7 = .ok (.newarray .int, 2) := by decide +kernel
theorem dK7_9 : decode cX7_init 9 = .ok (.putfield 11, 3) := by decide +kernel
theorem dK7_12 : decode cX7_init 12 = .ok (.aload_n 0, 1) := by decide +kernel
theorem dK7_13 : decode cX7_init 13 = .ok (.bipush 12, 2) := by decide +kernel
theorem dK7_15 : decode cX7_init 15 = .ok (.newarray .int, 2) := by decide +kernel
theorem dK7_17 : decode cX7_init 17 = .ok (.putfield 15, 3) := by decide +kernel
theorem dK7_20 : decode cX7_init 20 = .ok (.aload_n 0, 1) := by decide +kernel
theorem dK7_21 : decode cX7_init 21 = .ok (.bipush 12, 2) := by decide +kernel
theorem dK7_23 : decode cX7_init 23 = .ok (.newarray .int, 2) := by decide +kernel
theorem dK7_25 : decode cX7_init 25 = .ok (.putfield 18, 3) := by decide +kernel
theorem dK7_28 : decode cX7_init 28 = .ok (.return_, 1) := by decide +kernel
set_option maxHeartbeats 20000000 in
set_option maxRecDepth 100000 in
theorem ctr_7 (l : Launch) (D : va_G) (tc : Nat → ClassId) (h0 sz : Nat) : Met l yX7_init (Cond.code yX7_init cX7_init 1 none :: lw_g) { frames := 1, cells := 3, slots := 30, locals := 12 } (va_Pc [.ref h0] (ctB D tc [(h0, .inr (7, [.null, .null, .null]))] sz)) (va_Qv (S := Unit) (fun _ => True) (fun _ t => ∃ q : Nat → Nat, va_P D vwCl (cwd_7 tc h0 q) t.heap ∧ va_D (va_A [(h0, .inr (7, [.null, .null, .null]))] sz) (cwd_7 tc h0 q)) (va_A [(h0, .inr (7, [.null, .null, .null]))] sz)) 3 30 (va_A [(h0, .inr (7, [.null, .null, .null]))] sz) := by
  refine Met.ofW (cc := cX7_init) (maxL := 1) (ret := none) (by decide +kernel) rfl ?_
  intro p e s m args below meth c s₁ B hml hv
  obtain ⟨rfl, hsz, hP, hK, hD0⟩ := hv
  have hx := B.exec
  have hb := B.bytes
  have hr := B.returns
  have hts0 := atoms_spec (ws := (Cond.code yX7_init cX7_init 1 none :: lw_g)) B.pre
  have hts : ∀ w ∈ lw_g, w.before _ s = true := fun w h => hts0 w (List.mem_cons_of_mem _ h)
  have hown : s.vm.findClass RX7 = some m.cls := findClass_of_methodNamed B.named
  have hlocks := B.notSynchronized
  have hin : meth.name = "<init>" := (name_of_methodNamed B.named B.method).1
  subst hsz
  have hD := hD0.self (sz := s.heap.size)
  generalize hAe : va_A [(h0, .inr (7, [.null, .null, .null]))] s.heap.size = A at hD ⊢
  have hA : ∀ q : Nat, s.heap.size ≤ q → A q := fun q h => by rw [← hAe]; exact Or.inr h
  have hS : va_S A s.heap s.heap [] := va_S.rf
  have hl := lv_entry ([.ref h0]) (n := 1) (Nat.le_of_ble_eq_true rfl)
  rw [lg_entry_eq]
  generalize (lg_sl ([.ref h0]) ++ List.replicate (1 - (lg_sl ([.ref h0])).length) Slot.unset).toArray = ls at hl ⊢
  have hl : lv_has ls 1 [(0, .ref h0)] := hl
  refine lv_aload_n hx hb dK7_0 rfl (lv_at hl 0 rfl) ?_
  refine W.objInit hx hb hown (hts (.methodLink RX7 3 Lib.objectInit) (sm_wd_in (i := 317) (by decide +kernel))) (hts (.instanceMethod Lib.objectInit) (sm_wd_in (i := 134) (by decide +kernel))) (hts (.code Lib.objectInit ⟨#[0xb1]⟩ 1 none) (sm_wd_in (i := 135) (by decide +kernel))) rfl (by rw [hml]; exact hl.1) rfl dK7_1 (Nat.le_of_ble_eq_true rfl) (Nat.le_of_ble_eq_true rfl) ?_
  refine W.eq (g2 := F0 m 4 ls []) rfl ?_
  refine lv_aload_n hx hb dK7_4 rfl (lv_at hl 0 rfl) ?_
  refine lv_bipush (v := 6) hx hb dK7_5 (by decide +kernel) ?_
  refine ct_arr (atype := .int) (n := 6) (index := 11) (pc := 7) (t0 := 0) (cT := tc 0) (N' := 6) (a0 := (6, .inl (fun _ => 0))) (C := RX7) (T := TX7) (N := 3) (ci := 7) (k := 0) (ty2 := .array .int) hx hb hts hown hin hK hA rfl (sm_wd_in (i := 160) (by decide +kernel)) (fun _ => rfl) (by decide +kernel) (by decide +kernel) (by decide +kernel) sm_in7 tyX7 tyX7_ok nmX7 rfl (by decide) (show Cond.fieldLink RX7 11 RX7 "counts" "[I" ∈ lw_g from (sm_wd_in (i := 318) (by decide +kernel))) rfl rfl (by decide +kernel) (fun _ => rfl) (fun _ => rfl) (Nat.le_of_ble_eq_true rfl) (by decide +kernel) (by decide +kernel) hP hD hS dK7_7 dK7_9 (fun q0 H locs hP hD hS => ?_)
  refine lv_aload_n hx hb dK7_12 rfl (lv_at hl 0 rfl) ?_
  refine lv_bipush (v := 12) hx hb dK7_13 (by decide +kernel) ?_
  refine ct_arr (atype := .int) (n := 12) (index := 15) (pc := 15) (t0 := 0) (cT := tc 0) (N' := 12) (a0 := (12, .inl (fun _ => 0))) (C := RX7) (T := TX7) (N := 3) (ci := 7) (k := 1) (ty2 := .array .int) hx hb hts hown hin hK hA rfl (sm_wd_in (i := 160) (by decide +kernel)) (fun _ => rfl) (by decide +kernel) (by decide +kernel) (by decide +kernel) sm_in7 tyX7 tyX7_ok nmX7 rfl (by decide) (show Cond.fieldLink RX7 15 RX7 "values" "[I" ∈ lw_g from (sm_wd_in (i := 319) (by decide +kernel))) rfl rfl (by decide +kernel) (fun _ => rfl) (fun _ => rfl) (Nat.le_of_ble_eq_true rfl) (by decide +kernel) (by decide +kernel) hP hD hS dK7_15 dK7_17 (fun q1 H locs hP hD hS => ?_)
  refine lv_aload_n hx hb dK7_20 rfl (lv_at hl 0 rfl) ?_
  refine lv_bipush (v := 12) hx hb dK7_21 (by decide +kernel) ?_
  refine ct_arr (atype := .int) (n := 12) (index := 18) (pc := 23) (t0 := 0) (cT := tc 0) (N' := 12) (a0 := (12, .inl (fun _ => 0))) (C := RX7) (T := TX7) (N := 3) (ci := 7) (k := 2) (ty2 := .array .int) hx hb hts hown hin hK hA rfl (sm_wd_in (i := 160) (by decide +kernel)) (fun _ => rfl) (by decide +kernel) (by decide +kernel) (by decide +kernel) sm_in7 tyX7 tyX7_ok nmX7 rfl (by decide) (show Cond.fieldLink RX7 18 RX7 "marks" "[I" ∈ lw_g from (sm_wd_in (i := 320) (by decide +kernel))) rfl rfl (by decide +kernel) (fun _ => rfl) (fun _ => rfl) (Nat.le_of_ble_eq_true rfl) (by decide +kernel) (by decide +kernel) hP hD hS dK7_23 dK7_25 (fun q2 H locs hP hD hS => ?_)
  have hP := hP.sub (ws' := cwd_7 tc h0 (fun k => ([q0, q1, q2] : List Nat).getD k 0)) [0, 3, 2, 1] rfl
  have hD := hD.sub (ws' := cwd_7 tc h0 (fun k => ([q0, q1, q2] : List Nat).getD k 0)) [0, 3, 2, 1] (by decide) rfl
  exact W.vret hx hb hr (fun t ht hW => ⟨⟨(), rfl, trivial, (fun k => ([q0, q1, q2] : List Nat).getD k 0), by rw [ht]; exact hP, hD⟩, hS.F ht⟩) hS.2.2 dK7_28
def cwd_2 (tc : Nat → ClassId) (h0 : Nat) (q : Nat → Nat) : va_W := [(h0, .inr (2, [.ref (q 0), .ref (q 1), .ref (q 2), .int 0])), (q 0, .inl (tc 0, 16, .inl (fun _ => 0))), (q 1, .inl (tc 0, 16, .inl (fun _ => 0))), (q 2, .inl (tc 0, 16, .inl (fun _ => 0)))]
theorem dK2_0 : decode cX2_init 0 = .ok (.aload_n 0, 1) := by decide +kernel
theorem dK2_1 : decode cX2_init 1 = .ok (.invokespecial 3, 3) := by decide +kernel
theorem dK2_4 : decode cX2_init 4 = .ok (.aload_n 0, 1) := by decide +kernel
theorem dK2_5 : decode cX2_init 5 = .ok (.bipush 16, 2) := by decide +kernel
theorem dK2_7 : decode cX2_init 7 = .ok (.newarray .int, 2) := by decide +kernel
theorem dK2_9 : decode cX2_init 9 = .ok (.putfield 9, 3) := by decide +kernel
theorem dK2_12 : decode cX2_init 12 = .ok (.aload_n 0, 1) := by decide +kernel
theorem dK2_13 : decode cX2_init 13 = .ok (.bipush 16, 2) := by decide +kernel
theorem dK2_15 : decode cX2_init 15 = .ok (.newarray .int, 2) := by decide +kernel
theorem dK2_17 : decode cX2_init 17 = .ok (.putfield 15, 3) := by decide +kernel
theorem dK2_20 : decode cX2_init 20 = .ok (.aload_n 0, 1) := by decide +kernel
theorem dK2_21 : decode cX2_init 21 = .ok (.bipush 16, 2) := by decide +kernel
theorem dK2_23 : decode cX2_init 23 = .ok (.newarray .int, 2) := by decide +kernel
theorem dK2_25 : decode cX2_init 25 = .ok (.putfield 18, 3) := by decide +kernel
theorem dK2_28 : decode cX2_init 28 = .ok (.return_, 1) := by decide +kernel
set_option maxHeartbeats 20000000 in
set_option maxRecDepth 100000 in
theorem ctr_2 (l : Launch) (D : va_G) (tc : Nat → ClassId) (h0 sz : Nat) : Met l yX2_init (Cond.code yX2_init cX2_init 1 none :: lw_g) { frames := 1, cells := 3, slots := 48, locals := 12 } (va_Pc [.ref h0] (ctB D tc [(h0, .inr (2, [.null, .null, .null, .int 0]))] sz)) (va_Qv (S := Unit) (fun _ => True) (fun _ t => ∃ q : Nat → Nat, va_P D vwCl (cwd_2 tc h0 q) t.heap ∧ va_D (va_A [(h0, .inr (2, [.null, .null, .null, .int 0]))] sz) (cwd_2 tc h0 q)) (va_A [(h0, .inr (2, [.null, .null, .null, .int 0]))] sz)) 3 48 (va_A [(h0, .inr (2, [.null, .null, .null, .int 0]))] sz) := by
  refine Met.ofW (cc := cX2_init) (maxL := 1) (ret := none) (by decide +kernel) rfl ?_
  intro p e s m args below meth c s₁ B hml hv
  obtain ⟨rfl, hsz, hP, hK, hD0⟩ := hv
  have hx := B.exec
  have hb := B.bytes
  have hr := B.returns
  have hts0 := atoms_spec (ws := (Cond.code yX2_init cX2_init 1 none :: lw_g)) B.pre
  have hts : ∀ w ∈ lw_g, w.before _ s = true := fun w h => hts0 w (List.mem_cons_of_mem _ h)
  have hown : s.vm.findClass RX2 = some m.cls := findClass_of_methodNamed B.named
  have hlocks := B.notSynchronized
  have hin : meth.name = "<init>" := (name_of_methodNamed B.named B.method).1
  subst hsz
  have hD := hD0.self (sz := s.heap.size)
  generalize hAe : va_A [(h0, .inr (2, [.null, .null, .null, .int 0]))] s.heap.size = A at hD ⊢
  have hA : ∀ q : Nat, s.heap.size ≤ q → A q := fun q h => by rw [← hAe]; exact Or.inr h
  have hS : va_S A s.heap s.heap [] := va_S.rf
  have hl := lv_entry ([.ref h0]) (n := 1) (Nat.le_of_ble_eq_true rfl)
  rw [lg_entry_eq]
  generalize (lg_sl ([.ref h0]) ++ List.replicate (1 - (lg_sl ([.ref h0])).length) Slot.unset).toArray = ls at hl ⊢
  have hl : lv_has ls 1 [(0, .ref h0)] := hl
  refine lv_aload_n hx hb dK2_0 rfl (lv_at hl 0 rfl) ?_
  refine W.objInit hx hb hown (hts (.methodLink RX2 3 Lib.objectInit) (sm_wd_in (i := 196) (by decide +kernel))) (hts (.instanceMethod Lib.objectInit) (sm_wd_in (i := 134) (by decide +kernel))) (hts (.code Lib.objectInit ⟨#[0xb1]⟩ 1 none) (sm_wd_in (i := 135) (by decide +kernel))) rfl (by rw [hml]; exact hl.1) rfl dK2_1 (Nat.le_of_ble_eq_true rfl) (Nat.le_of_ble_eq_true rfl) ?_
  refine W.eq (g2 := F0 m 4 ls []) rfl ?_
  refine lv_aload_n hx hb dK2_4 rfl (lv_at hl 0 rfl) ?_
  refine lv_bipush (v := 16) hx hb dK2_5 (by decide +kernel) ?_
  refine ct_arr (atype := .int) (n := 16) (index := 9) (pc := 7) (t0 := 0) (cT := tc 0) (N' := 16) (a0 := (16, .inl (fun _ => 0))) (C := RX2) (T := TX2) (N := 4) (ci := 2) (k := 0) (ty2 := .array .int) hx hb hts hown hin hK hA rfl (sm_wd_in (i := 160) (by decide +kernel)) (fun _ => rfl) (by decide +kernel) (by decide +kernel) (by decide +kernel) sm_in2 tyX2 tyX2_ok nmX2 rfl (by decide) (show Cond.fieldLink RX2 9 RX2 "what" "[I" ∈ lw_g from (sm_wd_in (i := 197) (by decide +kernel))) rfl rfl (by decide +kernel) (fun _ => rfl) (fun _ => rfl) (Nat.le_of_ble_eq_true rfl) (by decide +kernel) (by decide +kernel) hP hD hS dK2_7 dK2_9 (fun q0 H locs hP hD hS => ?_)
  refine lv_aload_n hx hb dK2_12 rfl (lv_at hl 0 rfl) ?_
  refine lv_bipush (v := 16) hx hb dK2_13 (by decide +kernel) ?_
  refine ct_arr (atype := .int) (n := 16) (index := 15) (pc := 15) (t0 := 0) (cT := tc 0) (N' := 16) (a0 := (16, .inl (fun _ => 0))) (C := RX2) (T := TX2) (N := 4) (ci := 2) (k := 1) (ty2 := .array .int) hx hb hts hown hin hK hA rfl (sm_wd_in (i := 160) (by decide +kernel)) (fun _ => rfl) (by decide +kernel) (by decide +kernel) (by decide +kernel) sm_in2 tyX2 tyX2_ok nmX2 rfl (by decide) (show Cond.fieldLink RX2 15 RX2 "a" "[I" ∈ lw_g from (sm_wd_in (i := 198) (by decide +kernel))) rfl rfl (by decide +kernel) (fun _ => rfl) (fun _ => rfl) (Nat.le_of_ble_eq_true rfl) (by decide +kernel) (by decide +kernel) hP hD hS dK2_15 dK2_17 (fun q1 H locs hP hD hS => ?_)
  refine lv_aload_n hx hb dK2_20 rfl (lv_at hl 0 rfl) ?_
  refine lv_bipush (v := 16) hx hb dK2_21 (by decide +kernel) ?_
  refine ct_arr (atype := .int) (n := 16) (index := 18) (pc := 23) (t0 := 0) (cT := tc 0) (N' := 16) (a0 := (16, .inl (fun _ => 0))) (C := RX2) (T := TX2) (N := 4) (ci := 2) (k := 2) (ty2 := .array .int) hx hb hts hown hin hK hA rfl (sm_wd_in (i := 160) (by decide +kernel)) (fun _ => rfl) (by decide +kernel) (by decide +kernel) (by decide +kernel) sm_in2 tyX2 tyX2_ok nmX2 rfl (by decide) (show Cond.fieldLink RX2 18 RX2 "b" "[I" ∈ lw_g from (sm_wd_in (i := 199) (by decide +kernel))) rfl rfl (by decide +kernel) (fun _ => rfl) (fun _ => rfl) (Nat.le_of_ble_eq_true rfl) (by decide +kernel) (by decide +kernel) hP hD hS dK2_23 dK2_25 (fun q2 H locs hP hD hS => ?_)
  have hP := hP.sub (ws' := cwd_2 tc h0 (fun k => ([q0, q1, q2] : List Nat).getD k 0)) [0, 3, 2, 1] rfl
  have hD := hD.sub (ws' := cwd_2 tc h0 (fun k => ([q0, q1, q2] : List Nat).getD k 0)) [0, 3, 2, 1] (by decide) rfl
  exact W.vret hx hb hr (fun t ht hW => ⟨⟨(), rfl, trivial, (fun k => ([q0, q1, q2] : List Nat).getD k 0), by rw [ht]; exact hP, hD⟩, hS.F ht⟩) hS.2.2 dK2_28
def cwd_0 (tc : Nat → ClassId) (h0 : Nat) (lg : Nat) (q : Nat → Nat) : va_W := [(h0, .inr (0, [.ref lg, .ref (q 0), .ref (q 1), .ref (q 2), .ref (q 3), .ref (q 4), .int 0, .int 0, .int 0, .int 0])), (q 0, .inl (tc 0, 6, .inl (fun _ => 0))), (q 1, .inl (tc 0, 6, .inl (fun _ => 0))), (q 2, .inl (tc 0, 6, .inl (fun _ => 0))), (q 3, .inl (tc 0, 6, .inl (fun _ => 0))), (q 4, .inl (tc 0, 3, .inl (fun _ => 0)))]
theorem dK0_0 : decode cX0_init 0 = .ok (.aload_n 0, 1) := by decide +kernel
theorem dK0_1 : decode cX0_init 1 = .ok (.invokespecial 3, 3) := by decide +kernel
theorem dK0_4 : decode cX0_init 4 = .ok (.aload_n 0, 1) := by decide +kernel
theorem dK0_5 : decode cX0_init 5 = .ok (.bipush 6, 2) := by decide +kernel
theorem dK0_7 : decode cX0_init 7 = .ok (.newarray .int, 2) := by decide +kernel
theorem dK0_9 : decode cX0_init 9 = .ok (.putfield 9, 3) := by decide +kernel
theorem dK0_12 : decode cX0_init 12 = .ok (.aload_n 0, 1) := by decide +kernel
theorem dK0_13 : decode cX0_init 13 = .ok (.bipush 6, 2) := by decide +kernel
theorem dK0_15 : decode cX0_init 15 = .ok (.newarray .int, 2) := by decide +kernel
theorem dK0_17 : decode cX0_init 17 = .ok (.putfield 15, 3) := by decide +kernel
theorem dK0_20 : decode cX0_init 20 = .ok (.aload_n 0, 1) := by decide +kernel
theorem dK0_21 : decode cX0_init 21 = .ok (.bipush 6, 2) := by decide +kernel
theorem dK0_23 : decode cX0_init 23 = .ok (.newarray .int, 2) := by decide +kernel
theorem dK0_25 : decode cX0_init 25 = .ok (.putfield 18, 3) := by decide +kernel
theorem dK0_28 : decode cX0_init 28 = .ok (.aload_n 0, 1) := by decide +kernel
theorem dK0_29 : decode cX0_init 29 = .ok (.bipush 6, 2) := by decide +kernel
theorem dK0_31 : decode cX0_init 31 = .ok (.newarray .int, 2) := by decide +kernel
theorem dK0_33 : decode cX0_init 33 = .ok (.putfield 21, 3) := by decide +kernel
theorem dK0_36 : decode cX0_init 36 = .ok (.aload_n 0, 1) := by decide +kernel
theorem dK0_37 : decode cX0_init 37 = .ok (.iconst 3, 1) := by decide +kernel
theorem dK0_38 : decode cX0_init 38 = .ok (.newarray .int, 2) := by decide +kernel
theorem dK0_40 : decode cX0_init 40 = .ok (.putfield 24, 3) := by decide +kernel
theorem dK0_43 : decode cX0_init 43 = .ok (.aload_n 0, 1) := by decide +kernel
theorem dK0_44 : decode cX0_init 44 = .ok (.aload_n 1, 1) := by decide +kernel
theorem dK0_45 : decode cX0_init 45 = .ok (.putfield 27, 3) := by decide +kernel
theorem dK0_48 : decode cX0_init 48 = .ok (.return_, 1) := by decide +kernel
set_option maxHeartbeats 20000000 in
set_option maxRecDepth 100000 in
theorem ctr_0 (l : Launch) (D : va_G) (tc : Nat → ClassId) (h0 sz : Nat) (lg : Nat) : Met l yX0_init (Cond.code yX0_init cX0_init 2 none :: lw_g) { frames := 1, cells := 5, slots := 27, locals := 12 } (va_Pc [.ref h0, .ref lg] (ctB D tc [(h0, .inr (0, [.null, .null, .null, .null, .null, .null, .int 0, .int 0, .int 0, .int 0]))] sz)) (va_Qv (S := Unit) (fun _ => True) (fun _ t => ∃ q : Nat → Nat, va_P D vwCl (cwd_0 tc h0 lg q) t.heap ∧ va_D (va_A [(h0, .inr (0, [.null, .null, .null, .null, .null, .null, .int 0, .int 0, .int 0, .int 0]))] sz) (cwd_0 tc h0 lg q)) (va_A [(h0, .inr (0, [.null, .null, .null, .null, .null, .null, .int 0, .int 0, .int 0, .int 0]))] sz)) 5 27 (va_A [(h0, .inr (0, [.null, .null, .null, .null, .null, .null, .int 0, .int 0, .int 0, .int 0]))] sz) := by
  refine Met.ofW (cc := cX0_init) (maxL := 2) (ret := none) (by decide +kernel) rfl ?_
  intro p e s m args below meth c s₁ B hml hv
  obtain ⟨rfl, hsz, hP, hK, hD0⟩ := hv
  have hx := B.exec
  have hb := B.bytes
  have hr := B.returns
  have hts0 := atoms_spec (ws := (Cond.code yX0_init cX0_init 2 none :: lw_g)) B.pre
  have hts : ∀ w ∈ lw_g, w.before _ s = true := fun w h => hts0 w (List.mem_cons_of_mem _ h)
  have hown : s.vm.findClass RX0 = some m.cls := findClass_of_methodNamed B.named
  have hlocks := B.notSynchronized
  have hin : meth.name = "<init>" := (name_of_methodNamed B.named B.method).1
  subst hsz
  have hD := hD0.self (sz := s.heap.size)
  generalize hAe : va_A [(h0, .inr (0, [.null, .null, .null, .null, .null, .null, .int 0, .int 0, .int 0, .int 0]))] s.heap.size = A at hD ⊢
  have hA : ∀ q : Nat, s.heap.size ≤ q → A q := fun q h => by rw [← hAe]; exact Or.inr h
  have hS : va_S A s.heap s.heap [] := va_S.rf
  have hl := lv_entry ([.ref h0, .ref lg]) (n := 2) (Nat.le_of_ble_eq_true rfl)
  rw [lg_entry_eq]
  generalize (lg_sl ([.ref h0, .ref lg]) ++ List.replicate (2 - (lg_sl ([.ref h0, .ref lg])).length) Slot.unset).toArray = ls at hl ⊢
  have hl : lv_has ls 2 [(0, .ref h0), (1, .ref lg)] := hl
  refine lv_aload_n hx hb dK0_0 rfl (lv_at hl 0 rfl) ?_
  refine W.objInit hx hb hown (hts (.methodLink RX0 3 Lib.objectInit) (sm_wd_in (i := 334) (by decide +kernel))) (hts (.instanceMethod Lib.objectInit) (sm_wd_in (i := 134) (by decide +kernel))) (hts (.code Lib.objectInit ⟨#[0xb1]⟩ 1 none) (sm_wd_in (i := 135) (by decide +kernel))) rfl (by rw [hml]; exact hl.1) rfl dK0_1 (Nat.le_of_ble_eq_true rfl) (Nat.le_of_ble_eq_true rfl) ?_
  refine W.eq (g2 := F0 m 4 ls []) rfl ?_
  refine lv_aload_n hx hb dK0_4 rfl (lv_at hl 0 rfl) ?_
  refine lv_bipush (v := 6) hx hb dK0_5 (by decide +kernel) ?_
  refine ct_arr (atype := .int) (n := 6) (index := 9) (pc := 7) (t0 := 0) (cT := tc 0) (N' := 6) (a0 := (6, .inl (fun _ => 0))) (C := RX0) (T := TX0) (N := 10) (ci := 0) (k := 1) (ty2 := .array .int) hx hb hts hown hin hK hA rfl (sm_wd_in (i := 160) (by decide +kernel)) (fun _ => rfl) (by decide +kernel) (by decide +kernel) (by decide +kernel) sm_in0 tyX0 tyX0_ok nmX0 rfl (by decide) (show Cond.fieldLink RX0 9 RX0 "has" "[I" ∈ lw_g from (sm_wd_in (i := 336) (by decide +kernel))) rfl rfl (by decide +kernel) (fun _ => rfl) (fun _ => rfl) (Nat.le_of_ble_eq_true rfl) (by decide +kernel) (by decide +kernel) hP hD hS dK0_7 dK0_9 (fun q0 H locs hP hD hS => ?_)
  refine lv_aload_n hx hb dK0_12 rfl (lv_at hl 0 rfl) ?_
  refine lv_bipush (v := 6) hx hb dK0_13 (by decide +kernel) ?_
  refine ct_arr (atype := .int) (n := 6) (index := 15) (pc := 15) (t0 := 0) (cT := tc 0) (N' := 6) (a0 := (6, .inl (fun _ => 0))) (C := RX0) (T := TX0) (N := 10) (ci := 0) (k := 2) (ty2 := .array .int) hx hb hts hown hin hK hA rfl (sm_wd_in (i := 160) (by decide +kernel)) (fun _ => rfl) (by decide +kernel) (by decide +kernel) (by decide +kernel) sm_in0 tyX0 tyX0_ok nmX0 rfl (by decide) (show Cond.fieldLink RX0 15 RX0 "value" "[I" ∈ lw_g from (sm_wd_in (i := 337) (by decide +kernel))) rfl rfl (by decide +kernel) (fun _ => rfl) (fun _ => rfl) (Nat.le_of_ble_eq_true rfl) (by decide +kernel) (by decide +kernel) hP hD hS dK0_15 dK0_17 (fun q1 H locs hP hD hS => ?_)
  refine lv_aload_n hx hb dK0_20 rfl (lv_at hl 0 rfl) ?_
  refine lv_bipush (v := 6) hx hb dK0_21 (by decide +kernel) ?_
  refine ct_arr (atype := .int) (n := 6) (index := 18) (pc := 23) (t0 := 0) (cT := tc 0) (N' := 6) (a0 := (6, .inl (fun _ => 0))) (C := RX0) (T := TX0) (N := 10) (ci := 0) (k := 3) (ty2 := .array .int) hx hb hts hown hin hK hA rfl (sm_wd_in (i := 160) (by decide +kernel)) (fun _ => rfl) (by decide +kernel) (by decide +kernel) (by decide +kernel) sm_in0 tyX0 tyX0_ok nmX0 rfl (by decide) (show Cond.fieldLink RX0 18 RX0 "kind" "[I" ∈ lw_g from (sm_wd_in (i := 338) (by decide +kernel))) rfl rfl (by decide +kernel) (fun _ => rfl) (fun _ => rfl) (Nat.le_of_ble_eq_true rfl) (by decide +kernel) (by decide +kernel) hP hD hS dK0_23 dK0_25 (fun q2 H locs hP hD hS => ?_)
  refine lv_aload_n hx hb dK0_28 rfl (lv_at hl 0 rfl) ?_
  refine lv_bipush (v := 6) hx hb dK0_29 (by decide +kernel) ?_
  refine ct_arr (atype := .int) (n := 6) (index := 21) (pc := 31) (t0 := 0) (cT := tc 0) (N' := 6) (a0 := (6, .inl (fun _ => 0))) (C := RX0) (T := TX0) (N := 10) (ci := 0) (k := 4) (ty2 := .array .int) hx hb hts hown hin hK hA rfl (sm_wd_in (i := 160) (by decide +kernel)) (fun _ => rfl) (by decide +kernel) (by decide +kernel) (by decide +kernel) sm_in0 tyX0 tyX0_ok nmX0 rfl (by decide) (show Cond.fieldLink RX0 21 RX0 "since" "[I" ∈ lw_g from (sm_wd_in (i := 339) (by decide +kernel))) rfl rfl (by decide +kernel) (fun _ => rfl) (fun _ => rfl) (Nat.le_of_ble_eq_true rfl) (by decide +kernel) (by decide +kernel) hP hD hS dK0_31 dK0_33 (fun q3 H locs hP hD hS => ?_)
  refine lv_aload_n hx hb dK0_36 rfl (lv_at hl 0 rfl) ?_
  refine lv_iconst (v := 3) hx hb dK0_37 (by decide +kernel) ?_
  refine ct_arr (atype := .int) (n := 3) (index := 24) (pc := 38) (t0 := 0) (cT := tc 0) (N' := 3) (a0 := (3, .inl (fun _ => 0))) (C := RX0) (T := TX0) (N := 10) (ci := 0) (k := 5) (ty2 := .array .int) hx hb hts hown hin hK hA rfl (sm_wd_in (i := 160) (by decide +kernel)) (fun _ => rfl) (by decide +kernel) (by decide +kernel) (by decide +kernel) sm_in0 tyX0 tyX0_ok nmX0 rfl (by decide) (show Cond.fieldLink RX0 24 RX0 "steps" "[I" ∈ lw_g from (sm_wd_in (i := 340) (by decide +kernel))) rfl rfl (by decide +kernel) (fun _ => rfl) (fun _ => rfl) (Nat.le_of_ble_eq_true rfl) (by decide +kernel) (by decide +kernel) hP hD hS dK0_38 dK0_40 (fun q4 H locs hP hD hS => ?_)
  refine lv_aload_n hx hb dK0_43 rfl (lv_at hl 0 rfl) ?_
  refine lv_aload_n hx hb dK0_44 rfl (lv_at hl 1 rfl) ?_
  refine va_putF (ci := 0) (v := .ref lg) (ty := .object "Lineartide$Ledger") (C := RX0) (T := TX0) (N := 10) hx hb hts sm_in0 tyX0 tyX0_ok nmX0 hown hK hP hD hS 0 rfl rfl 0 (by decide) (hts (.fieldLink RX0 27 RX0 "ledger" "LLineartide$Ledger;") (sm_wd_in (i := 335) (by decide +kernel))) (fun _ h9 => h9) rfl hin rfl (by decide +kernel) rfl rfl (Nat.le_of_ble_eq_true rfl) dK0_45 (fun H locs hP hD hS => ?_)
  have hP := hP.sub (ws' := cwd_0 tc h0 lg (fun k => ([q0, q1, q2, q3, q4] : List Nat).getD k 0)) [0, 5, 4, 3, 2, 1] rfl
  have hD := hD.sub (ws' := cwd_0 tc h0 lg (fun k => ([q0, q1, q2, q3, q4] : List Nat).getD k 0)) [0, 5, 4, 3, 2, 1] (by decide) rfl
  exact W.vret hx hb hr (fun t ht hW => ⟨⟨(), rfl, trivial, (fun k => ([q0, q1, q2, q3, q4] : List Nat).getD k 0), by rw [ht]; exact hP, hD⟩, hS.F ht⟩) hS.2.2 dK0_48
def cwd_4 (tc : Nat → ClassId) (h0 : Nat) (pr : Int32) (cd : Nat) (cn : Nat) (q : Nat → Nat) : va_W := [(h0, .inr (4, [.int pr, .ref cd, .ref cn, .ref (q 0), .ref (q 1), .ref (q 2), .ref (q 3), .ref (q 4), .int 0, .int 0, .int 0, .int 0, .int 0])), (q 0, .inl (tc 0, 102, .inl (fun _ => 0))), (q 1, .inl (tc 0, 51, .inl (fun _ => 0))), (q 2, .inl (tc 0, 17, .inl (fun _ => 0))), (q 3, .inl (tc 0, 6, .inl (fun _ => 0))), (q 4, .inl (tc 0, 3, .inl (fun _ => 0)))]
theorem dK4_0 : decode cX4_init 0 = .ok (.aload_n 0, 1) := by decide +kernel
theorem dK4_1 : decode cX4_init 1 = .ok (.invokespecial 3, 3) := by decide +kernel
theorem dK4_4 : decode cX4_init 4 = .ok (.aload_n 0, 1) := by decide +kernel
theorem dK4_5 : decode cX4_init 5 = .ok (.bipush 102, 2) := by decide +kernel
theorem dK4_7 : decode cX4_init 7 = .ok (.newarray .int, 2) := by decide +kernel
theorem dK4_9 : decode cX4_init 9 = .ok (.putfield 9, 3) := by decide +kernel
theorem dK4_12 : decode cX4_init 12 = .ok (.aload_n 0, 1) := by decide +kernel
theorem dK4_13 : decode cX4_init 13 = .ok (.bipush 51, 2) := by decide +kernel
theorem dK4_15 : decode cX4_init 15 = .ok (.newarray .int, 2) := by decide +kernel
theorem dK4_17 : decode cX4_init 17 = .ok (.putfield 15, 3) := by decide +kernel
theorem dK4_20 : decode cX4_init 20 = .ok (.aload_n 0, 1) := by decide +kernel
theorem dK4_21 : decode cX4_init 21 = .ok (.bipush 17, 2) := by decide +kernel
theorem dK4_23 : decode cX4_init 23 = .ok (.newarray .int, 2) := by decide +kernel
theorem dK4_25 : decode cX4_init 25 = .ok (.putfield 18, 3) := by decide +kernel
theorem dK4_28 : decode cX4_init 28 = .ok (.aload_n 0, 1) := by decide +kernel
theorem dK4_29 : decode cX4_init 29 = .ok (.bipush 6, 2) := by decide +kernel
theorem dK4_31 : decode cX4_init 31 = .ok (.newarray .int, 2) := by decide +kernel
theorem dK4_33 : decode cX4_init 33 = .ok (.putfield 21, 3) := by decide +kernel
theorem dK4_36 : decode cX4_init 36 = .ok (.aload_n 0, 1) := by decide +kernel
theorem dK4_37 : decode cX4_init 37 = .ok (.iconst 3, 1) := by decide +kernel
theorem dK4_38 : decode cX4_init 38 = .ok (.newarray .int, 2) := by decide +kernel
theorem dK4_40 : decode cX4_init 40 = .ok (.putfield 24, 3) := by decide +kernel
theorem dK4_43 : decode cX4_init 43 = .ok (.aload_n 0, 1) := by decide +kernel
theorem dK4_44 : decode cX4_init 44 = .ok (.iload_n 1, 1) := by decide +kernel
theorem dK4_45 : decode cX4_init 45 = .ok (.putfield 27, 3) := by decide +kernel
theorem dK4_48 : decode cX4_init 48 = .ok (.aload_n 0, 1) := by decide +kernel
theorem dK4_49 : decode cX4_init 49 = .ok (.aload_n 2, 1) := by decide +kernel
theorem dK4_50 : decode cX4_init 50 = .ok (.putfield 31, 3) := by decide +kernel
theorem dK4_53 : decode cX4_init 53 = .ok (.aload_n 0, 1) := by decide +kernel
theorem dK4_54 : decode cX4_init 54 = .ok (.aload_n 3, 1) := by decide +kernel
theorem dK4_55 : decode cX4_init 55 = .ok (.putfield 35, 3) := by decide +kernel
theorem dK4_58 : decode cX4_init 58 = .ok (.return_, 1) := by decide +kernel
set_option maxHeartbeats 20000000 in
set_option maxRecDepth 100000 in
theorem ctr_4 (l : Launch) (D : va_G) (tc : Nat → ClassId) (h0 sz : Nat) (pr : Int32) (cd : Nat) (cn : Nat) : Met l yX4_init (Cond.code yX4_init cX4_init 4 none :: lw_g) { frames := 1, cells := 5, slots := 179, locals := 12 } (va_Pc [.ref h0, .int pr, .ref cd, .ref cn] (ctB D tc [(h0, .inr (4, [.int 0, .null, .null, .null, .null, .null, .null, .null, .int 0, .int 0, .int 0, .int 0, .int 0]))] sz)) (va_Qv (S := Unit) (fun _ => True) (fun _ t => ∃ q : Nat → Nat, va_P D vwCl (cwd_4 tc h0 pr cd cn q) t.heap ∧ va_D (va_A [(h0, .inr (4, [.int 0, .null, .null, .null, .null, .null, .null, .null, .int 0, .int 0, .int 0, .int 0, .int 0]))] sz) (cwd_4 tc h0 pr cd cn q)) (va_A [(h0, .inr (4, [.int 0, .null, .null, .null, .null, .null, .null, .null, .int 0, .int 0, .int 0, .int 0, .int 0]))] sz)) 5 179 (va_A [(h0, .inr (4, [.int 0, .null, .null, .null, .null, .null, .null, .null, .int 0, .int 0, .int 0, .int 0, .int 0]))] sz) := by
  refine Met.ofW (cc := cX4_init) (maxL := 4) (ret := none) (by decide +kernel) rfl ?_
  intro p e s m args below meth c s₁ B hml hv
  obtain ⟨rfl, hsz, hP, hK, hD0⟩ := hv
  have hx := B.exec
  have hb := B.bytes
  have hr := B.returns
  have hts0 := atoms_spec (ws := (Cond.code yX4_init cX4_init 4 none :: lw_g)) B.pre
  have hts : ∀ w ∈ lw_g, w.before _ s = true := fun w h => hts0 w (List.mem_cons_of_mem _ h)
  have hown : s.vm.findClass RX4 = some m.cls := findClass_of_methodNamed B.named
  have hlocks := B.notSynchronized
  have hin : meth.name = "<init>" := (name_of_methodNamed B.named B.method).1
  subst hsz
  have hD := hD0.self (sz := s.heap.size)
  generalize hAe : va_A [(h0, .inr (4, [.int 0, .null, .null, .null, .null, .null, .null, .null, .int 0, .int 0, .int 0, .int 0, .int 0]))] s.heap.size = A at hD ⊢
  have hA : ∀ q : Nat, s.heap.size ≤ q → A q := fun q h => by rw [← hAe]; exact Or.inr h
  have hS : va_S A s.heap s.heap [] := va_S.rf
  have hl := lv_entry ([.ref h0, .int pr, .ref cd, .ref cn]) (n := 4) (Nat.le_of_ble_eq_true rfl)
  rw [lg_entry_eq]
  generalize (lg_sl ([.ref h0, .int pr, .ref cd, .ref cn]) ++ List.replicate (4 - (lg_sl ([.ref h0, .int pr, .ref cd, .ref cn])).length) Slot.unset).toArray = ls at hl ⊢
  have hl : lv_has ls 4 [(0, .ref h0), (1, .int pr), (2, .ref cd), (3, .ref cn)] := hl
  refine lv_aload_n hx hb dK4_0 rfl (lv_at hl 0 rfl) ?_
  refine W.objInit hx hb hown (hts (.methodLink RX4 3 Lib.objectInit) (sm_wd_in (i := 214) (by decide +kernel))) (hts (.instanceMethod Lib.objectInit) (sm_wd_in (i := 134) (by decide +kernel))) (hts (.code Lib.objectInit ⟨#[0xb1]⟩ 1 none) (sm_wd_in (i := 135) (by decide +kernel))) rfl (by rw [hml]; exact hl.1) rfl dK4_1 (Nat.le_of_ble_eq_true rfl) (Nat.le_of_ble_eq_true rfl) ?_
  refine W.eq (g2 := F0 m 4 ls []) rfl ?_
  refine lv_aload_n hx hb dK4_4 rfl (lv_at hl 0 rfl) ?_
  refine lv_bipush (v := 102) hx hb dK4_5 (by decide +kernel) ?_
  refine ct_arr (atype := .int) (n := 102) (index := 9) (pc := 7) (t0 := 0) (cT := tc 0) (N' := 102) (a0 := (102, .inl (fun _ => 0))) (C := RX4) (T := TX4) (N := 13) (ci := 4) (k := 3) (ty2 := .array .int) hx hb hts hown hin hK hA rfl (sm_wd_in (i := 160) (by decide +kernel)) (fun _ => rfl) (by decide +kernel) (by decide +kernel) (by decide +kernel) sm_in4 tyX4 tyX4_ok nmX4 rfl (by decide) (show Cond.fieldLink RX4 9 RX4 "names" "[I" ∈ lw_g from (sm_wd_in (i := 218) (by decide +kernel))) rfl rfl (by decide +kernel) (fun _ => rfl) (fun _ => rfl) (Nat.le_of_ble_eq_true rfl) (by decide +kernel) (by decide +kernel) hP hD hS dK4_7 dK4_9 (fun q0 H locs hP hD hS => ?_)
  refine lv_aload_n hx hb dK4_12 rfl (lv_at hl 0 rfl) ?_
  refine lv_bipush (v := 51) hx hb dK4_13 (by decide +kernel) ?_
  refine ct_arr (atype := .int) (n := 51) (index := 15) (pc := 15) (t0 := 0) (cT := tc 0) (N' := 51) (a0 := (51, .inl (fun _ => 0))) (C := RX4) (T := TX4) (N := 13) (ci := 4) (k := 4) (ty2 := .array .int) hx hb hts hown hin hK hA rfl (sm_wd_in (i := 160) (by decide +kernel)) (fun _ => rfl) (by decide +kernel) (by decide +kernel) (by decide +kernel) sm_in4 tyX4 tyX4_ok nmX4 rfl (by decide) (show Cond.fieldLink RX4 15 RX4 "steps" "[I" ∈ lw_g from (sm_wd_in (i := 219) (by decide +kernel))) rfl rfl (by decide +kernel) (fun _ => rfl) (fun _ => rfl) (Nat.le_of_ble_eq_true rfl) (by decide +kernel) (by decide +kernel) hP hD hS dK4_15 dK4_17 (fun q1 H locs hP hD hS => ?_)
  refine lv_aload_n hx hb dK4_20 rfl (lv_at hl 0 rfl) ?_
  refine lv_bipush (v := 17) hx hb dK4_21 (by decide +kernel) ?_
  refine ct_arr (atype := .int) (n := 17) (index := 18) (pc := 23) (t0 := 0) (cT := tc 0) (N' := 17) (a0 := (17, .inl (fun _ => 0))) (C := RX4) (T := TX4) (N := 13) (ci := 4) (k := 5) (ty2 := .array .int) hx hb hts hown hin hK hA rfl (sm_wd_in (i := 160) (by decide +kernel)) (fun _ => rfl) (by decide +kernel) (by decide +kernel) (by decide +kernel) sm_in4 tyX4 tyX4_ok nmX4 rfl (by decide) (show Cond.fieldLink RX4 18 RX4 "live" "[I" ∈ lw_g from (sm_wd_in (i := 220) (by decide +kernel))) rfl rfl (by decide +kernel) (fun _ => rfl) (fun _ => rfl) (Nat.le_of_ble_eq_true rfl) (by decide +kernel) (by decide +kernel) hP hD hS dK4_23 dK4_25 (fun q2 H locs hP hD hS => ?_)
  refine lv_aload_n hx hb dK4_28 rfl (lv_at hl 0 rfl) ?_
  refine lv_bipush (v := 6) hx hb dK4_29 (by decide +kernel) ?_
  refine ct_arr (atype := .int) (n := 6) (index := 21) (pc := 31) (t0 := 0) (cT := tc 0) (N' := 6) (a0 := (6, .inl (fun _ => 0))) (C := RX4) (T := TX4) (N := 13) (ci := 4) (k := 6) (ty2 := .array .int) hx hb hts hown hin hK hA rfl (sm_wd_in (i := 160) (by decide +kernel)) (fun _ => rfl) (by decide +kernel) (by decide +kernel) (by decide +kernel) sm_in4 tyX4 tyX4_ok nmX4 rfl (by decide) (show Cond.fieldLink RX4 21 RX4 "nowNames" "[I" ∈ lw_g from (sm_wd_in (i := 221) (by decide +kernel))) rfl rfl (by decide +kernel) (fun _ => rfl) (fun _ => rfl) (Nat.le_of_ble_eq_true rfl) (by decide +kernel) (by decide +kernel) hP hD hS dK4_31 dK4_33 (fun q3 H locs hP hD hS => ?_)
  refine lv_aload_n hx hb dK4_36 rfl (lv_at hl 0 rfl) ?_
  refine lv_iconst (v := 3) hx hb dK4_37 (by decide +kernel) ?_
  refine ct_arr (atype := .int) (n := 3) (index := 24) (pc := 38) (t0 := 0) (cT := tc 0) (N' := 3) (a0 := (3, .inl (fun _ => 0))) (C := RX4) (T := TX4) (N := 13) (ci := 4) (k := 7) (ty2 := .array .int) hx hb hts hown hin hK hA rfl (sm_wd_in (i := 160) (by decide +kernel)) (fun _ => rfl) (by decide +kernel) (by decide +kernel) (by decide +kernel) sm_in4 tyX4 tyX4_ok nmX4 rfl (by decide) (show Cond.fieldLink RX4 24 RX4 "nowSteps" "[I" ∈ lw_g from (sm_wd_in (i := 222) (by decide +kernel))) rfl rfl (by decide +kernel) (fun _ => rfl) (fun _ => rfl) (Nat.le_of_ble_eq_true rfl) (by decide +kernel) (by decide +kernel) hP hD hS dK4_38 dK4_40 (fun q4 H locs hP hD hS => ?_)
  refine lv_aload_n hx hb dK4_43 rfl (lv_at hl 0 rfl) ?_
  refine lv_iload_n hx hb dK4_44 rfl (lv_at hl 1 rfl) ?_
  refine va_putF (ci := 4) (v := .int pr) (ty := .int) (C := RX4) (T := TX4) (N := 13) hx hb hts sm_in4 tyX4 tyX4_ok nmX4 hown hK hP hD hS 0 rfl rfl 0 (by decide) (hts (.fieldLink RX4 27 RX4 "process" "I") (sm_wd_in (i := 215) (by decide +kernel))) (fun _ h9 => h9) rfl hin rfl (by decide +kernel) rfl rfl (Nat.le_of_ble_eq_true rfl) dK4_45 (fun H locs hP hD hS => ?_)
  refine lv_aload_n hx hb dK4_48 rfl (lv_at hl 0 rfl) ?_
  refine lv_aload_n hx hb dK4_49 rfl (lv_at hl 2 rfl) ?_
  refine va_putF (ci := 4) (v := .ref cd) (ty := .object "Lineartide$Code") (C := RX4) (T := TX4) (N := 13) hx hb hts sm_in4 tyX4 tyX4_ok nmX4 hown hK hP hD hS 0 rfl rfl 1 (by decide) (hts (.fieldLink RX4 31 RX4 "code" "LLineartide$Code;") (sm_wd_in (i := 216) (by decide +kernel))) (fun _ h9 => h9) rfl hin rfl (by decide +kernel) rfl rfl (Nat.le_of_ble_eq_true rfl) dK4_50 (fun H locs hP hD hS => ?_)
  refine lv_aload_n hx hb dK4_53 rfl (lv_at hl 0 rfl) ?_
  refine lv_aload_n hx hb dK4_54 rfl (lv_at hl 3 rfl) ?_
  refine va_putF (ci := 4) (v := .ref cn) (ty := .object "Lineartide$Channels") (C := RX4) (T := TX4) (N := 13) hx hb hts sm_in4 tyX4 tyX4_ok nmX4 hown hK hP hD hS 0 rfl rfl 2 (by decide) (hts (.fieldLink RX4 35 RX4 "channels" "LLineartide$Channels;") (sm_wd_in (i := 217) (by decide +kernel))) (fun _ h9 => h9) rfl hin rfl (by decide +kernel) rfl rfl (Nat.le_of_ble_eq_true rfl) dK4_55 (fun H locs hP hD hS => ?_)
  have hP := hP.sub (ws' := cwd_4 tc h0 pr cd cn (fun k => ([q0, q1, q2, q3, q4] : List Nat).getD k 0)) [0, 5, 4, 3, 2, 1] rfl
  have hD := hD.sub (ws' := cwd_4 tc h0 pr cd cn (fun k => ([q0, q1, q2, q3, q4] : List Nat).getD k 0)) [0, 5, 4, 3, 2, 1] (by decide) rfl
  exact W.vret hx hb hr (fun t ht hW => ⟨⟨(), rfl, trivial, (fun k => ([q0, q1, q2, q3, q4] : List Nat).getD k 0), by rw [ht]; exact hP, hD⟩, hS.F ht⟩) hS.2.2 dK4_58
def cwd_5 (tc : Nat → ClassId) (h0 : Nat) (ca : Nat) (fa : Nat) (cn : Nat) (q : Nat → Nat) : va_W := [(h0, .inr (5, [.ref ca, .ref fa, .ref cn, .ref (q 0), .ref (q 1), .int 0, .int 0, .int 0])), (q 0, .inl (tc 2, 1001, .inr (.inl (fun _ => 0)))), (q 1, .inl (tc 0, 2048, .inl (fun _ => 0)))]
theorem dK5_0 : decode cX5_init 0 = .ok (.aload_n 0, 1) := by decide +kernel
theorem dK5_1 : decode cX5_init 1 = .ok (.invokespecial 5, 3) := by decide +kernel
theorem dK5_4 : decode cX5_init 4 = .ok (.aload_n 0, 1) := by decide +kernel
theorem dK5_5 : decode cX5_init 5 = .ok (.sipush 1001, 3) := by decide +kernel
theorem dK5_8 : decode cX5_init 8 = .ok (.newarray .long, 2) := by decide +kernel
theorem dK5_10 : decode cX5_init 10 = .ok (.putfield 11, 3) := by decide +kernel
theorem dK5_13 : decode cX5_init 13 = .ok (.aload_n 0, 1) := by decide +kernel
theorem dK5_14 : decode cX5_init 14 = .ok (.sipush 2048, 3) := by decide +kernel
theorem dK5_17 : decode cX5_init 17 = .ok (.newarray .int, 2) := by decide +kernel
theorem dK5_19 : decode cX5_init 19 = .ok (.putfield 15, 3) := by decide +kernel
theorem dK5_22 : decode cX5_init 22 = .ok (.aload_n 0, 1) := by decide +kernel
theorem dK5_23 : decode cX5_init 23 = .ok (.aload_n 1, 1) := by decide +kernel
theorem dK5_24 : decode cX5_init 24 = .ok (.putfield 19, 3) := by decide +kernel
theorem dK5_27 : decode cX5_init 27 = .ok (.aload_n 0, 1) := by decide +kernel
theorem dK5_28 : decode cX5_init 28 = .ok (.aload_n 2, 1) := by decide +kernel
theorem dK5_29 : decode cX5_init 29 = .ok (.putfield 23, 3) := by decide +kernel
theorem dK5_32 : decode cX5_init 32 = .ok (.aload_n 0, 1) := by decide +kernel
theorem dK5_33 : decode cX5_init 33 = .ok (.aload_n 3, 1) := by decide +kernel
theorem dK5_34 : decode cX5_init 34 = .ok (.putfield 27, 3) := by decide +kernel
theorem dK5_37 : decode cX5_init 37 = .ok (.return_, 1) := by decide +kernel
set_option maxHeartbeats 20000000 in
set_option maxRecDepth 100000 in
theorem ctr_5 (l : Launch) (D : va_G) (tc : Nat → ClassId) (h0 sz : Nat) (ca : Nat) (fa : Nat) (cn : Nat) : Met l yX5_init (Cond.code yX5_init cX5_init 4 none :: lw_g) { frames := 1, cells := 2, slots := 3049, locals := 12 } (va_Pc [.ref h0, .ref ca, .ref fa, .ref cn] (ctB D tc [(h0, .inr (5, [.null, .null, .null, .null, .null, .int 0, .int 0, .int 0]))] sz)) (va_Qv (S := Unit) (fun _ => True) (fun _ t => ∃ q : Nat → Nat, va_P D vwCl (cwd_5 tc h0 ca fa cn q) t.heap ∧ va_D (va_A [(h0, .inr (5, [.null, .null, .null, .null, .null, .int 0, .int 0, .int 0]))] sz) (cwd_5 tc h0 ca fa cn q)) (va_A [(h0, .inr (5, [.null, .null, .null, .null, .null, .int 0, .int 0, .int 0]))] sz)) 2 3049 (va_A [(h0, .inr (5, [.null, .null, .null, .null, .null, .int 0, .int 0, .int 0]))] sz) := by
  refine Met.ofW (cc := cX5_init) (maxL := 4) (ret := none) (by decide +kernel) rfl ?_
  intro p e s m args below meth c s₁ B hml hv
  obtain ⟨rfl, hsz, hP, hK, hD0⟩ := hv
  have hx := B.exec
  have hb := B.bytes
  have hr := B.returns
  have hts0 := atoms_spec (ws := (Cond.code yX5_init cX5_init 4 none :: lw_g)) B.pre
  have hts : ∀ w ∈ lw_g, w.before _ s = true := fun w h => hts0 w (List.mem_cons_of_mem _ h)
  have hown : s.vm.findClass RX5 = some m.cls := findClass_of_methodNamed B.named
  have hlocks := B.notSynchronized
  have hin : meth.name = "<init>" := (name_of_methodNamed B.named B.method).1
  subst hsz
  have hD := hD0.self (sz := s.heap.size)
  generalize hAe : va_A [(h0, .inr (5, [.null, .null, .null, .null, .null, .int 0, .int 0, .int 0]))] s.heap.size = A at hD ⊢
  have hA : ∀ q : Nat, s.heap.size ≤ q → A q := fun q h => by rw [← hAe]; exact Or.inr h
  have hS : va_S A s.heap s.heap [] := va_S.rf
  have hl := lv_entry ([.ref h0, .ref ca, .ref fa, .ref cn]) (n := 4) (Nat.le_of_ble_eq_true rfl)
  rw [lg_entry_eq]
  generalize (lg_sl ([.ref h0, .ref ca, .ref fa, .ref cn]) ++ List.replicate (4 - (lg_sl ([.ref h0, .ref ca, .ref fa, .ref cn])).length) Slot.unset).toArray = ls at hl ⊢
  have hl : lv_has ls 4 [(0, .ref h0), (1, .ref ca), (2, .ref fa), (3, .ref cn)] := hl
  refine lv_aload_n hx hb dK5_0 rfl (lv_at hl 0 rfl) ?_
  refine W.objInit hx hb hown (hts (.methodLink RX5 5 Lib.objectInit) (sm_wd_in (i := 260) (by decide +kernel))) (hts (.instanceMethod Lib.objectInit) (sm_wd_in (i := 134) (by decide +kernel))) (hts (.code Lib.objectInit ⟨#[0xb1]⟩ 1 none) (sm_wd_in (i := 135) (by decide +kernel))) rfl (by rw [hml]; exact hl.1) rfl dK5_1 (Nat.le_of_ble_eq_true rfl) (Nat.le_of_ble_eq_true rfl) ?_
  refine W.eq (g2 := F0 m 4 ls []) rfl ?_
  refine lv_aload_n hx hb dK5_4 rfl (lv_at hl 0 rfl) ?_
  refine lv_sipush (v := 1001) hx hb dK5_5 (by decide +kernel) ?_
  refine ct_arr (atype := .long) (n := 1001) (index := 11) (pc := 8) (t0 := 2) (cT := tc 2) (N' := 1001) (a0 := (1001, .inr (.inl (fun _ => 0)))) (C := RX5) (T := TX5) (N := 8) (ci := 5) (k := 3) (ty2 := .array .long) hx hb hts hown hin hK hA rfl (sm_wd_in (i := 286) (by decide +kernel)) (fun _ => rfl) (by decide +kernel) (by decide +kernel) (by decide +kernel) sm_in5 tyX5 tyX5_ok nmX5 rfl (by decide) (show Cond.fieldLink RX5 11 RX5 "rows" "[J" ∈ lw_g from (sm_wd_in (i := 264) (by decide +kernel))) rfl rfl (by decide +kernel) (fun _ => rfl) (fun _ => rfl) (Nat.le_of_ble_eq_true rfl) (by decide +kernel) (by decide +kernel) hP hD hS dK5_8 dK5_10 (fun q0 H locs hP hD hS => ?_)
  refine lv_aload_n hx hb dK5_13 rfl (lv_at hl 0 rfl) ?_
  refine lv_sipush (v := 2048) hx hb dK5_14 (by decide +kernel) ?_
  refine ct_arr (atype := .int) (n := 2048) (index := 15) (pc := 17) (t0 := 0) (cT := tc 0) (N' := 2048) (a0 := (2048, .inl (fun _ => 0))) (C := RX5) (T := TX5) (N := 8) (ci := 5) (k := 4) (ty2 := .array .int) hx hb hts hown hin hK hA rfl (sm_wd_in (i := 160) (by decide +kernel)) (fun _ => rfl) (by decide +kernel) (by decide +kernel) (by decide +kernel) sm_in5 tyX5 tyX5_ok nmX5 rfl (by decide) (show Cond.fieldLink RX5 15 RX5 "table" "[I" ∈ lw_g from (sm_wd_in (i := 265) (by decide +kernel))) rfl rfl (by decide +kernel) (fun _ => rfl) (fun _ => rfl) (Nat.le_of_ble_eq_true rfl) (by decide +kernel) (by decide +kernel) hP hD hS dK5_17 dK5_19 (fun q1 H locs hP hD hS => ?_)
  refine lv_aload_n hx hb dK5_22 rfl (lv_at hl 0 rfl) ?_
  refine lv_aload_n hx hb dK5_23 rfl (lv_at hl 1 rfl) ?_
  refine va_putF (ci := 5) (v := .ref ca) (ty := .array (.object "Lineartide$Code")) (C := RX5) (T := TX5) (N := 8) hx hb hts sm_in5 tyX5 tyX5_ok nmX5 hown hK hP hD hS 0 rfl rfl 0 (by decide) (hts (.fieldLink RX5 19 RX5 "codes" "[LLineartide$Code;") (sm_wd_in (i := 261) (by decide +kernel))) (fun _ h9 => h9) rfl hin rfl (by decide +kernel) rfl rfl (Nat.le_of_ble_eq_true rfl) dK5_24 (fun H locs hP hD hS => ?_)
  refine lv_aload_n hx hb dK5_27 rfl (lv_at hl 0 rfl) ?_
  refine lv_aload_n hx hb dK5_28 rfl (lv_at hl 2 rfl) ?_
  refine va_putF (ci := 5) (v := .ref fa) (ty := .array (.object "Lineartide$Flow")) (C := RX5) (T := TX5) (N := 8) hx hb hts sm_in5 tyX5 tyX5_ok nmX5 hown hK hP hD hS 0 rfl rfl 1 (by decide) (hts (.fieldLink RX5 23 RX5 "flows" "[LLineartide$Flow;") (sm_wd_in (i := 262) (by decide +kernel))) (fun _ h9 => h9) rfl hin rfl (by decide +kernel) rfl rfl (Nat.le_of_ble_eq_true rfl) dK5_29 (fun H locs hP hD hS => ?_)
  refine lv_aload_n hx hb dK5_32 rfl (lv_at hl 0 rfl) ?_
  refine lv_aload_n hx hb dK5_33 rfl (lv_at hl 3 rfl) ?_
  refine va_putF (ci := 5) (v := .ref cn) (ty := .object "Lineartide$Channels") (C := RX5) (T := TX5) (N := 8) hx hb hts sm_in5 tyX5 tyX5_ok nmX5 hown hK hP hD hS 0 rfl rfl 2 (by decide) (hts (.fieldLink RX5 27 RX5 "channels" "LLineartide$Channels;") (sm_wd_in (i := 263) (by decide +kernel))) (fun _ h9 => h9) rfl hin rfl (by decide +kernel) rfl rfl (Nat.le_of_ble_eq_true rfl) dK5_34 (fun H locs hP hD hS => ?_)
  have hP := hP.sub (ws' := cwd_5 tc h0 ca fa cn (fun k => ([q0, q1] : List Nat).getD k 0)) [0, 2, 1] rfl
  have hD := hD.sub (ws' := cwd_5 tc h0 ca fa cn (fun k => ([q0, q1] : List Nat).getD k 0)) [0, 2, 1] (by decide) rfl
  exact W.vret hx hb hr (fun t ht hW => ⟨⟨(), rfl, trivial, (fun k => ([q0, q1] : List Nat).getD k 0), by rw [ht]; exact hP, hD⟩, hS.F ht⟩) hS.2.2 dK5_37
def cwd_1 (tc : Nat → ClassId) (h0 : Nat) (q : Nat → Nat) : va_W := [(h0, .inr (1, [.ref (q 0), .ref (q 1), .ref (q 2), .ref (q 3), .ref (q 4), .ref (q 5), .int 0])), (q 0, .inl (tc 0, 3, .inl (fun _ => 0))), (q 1, .inl (tc 0, 3, .inl (fun _ => 0))), (q 2, .inl (tc 0, 3, .inl (fun _ => 0))), (q 3, .inl (tc 0, 72, .inl (fun _ => -1))), (q 4, .inl (tc 0, 24, .inl (fun _ => 0))), (q 5, .inl (tc 0, 48, .inl (fun _ => 0)))]
theorem dK1_0 : decode cX1_init 0 = .ok (.aload_n 0, 1) := by decide +kernel
theorem dK1_1 : decode cX1_init 1 = .ok (.invokespecial 3, 3) := by decide +kernel
theorem dK1_4 : decode cX1_init 4 = .ok (.aload_n 0, 1) := by decide +kernel
theorem dK1_5 : decode cX1_init 5 = .ok (.iconst 3, 1) := by decide +kernel
theorem dK1_6 : decode cX1_init 6 = .ok (.newarray .int, 2) := by decide +kernel
theorem dK1_8 : decode cX1_init 8 = .ok (.putfield 9, 3) := by decide +kernel
theorem dK1_11 : decode cX1_init 11 = .ok (.aload_n 0, 1) := by decide +kernel
theorem dK1_12 : decode cX1_init 12 = .ok (.iconst 3, 1) := by decide +kernel
theorem dK1_13 : decode cX1_init 13 = .ok (.newarray .int, 2) := by decide +kernel
theorem dK1_15 : decode cX1_init 15 = .ok (.putfield 15, 3) := by decide +kernel
theorem dK1_18 : decode cX1_init 18 = .ok (.aload_n 0, 1) := by decide +kernel
theorem dK1_19 : decode cX1_init 19 = .ok (.iconst 3, 1) := by decide +kernel
theorem dK1_20 : decode cX1_init 20 = .ok (.newarray .int, 2) := by decide +kernel
theorem dK1_22 : decode cX1_init 22 = .ok (.putfield 18, 3) := by decide +kernel
theorem dK1_25 : decode cX1_init 25 = .ok (.aload_n 0, 1) := by decide +kernel
theorem dK1_26 : decode cX1_init 26 = .ok (.bipush 72, 2) := by decide +kernel
theorem dK1_28 : decode cX1_init 28 = .ok (.newarray .int, 2) := by decide +kernel
theorem dK1_30 : decode cX1_init 30 = .ok (.putfield 21, 3) := by decide +kernel
theorem dK1_33 : decode cX1_init 33 = .ok (.aload_n 0, 1) := by decide +kernel
theorem dK1_34 : decode cX1_init 34 = .ok (.bipush 24, 2) := by decide +kernel
theorem dK1_36 : decode cX1_init 36 = .ok (.newarray .int, 2) := by decide +kernel
theorem dK1_38 : decode cX1_init 38 = .ok (.putfield 24, 3) := by decide +kernel
theorem dK1_41 : decode cX1_init 41 = .ok (.aload_n 0, 1) := by decide +kernel
theorem dK1_42 : decode cX1_init 42 = .ok (.bipush 48, 2) := by decide +kernel
theorem dK1_44 : decode cX1_init 44 = .ok (.newarray .int, 2) := by decide +kernel
theorem dK1_46 : decode cX1_init 46 = .ok (.putfield 27, 3) := by decide +kernel
theorem dK1_49 : decode cX1_init 49 = .ok (.aload_n 0, 1) := by decide +kernel
theorem dK1_50 : decode cX1_init 50 = .ok (.getfield 21, 3) := by decide +kernel
theorem dK1_53 : decode cX1_init 53 = .ok (.iconst (-1), 1) := by decide +kernel
theorem dK1_54 : decode cX1_init 54 = .ok (.invokestatic 30, 3) := by decide +kernel
theorem dK1_57 : decode cX1_init 57 = .ok (.return_, 1) := by decide +kernel
set_option maxHeartbeats 20000000 in
set_option maxRecDepth 100000 in
theorem ctr_1 (l : Launch) (D : va_G) (tc : Nat → ClassId) (h0 sz : Nat) : Met l yX1_init (Cond.code yX1_init cX1_init 1 none :: lw_g) { frames := 1, cells := 6, slots := 153, locals := 23 } (va_Pc [.ref h0] (ctB D tc [(h0, .inr (1, [.null, .null, .null, .null, .null, .null, .int 0]))] sz)) (va_Qv (S := Unit) (fun _ => True) (fun _ t => ∃ q : Nat → Nat, va_P D vwCl (cwd_1 tc h0 q) t.heap ∧ va_D (va_A [(h0, .inr (1, [.null, .null, .null, .null, .null, .null, .int 0]))] sz) (cwd_1 tc h0 q)) (va_A [(h0, .inr (1, [.null, .null, .null, .null, .null, .null, .int 0]))] sz)) 6 153 (va_A [(h0, .inr (1, [.null, .null, .null, .null, .null, .null, .int 0]))] sz) := by
  refine Met.ofW (cc := cX1_init) (maxL := 1) (ret := none) (by decide +kernel) rfl ?_
  intro p e s m args below meth c s₁ B hml hv
  obtain ⟨rfl, hsz, hP, hK, hD0⟩ := hv
  have hx := B.exec
  have hb := B.bytes
  have hr := B.returns
  have hts0 := atoms_spec (ws := (Cond.code yX1_init cX1_init 1 none :: lw_g)) B.pre
  have hts : ∀ w ∈ lw_g, w.before _ s = true := fun w h => hts0 w (List.mem_cons_of_mem _ h)
  have hown : s.vm.findClass RX1 = some m.cls := findClass_of_methodNamed B.named
  have hlocks := B.notSynchronized
  have hin : meth.name = "<init>" := (name_of_methodNamed B.named B.method).1
  subst hsz
  have hD := hD0.self (sz := s.heap.size)
  generalize hAe : va_A [(h0, .inr (1, [.null, .null, .null, .null, .null, .null, .int 0]))] s.heap.size = A at hD ⊢
  have hA : ∀ q : Nat, s.heap.size ≤ q → A q := fun q h => by rw [← hAe]; exact Or.inr h
  have hS : va_S A s.heap s.heap [] := va_S.rf
  have hl := lv_entry ([.ref h0]) (n := 1) (Nat.le_of_ble_eq_true rfl)
  rw [lg_entry_eq]
  generalize (lg_sl ([.ref h0]) ++ List.replicate (1 - (lg_sl ([.ref h0])).length) Slot.unset).toArray = ls at hl ⊢
  have hl : lv_has ls 1 [(0, .ref h0)] := hl
  refine lv_aload_n hx hb dK1_0 rfl (lv_at hl 0 rfl) ?_
  refine W.objInit hx hb hown (hts (.methodLink RX1 3 Lib.objectInit) (sm_wd_in (i := 166) (by decide +kernel))) (hts (.instanceMethod Lib.objectInit) (sm_wd_in (i := 134) (by decide +kernel))) (hts (.code Lib.objectInit ⟨#[0xb1]⟩ 1 none) (sm_wd_in (i := 135) (by decide +kernel))) rfl (by rw [hml]; exact hl.1) rfl dK1_1 (Nat.le_of_ble_eq_true rfl) (Nat.le_of_ble_eq_true rfl) ?_
  refine W.eq (g2 := F0 m 4 ls []) rfl ?_
  refine lv_aload_n hx hb dK1_4 rfl (lv_at hl 0 rfl) ?_
  refine lv_iconst (v := 3) hx hb dK1_5 (by decide +kernel) ?_
  refine ct_arr (atype := .int) (n := 3) (index := 9) (pc := 6) (t0 := 0) (cT := tc 0) (N' := 3) (a0 := (3, .inl (fun _ => 0))) (C := RX1) (T := TX1) (N := 7) (ci := 1) (k := 0) (ty2 := .array .int) hx hb hts hown hin hK hA rfl (sm_wd_in (i := 160) (by decide +kernel)) (fun _ => rfl) (by decide +kernel) (by decide +kernel) (by decide +kernel) sm_in1 tyX1 tyX1_ok nmX1 rfl (by decide) (show Cond.fieldLink RX1 9 RX1 "protocol" "[I" ∈ lw_g from (sm_wd_in (i := 170) (by decide +kernel))) rfl rfl (by decide +kernel) (fun _ => rfl) (fun _ => rfl) (Nat.le_of_ble_eq_true rfl) (by decide +kernel) (by decide +kernel) hP hD hS dK1_6 dK1_8 (fun q0 H locs hP hD hS => ?_)
  refine lv_aload_n hx hb dK1_11 rfl (lv_at hl 0 rfl) ?_
  refine lv_iconst (v := 3) hx hb dK1_12 (by decide +kernel) ?_
  refine ct_arr (atype := .int) (n := 3) (index := 15) (pc := 13) (t0 := 0) (cT := tc 0) (N' := 3) (a0 := (3, .inl (fun _ => 0))) (C := RX1) (T := TX1) (N := 7) (ci := 1) (k := 1) (ty2 := .array .int) hx hb hts hown hin hK hA rfl (sm_wd_in (i := 160) (by decide +kernel)) (fun _ => rfl) (by decide +kernel) (by decide +kernel) (by decide +kernel) sm_in1 tyX1 tyX1_ok nmX1 rfl (by decide) (show Cond.fieldLink RX1 15 RX1 "left" "[I" ∈ lw_g from (sm_wd_in (i := 171) (by decide +kernel))) rfl rfl (by decide +kernel) (fun _ => rfl) (fun _ => rfl) (Nat.le_of_ble_eq_true rfl) (by decide +kernel) (by decide +kernel) hP hD hS dK1_13 dK1_15 (fun q1 H locs hP hD hS => ?_)
  refine lv_aload_n hx hb dK1_18 rfl (lv_at hl 0 rfl) ?_
  refine lv_iconst (v := 3) hx hb dK1_19 (by decide +kernel) ?_
  refine ct_arr (atype := .int) (n := 3) (index := 18) (pc := 20) (t0 := 0) (cT := tc 0) (N' := 3) (a0 := (3, .inl (fun _ => 0))) (C := RX1) (T := TX1) (N := 7) (ci := 1) (k := 2) (ty2 := .array .int) hx hb hts hown hin hK hA rfl (sm_wd_in (i := 160) (by decide +kernel)) (fun _ => rfl) (by decide +kernel) (by decide +kernel) (by decide +kernel) sm_in1 tyX1 tyX1_ok nmX1 rfl (by decide) (show Cond.fieldLink RX1 18 RX1 "right" "[I" ∈ lw_g from (sm_wd_in (i := 172) (by decide +kernel))) rfl rfl (by decide +kernel) (fun _ => rfl) (fun _ => rfl) (Nat.le_of_ble_eq_true rfl) (by decide +kernel) (by decide +kernel) hP hD hS dK1_20 dK1_22 (fun q2 H locs hP hD hS => ?_)
  refine lv_aload_n hx hb dK1_25 rfl (lv_at hl 0 rfl) ?_
  refine lv_bipush (v := 72) hx hb dK1_26 (by decide +kernel) ?_
  refine ct_arr (atype := .int) (n := 72) (index := 21) (pc := 28) (t0 := 0) (cT := tc 0) (N' := 72) (a0 := (72, .inl (fun _ => 0))) (C := RX1) (T := TX1) (N := 7) (ci := 1) (k := 3) (ty2 := .array .int) hx hb hts hown hin hK hA rfl (sm_wd_in (i := 160) (by decide +kernel)) (fun _ => rfl) (by decide +kernel) (by decide +kernel) (by decide +kernel) sm_in1 tyX1 tyX1_ok nmX1 rfl (by decide) (show Cond.fieldLink RX1 21 RX1 "asked" "[I" ∈ lw_g from (sm_wd_in (i := 173) (by decide +kernel))) rfl rfl (by decide +kernel) (fun _ => rfl) (fun _ => rfl) (Nat.le_of_ble_eq_true rfl) (by decide +kernel) (by decide +kernel) hP hD hS dK1_28 dK1_30 (fun q3 H locs hP hD hS => ?_)
  refine lv_aload_n hx hb dK1_33 rfl (lv_at hl 0 rfl) ?_
  refine lv_bipush (v := 24) hx hb dK1_34 (by decide +kernel) ?_
  refine ct_arr (atype := .int) (n := 24) (index := 24) (pc := 36) (t0 := 0) (cT := tc 0) (N' := 24) (a0 := (24, .inl (fun _ => 0))) (C := RX1) (T := TX1) (N := 7) (ci := 1) (k := 4) (ty2 := .array .int) hx hb hts hown hin hK hA rfl (sm_wd_in (i := 160) (by decide +kernel)) (fun _ => rfl) (by decide +kernel) (by decide +kernel) (by decide +kernel) sm_in1 tyX1 tyX1_ok nmX1 rfl (by decide) (show Cond.fieldLink RX1 24 RX1 "kinds" "[I" ∈ lw_g from (sm_wd_in (i := 174) (by decide +kernel))) rfl rfl (by decide +kernel) (fun _ => rfl) (fun _ => rfl) (Nat.le_of_ble_eq_true rfl) (by decide +kernel) (by decide +kernel) hP hD hS dK1_36 dK1_38 (fun q4 H locs hP hD hS => ?_)
  refine lv_aload_n hx hb dK1_41 rfl (lv_at hl 0 rfl) ?_
  refine lv_bipush (v := 48) hx hb dK1_42 (by decide +kernel) ?_
  refine ct_arr (atype := .int) (n := 48) (index := 27) (pc := 44) (t0 := 0) (cT := tc 0) (N' := 48) (a0 := (48, .inl (fun _ => 0))) (C := RX1) (T := TX1) (N := 7) (ci := 1) (k := 5) (ty2 := .array .int) hx hb hts hown hin hK hA rfl (sm_wd_in (i := 160) (by decide +kernel)) (fun _ => rfl) (by decide +kernel) (by decide +kernel) (by decide +kernel) sm_in1 tyX1 tyX1_ok nmX1 rfl (by decide) (show Cond.fieldLink RX1 27 RX1 "nexts" "[I" ∈ lw_g from (sm_wd_in (i := 175) (by decide +kernel))) rfl rfl (by decide +kernel) (fun _ => rfl) (fun _ => rfl) (Nat.le_of_ble_eq_true rfl) (by decide +kernel) (by decide +kernel) hP hD hS dK1_44 dK1_46 (fun q5 H locs hP hD hS => ?_)
  refine lv_aload_n hx hb dK1_49 rfl (lv_at hl 0 rfl) ?_
  refine va_get (ci := 1) (v := .ref q3) (C := RX1) (T := TX1) (N := 7) hx hb hts sm_in1 hown hK hP 0 rfl rfl 3 (by decide) (hts (.fieldLink RX1 21 RX1 "asked" "[I") (sm_wd_in (i := 173) (by decide +kernel))) (fun _ h9 => h9) rfl dK1_50 ?_
  refine lv_iconst (v := -1) hx hb dK1_53 (by decide +kernel) ?_
  have hPc := hP.sub (ws' := [(q3, .inl (tc 0, 72, .inl (fun _ => 0)))]) [3] rfl
  have hDc := hD.sub (ws' := [(q3, .inl (tc 0, 72, .inl (fun _ => 0)))]) [3] (by decide) rfl
  have hPj := hP.sub (ws' := [(q3, .inl (tc 0, 72, .inl (fun _ => 0)))] ++ [(h0, .inr (1, [.ref (q0), .ref (q1), .ref (q2), .ref q3, .ref (q4), .ref (q5), .int 0])), (q0, .inl (tc 0, 3, .inl (fun _ => 0))), (q1, .inl (tc 0, 3, .inl (fun _ => 0))), (q2, .inl (tc 0, 3, .inl (fun _ => 0))), (q4, .inl (tc 0, 24, .inl (fun _ => 0))), (q5, .inl (tc 0, 48, .inl (fun _ => 0)))]) [3, 0, 6, 5, 4, 2, 1] rfl
  have hDj := hD.sub (ws' := [(q3, .inl (tc 0, 72, .inl (fun _ => 0)))] ++ [(h0, .inr (1, [.ref (q0), .ref (q1), .ref (q2), .ref q3, .ref (q4), .ref (q5), .int 0])), (q0, .inl (tc 0, 3, .inl (fun _ => 0))), (q1, .inl (tc 0, 3, .inl (fun _ => 0))), (q2, .inl (tc 0, 3, .inl (fun _ => 0))), (q4, .inl (tc 0, 24, .inl (fun _ => 0))), (q5, .inl (tc 0, 48, .inl (fun _ => 0)))]) [3, 0, 6, 5, 4, 2, 1] (by decide) rfl
  have hF := ct_free hDj hS hA
  refine va_callv (va_runS (As := [.ref q3, .int (-1)]) (rest := []) ⟨hx, hb, hml, hown, hts⟩ (fill1 l D tc q3 72 _ (-1) (by decide) (fun _ => 0)) (va_cwS 2 hts gd_fill rfl rfl rfl ⟨by decide +kernel, by decide +kernel, by decide +kernel⟩ ⟨Nat.le_of_ble_eq_true rfl, Nat.le_of_ble_eq_true rfl⟩) (ctB_pre hK hPc hDc _) rfl rfl hl.1 rfl (lv_room (Nat.le_of_ble_eq_true rfl)) dK1_54 ⟨Nat.le_of_ble_eq_true rfl, Nat.le_of_ble_eq_true rfl⟩) hS (fun q _ h => hF q h) hF (fun u t H1 locs1 ht hvm hw hB hz1 hk1 hS => ?_)
  obtain ⟨hP1, hD1⟩ := hB
  rw [ht] at hP1
  obtain ⟨hP, hD⟩ := ct_join hPj hDj hk1 hF hP1 hD1
  have hP := hP.sub (ws' := cwd_1 tc h0 (fun k => ([q0, q1, q2, q3, q4, q5] : List Nat).getD k 0)) [1, 2, 3, 4, 0, 5, 6] rfl
  have hD := hD.sub (ws' := cwd_1 tc h0 (fun k => ([q0, q1, q2, q3, q4, q5] : List Nat).getD k 0)) [1, 2, 3, 4, 0, 5, 6] (by decide) rfl
  exact W.vret hx hb hr (fun t ht hW => ⟨⟨(), rfl, trivial, (fun k => ([q0, q1, q2, q3, q4, q5] : List Nat).getD k 0), by rw [ht]; exact hP, hD⟩, hS.F ht⟩) hS.2.2 dK1_57
