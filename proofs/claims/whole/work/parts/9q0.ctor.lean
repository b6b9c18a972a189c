/-! constructors of one class's own cells -/
section CTOR
variable {p : Program} {l : Launch} {e : Env} {R : Room} {s : State} {m : MethodId} {args : Array Value} {below : List Frame} {meth : Method} {c : Code} {H : Heap} {locs : List Loc} {cells slots pc : Nat} {Q : State → Prop} {ls : Array Slot} {rest : List Value} {cc : ByteArray} {D : va_G} {tc : Nat → ClassId} {A : Nat → Prop} {H0 : Heap}
/-- a new array, put into a field of the new object -/
theorem ct_arr {t0 : Nat} {cT : ClassId} {atype : ArrayType} {n : Int32} {N' : Nat} {a0 : vp_A} {C : String} {T : u_T} {N ci k index h0 : Nat} {fs : List Value} {W0 : va_W} {ty2 : FieldType} (hexec : p.tables.exec = Jvm.exec) (hb : c.code = cc) (hts : ∀ w ∈ lw_g, w.before args s = true) (hown : s.vm.findClass C = some m.cls) (hin2 : meth.name = "<init>") (hK : va_K D vwCl (sm_tys tc) s) (hA : ∀ q : Nat, H0.size ≤ q → A q)
    (ht : (sm_tys tc)[t0]? = some (cT, newarray.typeOf atype)) (harr : Cond.arrayClass (newarray.typeOf atype) ∈ lw_g) (ha : ∀ cA : ClassId, vp_cell cA a0 = arrV cA N' (fun _ => defaultValue (newarray.typeOf atype))) (hn : ¬ n < 0) (hN : n.toNatClampNeg = N') (hbytes : N' * componentBytes (newarray.typeOf atype) ≤ 536870912)
    (hin : ∀ w ∈ u_ws C T N, w ∈ lw_g) (ty0 : Nat → FieldType) (hty : ∀ k, k < N → parseFieldDescriptor (T k).2.2.1 = some (ty0 k)) (hnm : ∀ a, a < N → ∀ b, b < N → a ≠ b → (T a).2.1 ≠ (T b).2.1) (hc : vwCl[ci]? = some (C, T, N)) (hk : k < N) (hlink : Cond.fieldLink C index C (T k).2.1 (T k).2.2.1 ∈ lw_g) (hfin : (T k).2.2.2 = true) (hdecl : (T k).1 = C) (hd : parseFieldDescriptor (T k).2.2.1 = some ty2) (hnar : ∀ q : Nat, narrow ty2 (.ref q) = .ref q) (hfit : ∀ q : Nat, fits ty2 (.ref q) = true)
    (hl : k < fs.length) (hcells : cells + 1 ≤ R.cells) (hslots : slots + N' ≤ R.slots) (hP : va_P D vwCl ((h0, .inr (ci, fs)) :: W0) H) (hD : va_D A ((h0, .inr (ci, fs)) :: W0)) (hS : va_S A H0 H locs)
    (d1 : decode cc pc = .ok (.newarray atype, 2)) (d2 : decode cc (pc + 2) = .ok (.putfield index, 3))
    (kk : ∀ (q : Nat) (H1 : Heap) (locs1 : List Loc), va_P D vwCl ((h0, .inr (ci, fs.set k (.ref q))) :: ((q, .inl (cT, a0)) :: W0)) H1 → va_D A ((h0, .inr (ci, fs.set k (.ref q))) :: ((q, .inl (cT, a0)) :: W0)) → va_S A H0 H1 locs1 → W p l e R s m args below meth c H1 locs1 (cells + 1) (slots + N') Q (F0 m (pc + 2 + 3) ls rest)) :
    W p l e R s m args below meth c H locs cells slots Q (F0 m pc ls (.int n :: .ref h0 :: rest)) := by
  refine va_newa (rest := .ref h0 :: rest) hexec hb (hts _ harr) rfl hK hP hD hS hA ha hn hN hbytes hcells hslots d1 (fun q cA H1 hK1 hP1 hD1 hS1 => ?_)
  have ec : cA = cT := arr_one (hK1.2 7 _ rfl).2 (hK.2 t0 _ ht).2
  subst ec
  have hP1 : va_P D vwCl ((h0, .inr (ci, fs)) :: (W0 ++ [(q, .inl (cA, a0))])) H1 := hP1
  have hD1 : va_D A ((h0, .inr (ci, fs)) :: (W0 ++ [(q, .inl (cA, a0))])) := hD1
  exact va_putF hexec hb hts hin ty0 hty hnm hown hK hP1 hD1 hS1 0 rfl hc k hk (hts _ hlink) (fun _ h => by rw [hdecl] at h; exact h) hfin hin2 hdecl hd (hnar q) (hfit q) hl d2 (fun H2 locs2 hP2 hD2 hS2 => kk q H2 locs2 (P_perm (List.Perm.cons _ (List.perm_append_comm (l₁ := W0) (l₂ := [(q, .inl (cA, a0))]))) hP2) (D_perm (List.Perm.cons _ (List.perm_append_comm (l₁ := W0) (l₂ := [(q, .inl (cA, a0))]))) hD2) hS2)
end CTOR
theorem gd_fill : GoodIn lw_g (va_wsS RX1 30 yA_fill (Cond.code yA_fill prog_22_method_103_code 4 none :: lw_g)) := lw_g_in (fun w hw => by
  unfold va_wsS at hw
  simp only [List.mem_append, List.mem_cons, List.not_mem_nil, or_false] at hw
  have a1 : Cond.initialized yA_fill.cls ∈ lw_g := sm_wd_in (i := 111) (by decide +kernel)
  have a2 : Cond.methodLink RX1 30 yA_fill ∈ lw_g := sm_wd_in (i := 167) (by decide +kernel)
  have a3 : Cond.static yA_fill ∈ lw_g := sm_wd_in (i := 168) (by decide +kernel)
  have a4 : Cond.code yA_fill prog_22_method_103_code 4 none ∈ lw_g := sm_wd_in (i := 169) (by decide +kernel)
  rcases hw with hw | hw
  · rcases hw with rfl | rfl | rfl <;> assumption
  · rcases hw with rfl | hw
    · exact a4
    · exact hw)
def cwd_8 (tc : Nat → ClassId) (h0 : Nat) (q : Nat → Nat) : va_W := [(h0, .inr (8, [.ref (q 0), .ref (q 1), .ref (q 2), .int 0])), (q 0, .inl (tc 0, 8, .inl (fun _ => 0))), (q 1, .inl (tc 0, 8, .inl (fun _ => 0))), (q 2, .inl (tc 0, 8, .inl (fun _ => 0)))]
theorem dK8_0 : decode cX8_init 0 = .ok (.aload_n 0, 1) := by decide +kernel
theorem dK8_1 : decode cX8_init 1 = .ok (.invokespecial 3, 3) := by decide +kernel
theorem dK8_4 : decode cX8_init 4 = .ok (.aload_n 0, 1) := by decide +kernel
theorem dK8_5 : decode cX8_init 5 = .ok (.bipush 8, 2) := by decide +kernel
theorem dK8_7 : decode cX8_init 7 = .ok (.newarray .int, 2) := by decide +kernel
theorem dK8_9 : decode cX8_init 9 = .ok (.putfield 9, 3) := by decide +kernel
theorem dK8_12 : decode cX8_init 12 = .ok (.aload_n 0, 1) := by decide +kernel
theorem dK8_13 : decode cX8_init 13 = .ok (.bipush 8, 2) := by decide +kernel
theorem dK8_15 : decode cX8_init 15 = .ok (.newarray .int, 2) := by decide +kernel
theorem dK8_17 : decode cX8_init 17 = .ok (.putfield 15, 3) := by decide +kernel
theorem dK8_20 : decode cX8_init 20 = .ok (.aload_n 0, 1) := by decide +kernel
theorem dK8_21 : decode cX8_init 21 = .ok (.bipush 8, 2) := by decide +kernel
theorem dK8_23 : decode cX8_init 23 = .ok (.newarray .int, 2) := by decide +kernel
theorem dK8_25 : decode cX8_init 25 = .ok (.putfield 18, 3) := by decide +kernel
theorem dK8_28 : decode cX8_init 28 = .ok (.return_, 1) := by decide +kernel
set_option maxHeartbeats 20000000 in
set_option maxRecDepth 100000 in
theorem ctr_8 (l : Launch) (D : va_G) (tc : Nat → ClassId) (h0 sz : Nat) : Met l yX8_init (Cond.code yX8_init cX8_init 1 none :: lw_g) { frames := 1, cells := 3, slots := 24, locals := 12 } (va_Pc [.ref h0] (ctB D tc [(h0, .inr (8, [.null, .null, .null, .int 0]))] sz)) (va_Qv (S := Unit) (fun _ => True) (fun _ t => ∃ q : Nat → Nat, va_P D vwCl (cwd_8 tc h0 q) t.heap ∧ va_D (va_A [(h0, .inr (8, [.null, .null, .null, .int 0]))] sz) (cwd_8 tc h0 q)) (va_A [(h0, .inr (8, [.null, .null, .null, .int 0]))] sz)) 3 24 (va_A [(h0, .inr (8, [.null, .null, .null, .int 0]))] sz) := by
  refine Met.ofW (cc := cX8_init) (maxL := 1) (ret := none) (by decide +kernel) rfl ?_
  intro p e s m args below meth c s₁ B hml hv
  obtain ⟨rfl, hsz, hP, hK, hD0⟩ := hv
  have hx := B.exec
  have hb := B.bytes
  have hr := B.returns
  have hts0 := atoms_spec (ws := (Cond.code yX8_init cX8_init 1 none :: lw_g)) B.pre
  have hts : ∀ w ∈ lw_g, w.before _ s = true := fun w h => hts0 w (List.mem_cons_of_mem _ h)
  have hown : s.vm.findClass RX8 = some m.cls := findClass_of_methodNamed B.named
  have hlocks := B.notSynchronized
  have hin : meth.name = "<init>" := (name_of_methodNamed B.named B.method).1
  subst hsz
  have hD := hD0.self (sz := s.heap.size)
  generalize hAe : va_A [(h0, .inr (8, [.null, .null, .null, .int 0]))] s.heap.size = A at hD ⊢
  have hA : ∀ q : Nat, s.heap.size ≤ q → A q := fun q h => by rw [← hAe]; exact Or.inr h
  have hS : va_S A s.heap s.heap [] := va_S.rf
  have hl := lv_entry ([.ref h0]) (n := 1) (Nat.le_of_ble_eq_true rfl)
  rw [lg_entry_eq]
  generalize (lg_sl ([.ref h0]) ++ List.replicate (1 - (lg_sl ([.ref h0])).length) Slot.unset).toArray = ls at hl ⊢
  have hl : lv_has ls 1 [(0, .ref h0)] := hl
  refine lv_aload_n hx hb dK8_0 rfl (lv_at hl 0 rfl) ?_
  refine W.objInit hx hb hown (hts (.methodLink RX8 3 Lib.objectInit) (sm_wd_in (i := 146) (by decide +kernel))) (hts (.instanceMethod Lib.objectInit) (sm_wd_in (i := 134) (by decide +kernel))) (hts (.code Lib.objectInit ⟨#[0xb1]⟩ 1 none) (sm_wd_in (i := 135) (by decide +kernel))) rfl (by rw [hml]; exact hl.1) rfl dK8_1 (Nat.le_of_ble_eq_true rfl) (Nat.le_of_ble_eq_true rfl) ?_
  refine W.eq (g2 := F0 m 4 ls []) rfl ?_
  refine lv_aload_n hx hb dK8_4 rfl (lv_at hl 0 rfl) ?_
  refine lv_bipush (v := 8) hx hb dK8_5 (by decide +kernel) ?_
  refine ct_arr (atype := .int) (n := 8) (index := 9) (pc := 7) (t0 := 0) (cT := tc 0) (N' := 8) (a0 := (8, .inl (fun _ => 0))) (C := RX8) (T := TX8) (N := 4) (ci := 8) (k := 0) (ty2 := .array .int) hx hb hts hown hin hK hA rfl (sm_wd_in (i := 160) (by decide +kernel)) (fun _ => rfl) (by decide +kernel) (by decide +kernel) (by decide +kernel) sm_in8 tyX8 tyX8_ok nmX8 rfl (by decide) (show Cond.fieldLink RX8 9 RX8 "what" "[I" ∈ lw_g from (sm_wd_in (i := 147) (by decide +kernel))) rfl rfl (by decide +kernel) (fun _ => rfl) (fun _ => rfl) (Nat.le_of_ble_eq_true rfl) (by decide +kernel) (by decide +kernel) hP hD hS dK8_7 dK8_9 (fun q0 H locs hP hD hS => ?_)
  refine lv_aload_n hx hb dK8_12 rfl (lv_at hl 0 rfl) ?_
  refine lv_bipush (v := 8) hx hb dK8_13 (by decide +kernel) ?_
  refine ct_arr (atype := .int) (n := 8) (index := 15) (pc := 15) (t0 := 0) (cT := tc 0) (N' := 8) (a0 := (8, .inl (fun _ => 0))) (C := RX8) (T := TX8) (N := 4) (ci := 8) (k := 1) (ty2 := .array .int) hx hb hts hown hin hK hA rfl (sm_wd_in (i := 160) (by decide +kernel)) (fun _ => rfl) (by decide +kernel) (by decide +kernel) (by decide +kernel) sm_in8 tyX8 tyX8_ok nmX8 rfl (by decide) (show Cond.fieldLink RX8 15 RX8 "a" "[I" ∈ lw_g from (sm_wd_in (i := 148) (by decide +kernel))) rfl rfl (by decide +kernel) (fun _ => rfl) (fun _ => rfl) (Nat.le_of_ble_eq_true rfl) (by decide +kernel) (by decide +kernel) hP hD hS dK8_15 dK8_17 (fun q1 H locs hP hD hS => ?_)
  refine lv_aload_n hx hb dK8_20 rfl (lv_at hl 0 rfl) ?_
  refine lv_bipush (v := 8) hx hb dK8_21 (by decide +kernel) ?_
  refine ct_arr (atype := .int) (n := 8) (index := 18) (pc := 23) (t0 := 0) (cT := tc 0) (N' := 8) (a0 := (8, .inl (fun _ => 0))) (C := RX8) (T := TX8) (N := 4) (ci := 8) (k := 2) (ty2 := .array .int) hx hb hts hown hin hK hA rfl (sm_wd_in (i := 160) (by decide +kernel)) (fun _ => rfl) (by decide +kernel) (by decide +kernel) (by decide +kernel) sm_in8 tyX8 tyX8_ok nmX8 rfl (by decide) (show Cond.fieldLink RX8 18 RX8 "b" "[I" ∈ lw_g from (sm_wd_in (i := 149) (by decide +kernel))) rfl rfl (by decide +kernel) (fun _ => rfl) (fun _ => rfl) (Nat.le_of_ble_eq_true rfl) (by decide +kernel) (by decide +kernel) hP hD hS dK8_23 dK8_25 (fun q2 H locs hP hD hS => ?_)
  have hP := hP.sub (ws' := cwd_8 tc h0 (fun k => ([q0, q1, q2] : List Nat).getD k 0)) [0, 3, 2, 1] rfl
  have hD := hD.sub (ws' := cwd_8 tc h0 (fun k => ([q0, q1, q2] : List Nat).getD k 0)) [0, 3, 2, 1] (by decide) rfl
  exact W.vret hx hb hr (fun t ht hW => ⟨⟨(), rfl, trivial, (fun k => ([q0, q1, q2] : List Nat).getD k 0), by rw [ht]; exact hP, hD⟩, hS.F ht⟩) hS.2.2 dK8_28
