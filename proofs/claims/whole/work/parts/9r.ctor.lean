/-! constructors that make objects -/
def ctB2 (D : va_G) (tc : Nat → ClassId) (ws : va_W) (sz : Nat) (Cs : List String) : State → Prop := fun U => ctB D tc ws sz U ∧ ∀ C ∈ Cs, va_AO C U
theorem ctB2_pre {D : va_G} {tc : Nat → ClassId} {ws : va_W} {A : Nat → Prop} {s : State} {H : Heap} {Cs : List String} (hK : va_K D vwCl (sm_tys tc) s) (hP : va_P D vwCl ws H) (hD : va_D A ws) (av : List Value) (hAO : ∀ C ∈ Cs, va_AO C s) : PreS s H (va_Pc av (ctB2 D tc ws H.size Cs)) av := by
  have h := ctB_pre hK hP hD av
  refine ⟨fun a U g mk q => ?_, fun U hU hW => ?_⟩
  · obtain ⟨q0, q1, q2⟩ := q
    obtain ⟨z0, z1⟩ := h.1 a U g mk ⟨q0, q1⟩
    exact ⟨z0, z1, fun C hC => va_AO.moved (u := U) (U := U.calling g mk a) (Vm.Alike.refl U.vm) (q2 C hC)⟩
  · obtain ⟨z0, z1⟩ := h.2 U hU hW
    exact ⟨z0, z1, fun C hC => va_AO.moved hW.alike (hAO C hC)⟩
theorem P_chg {D : va_G} {cl : List vw_C} {u v : va_W} {x y : Nat × va_E} {H : Heap} (h : va_P D cl (u ++ x :: v) H) (hxy : va_at D cl x H → va_at D cl y H) : va_P D cl (u ++ y :: v) H := by
  rw [P_mem] at h ⊢
  intro q hq
  rcases List.mem_append.mp hq with hq | hq
  · exact h q (List.mem_append_left _ hq)
  · rcases List.mem_cons.mp hq with rfl | hq
    · exact hxy (h x (List.mem_append_right _ List.mem_cons_self))
    · exact h q (List.mem_append_right _ (List.mem_cons_of_mem _ hq))
theorem D_chg {A : Nat → Prop} {u v : va_W} {x y : Nat × va_E} (h : va_D A (u ++ x :: v)) (e : y.1 = x.1) : va_D A (u ++ y :: v) := by
  rw [D_app, D_cons] at h ⊢
  obtain ⟨h1, ⟨h2, h3, h4⟩, h5⟩ := h
  refine ⟨h1, ⟨by rw [e]; exact h2, fun q hq => by rw [e]; exact h3 q hq, h4⟩, fun z hz w hw => ?_⟩
  rcases List.mem_cons.mp hw with rfl | hw
  · rw [e]; exact h5 z hz x List.mem_cons_self
  · exact h5 z hz w (List.mem_cons_of_mem _ hw)
theorem at_chg {D : va_G} {cl : List vw_C} {a : Nat} {cA : ClassId} {n : Nat} {f g : Nat → Option Nat} {H : Heap} (h : ∀ j, j < n → f j = g j) : va_at D cl (a, .inl (cA, n, .inr (.inr (.inr (.inr f))))) H → va_at D cl (a, .inl (cA, n, .inr (.inr (.inr (.inr g))))) H := by
  intro hf
  have hf : H[a]? = some (arrV cA n (fun j => va_rf (f j))) := hf
  show H[a]? = some (arrV cA n (fun j => va_rf (g j)))
  rw [hf]
  unfold arrV
  congr 3
  funext i
  show va_rf (f i.val) = va_rf (g i.val)
  rw [h i.val i.isLt]
theorem up3 {a b c : Nat} : ∀ j, j < 3 → (va_up (va_up (va_up (fun _ => none) (Int32.toNatClampNeg 0) (some a)) (Int32.toNatClampNeg 1) (some b)) (Int32.toNatClampNeg 2) (some c)) j = (fun i => some ((fun i => match i with | 0 => a | 1 => b | _ => c) i)) j := by
  intro j hj
  rcases (show j = 0 ∨ j = 1 ∨ j = 2 by omega) with rfl | rfl | rfl <;> rfl
theorem gd_0 : GoodIn lw_g (Cond.code yX0_init cX0_init 2 none :: lw_g) := lw_g_in (fun w hw => by
  rcases List.mem_cons.mp hw with rfl | hw
  · exact (sm_wd_in (i := 333) (by decide +kernel))
  · exact hw)
theorem df_0 : ∀ j, j < 10 → defaultValue (tyX0 j) = vp_V [.null, .null, .null, .null, .null, .null, .int 0, .int 0, .int 0, .int 0] j := by decide +kernel
theorem gd_6 : GoodIn lw_g (Cond.code yX6_init cX6_init 1 none :: lw_g) := lw_g_in (fun w hw => by
  rcases List.mem_cons.mp hw with rfl | hw
  · exact (sm_wd_in (i := 297) (by decide +kernel))
  · exact hw)
theorem df_6 : ∀ j, j < 4 → defaultValue (tyX6 j) = vp_V [.null, .int 0, .int 0, .int 0] j := by decide +kernel
theorem gd_7 : GoodIn lw_g (Cond.code yX7_init cX7_init 1 none :: lw_g) := lw_g_in (fun w hw => by
  rcases List.mem_cons.mp hw with rfl | hw
  · exact (sm_wd_in (i := 316) (by decide +kernel))
  · exact hw)
theorem df_7 : ∀ j, j < 3 → defaultValue (tyX7 j) = vp_V [.null, .null, .null] j := by decide +kernel
def cwd_3 (tc : Nat → ClassId) (h0 ca cn u6 : Nat) (v6 : Nat → Nat) (u7 : Nat) (v7 : Nat → Nat) (b3 : Nat) (u0 : Nat → Nat) (v0 : Nat → Nat → Nat) : va_W := [(h0, .inr (3, [.ref ca, .ref cn, .ref u6, .ref u7, .ref b3, .int 0])), (b3, .inl (tc 3, 3, .inr (.inr (.inr (.inr (fun i => some (u0 i)))))))] ++ (cwd_0 tc (u0 2) u6 (v0 2) ++ (cwd_0 tc (u0 1) u6 (v0 1) ++ (cwd_0 tc (u0 0) u6 (v0 0) ++ (cwd_7 tc u7 v7 ++ (cwd_6 tc u6 v6 ++ [])))))
theorem dK3_0 : decode cX3_init 0 = .ok (.aload_n 0, 1) := by decide +kernel
theorem dK3_1 : decode cX3_init 1 = .ok (.invokespecial 3, 3) := by decide +kernel
theorem dK3_4 : decode cX3_init 4 = .ok (.aload_n 0, 1) := by decide +kernel
theorem dK3_5 : decode cX3_init 5 = .ok (.new 9, 3) := by decide +kernel
theorem dK3_8 : decode cX3_init 8 = .ok (.dup, 1) := by decide +kernel
theorem dK3_9 : decode cX3_init 9 = .ok (.invokespecial 11, 3) := by decide +kernel
theorem dK3_12 : decode cX3_init 12 = .ok (.putfield 12, 3) := by decide +kernel
theorem dK3_15 : decode cX3_init 15 = .ok (.aload_n 0, 1) := by decide +kernel
theorem dK3_16 : decode cX3_init 16 = .ok (.new 18, 3) := by decide +kernel
theorem dK3_19 : decode cX3_init 19 = .ok (.dup, 1) := by decide +kernel
theorem dK3_20 : decode cX3_init 20 = .ok (.invokespecial 20, 3) := by decide +kernel
theorem dK3_23 : decode cX3_init 23 = .ok (.putfield 21, 3) := by decide +kernel
theorem dK3_26 : decode cX3_init 26 = .ok (.aload_n 0, 1) := by decide +kernel
theorem dK3_27 : decode cX3_init 27 = .ok (.iconst 3, 1) := by decide +kernel
theorem dK3_28 : decode cX3_init 28 = .ok (.anewarray 25, 3) := by decide +kernel
theorem dK3_31 : decode cX3_init 31 = .ok (.putfield 27, 3) := by decide +kernel
theorem dK3_34 : decode cX3_init 34 = .ok (.aload_n 0, 1) := by decide +kernel
theorem dK3_35 : decode cX3_init 35 = .ok (.aload_n 1, 1) := by decide +kernel
theorem dK3_36 : decode cX3_init 36 = .ok (.putfield 31, 3) := by decide +kernel
theorem dK3_39 : decode cX3_init 39 = .ok (.aload_n 0, 1) := by decide +kernel
theorem dK3_40 : decode cX3_init 40 = .ok (.aload_n 2, 1) := by decide +kernel
theorem dK3_41 : decode cX3_init 41 = .ok (.putfield 35, 3) := by decide +kernel
theorem dK3_44 : decode cX3_init 44 = .ok (.iconst 0, 1) := by decide +kernel
theorem dK3_45 : decode cX3_init 45 = .ok (.istore_n 3, 1) := by decide +kernel
theorem dK3_46 : decode cX3_init 46 = .ok (.iload_n 3, 1) := by decide +kernel
theorem dK3_47 : decode cX3_init 47 = .ok (.iconst 3, 1) := by decide +kernel
theorem dK3_48 : decode cX3_init 48 = .ok (.if_icmp .ge 26, 3) := by decide +kernel
theorem dK3_51 : decode cX3_init 51 = .ok (.aload_n 0, 1) := by decide +kernel
theorem dK3_52 : decode cX3_init 52 = .ok (.getfield 27, 3) := by decide +kernel
theorem dK3_55 : decode cX3_init 55 = .ok (.iload_n 3, 1) := by decide +kernel
theorem dK3_56 : decode cX3_init 56 = .ok (.new 25, 3) := by decide +kernel
theorem dK3_59 : decode cX3_init 59 = .ok (.dup, 1) := by decide +kernel
theorem dK3_60 : decode cX3_init 60 = .ok (.aload_n 0, 1) := by decide +kernel
theorem dK3_61 : decode cX3_init 61 = .ok (.getfield 12, 3) := by decide +kernel
theorem dK3_64 : decode cX3_init 64 = .ok (.invokespecial 39, 3) := by decide +kernel
theorem dK3_67 : decode cX3_init 67 = .ok (.aastore, 1) := by decide +kernel
theorem dK3_68 : decode cX3_init 68 = .ok (.iinc 3 1, 3) := by decide +kernel
theorem dK3_71 : decode cX3_init 71 = .ok (.goto (-25), 3) := by decide +kernel
theorem dK3_74 : decode cX3_init 74 = .ok (.return_, 1) := by decide +kernel
set_option maxHeartbeats 20000000 in
set_option maxRecDepth 100000 in
theorem ctr_3 (l : Launch) (D : va_G) (tc : Nat → ClassId) (h0 sz : Nat) (ca cn : Nat) : Met l yX3_init (Cond.code yX3_init cX3_init 4 none :: lw_g) { frames := 2, cells := 25, slots := 351, locals := 33 } (va_Pc [.ref h0, .ref ca, .ref cn] (ctB2 D tc [(h0, .inr (3, [.null, .null, .null, .null, .null, .int 0]))] sz [RX0])) (va_Qv (S := Unit) (fun _ => True) (fun _ t => ∃ (u6 : Nat) (v6 : Nat → Nat) (u7 : Nat) (v7 : Nat → Nat) (b3 : Nat) (u0 : Nat → Nat) (v0 : Nat → Nat → Nat), va_P D vwCl (cwd_3 tc h0 ca cn u6 v6 u7 v7 b3 u0 v0) t.heap ∧ va_D (va_A [(h0, .inr (3, [.null, .null, .null, .null, .null, .int 0]))] sz) (cwd_3 tc h0 ca cn u6 v6 u7 v7 b3 u0 v0)) (va_A [(h0, .inr (3, [.null, .null, .null, .null, .null, .int 0]))] sz)) 25 351 (va_A [(h0, .inr (3, [.null, .null, .null, .null, .null, .int 0]))] sz) := by
  refine Met.ofW (cc := cX3_init) (maxL := 4) (ret := none) (by decide +kernel) rfl ?_
  intro p e s m args below meth c s₁ B hml hv
  obtain ⟨rfl, ⟨hsz, hP, hK, hD0⟩, hAO⟩ := hv
  have hx := B.exec
  have hb := B.bytes
  have hr := B.returns
  have hts0 := atoms_spec (ws := (Cond.code yX3_init cX3_init 4 none :: lw_g)) B.pre
  have hts : ∀ w ∈ lw_g, w.before _ s = true := fun w h => hts0 w (List.mem_cons_of_mem _ h)
  have hown : s.vm.findClass RX3 = some m.cls := findClass_of_methodNamed B.named
  have hlocks := B.notSynchronized
  have hin : meth.name = "<init>" := (name_of_methodNamed B.named B.method).1
  subst hsz
  have hD := hD0.self (sz := s.heap.size)
  generalize hAe : va_A [(h0, .inr (3, [.null, .null, .null, .null, .null, .int 0]))] s.heap.size = A at hD ⊢
  have hA : ∀ q : Nat, s.heap.size ≤ q → A q := fun q h => by rw [← hAe]; exact Or.inr h
  have hS : va_S A s.heap s.heap [] := va_S.rf
  have hl := lv_entry ([.ref h0, .ref ca, .ref cn]) (n := 4) (Nat.le_of_ble_eq_true rfl)
  rw [lg_entry_eq]
  generalize (lg_sl ([.ref h0, .ref ca, .ref cn]) ++ List.replicate (4 - (lg_sl ([.ref h0, .ref ca, .ref cn])).length) Slot.unset).toArray = ls at hl ⊢
  have hl : lv_has ls 4 [(0, .ref h0), (1, .ref ca), (2, .ref cn)] := hl
  obtain ⟨H, hHe⟩ : ∃ H, H = s.heap := ⟨_, rfl⟩
  have hS : va_S A s.heap H [] := by rw [hHe]; exact hS
  rw [← hHe] at hP
  show W p l e _ s m _ below meth c s.heap _ _ _ _ _
  rw [← hHe]
  have hP : va_P D vwCl ([(h0, .inr (3, [.null, .null, .null, .null, .null, .int 0]))] ++ []) H := hP
  have hD : va_D A ([(h0, .inr (3, [.null, .null, .null, .null, .null, .int 0]))] ++ []) := hD
  refine lv_aload_n hx hb dK3_0 rfl (lv_at hl 0 rfl) ?_
  refine W.objInit hx hb hown (hts (.methodLink RX3 3 Lib.objectInit) (sm_wd_in (i := 292) (by decide +kernel))) (hts (.instanceMethod Lib.objectInit) (sm_wd_in (i := 134) (by decide +kernel))) (hts (.code Lib.objectInit ⟨#[0xb1]⟩ 1 none) (sm_wd_in (i := 135) (by decide +kernel))) rfl (by rw [hml]; exact hl.1) rfl dK3_1 (Nat.le_of_ble_eq_true rfl) (Nat.le_of_ble_eq_true rfl) ?_
  refine W.eq (g2 := F0 m 4 ls []) rfl ?_
  refine lv_aload_n hx hb dK3_4 rfl (lv_at hl 0 rfl) ?_
  refine va_new (ci := 6) (fs := [.null, .int 0, .int 0, .int 0]) (C := RX6) (T := TX6) (N := 4) hx hb hts sm_in6 tyX6 tyX6_ok hown (hts (.classLink RX3 9 RX6) (sm_wd_in (i := 293) (by decide +kernel))) (hts (.instantiable RX6 4) (sm_wd_in (i := 294) (by decide +kernel))) (hts (.initialized RX6) (sm_wd_in (i := 116) (by decide +kernel))) hK hP hD hS hA rfl df_6 (by decide +kernel) (by decide +kernel) dK3_5 (fun o6 H hP hD hS => ?_)
  refine lv_dup hx hb dK3_8 rfl ?_
  have hPj := P_perm (List.perm_append_comm (l₁ := ([(h0, .inr (3, [.null, .null, .null, .null, .null, .int 0]))] ++ [])) (l₂ := [(o6, .inr (6, [.null, .int 0, .int 0, .int 0]))])) hP
  have hDj := D_perm (List.perm_append_comm (l₁ := ([(h0, .inr (3, [.null, .null, .null, .null, .null, .int 0]))] ++ [])) (l₂ := [(o6, .inr (6, [.null, .int 0, .int 0, .int 0]))])) hD
  have hPc := (P_app.mp hPj).1
  have hDc := (D_app.mp hDj).1
  have hF := ct_free hDj hS hA
  refine va_callv (va_runI (As := []) (rest := [.ref o6, .ref h0]) ⟨hx, hb, hml, hown, hts⟩ (ctr_6 l D tc o6 _) (cwI 0 hts gd_6 rfl rfl rfl (hts (.initialized RX6) (sm_wd_in (i := 116) (by decide +kernel))) (hts (.methodLink RX3 11 yX6_init) (sm_wd_in (i := 295) (by decide +kernel))) (hts (.instanceMethod yX6_init) (sm_wd_in (i := 296) (by decide +kernel))) rfl (by decide +kernel) ⟨by decide +kernel, by decide +kernel⟩) (ctB_pre hK hPc hDc _) rfl rfl hl.1 rfl (lv_room (Nat.le_of_ble_eq_true rfl)) dK3_9 ⟨by decide +kernel, by decide +kernel⟩) hS (fun q _ h => hF q h) hF (fun u t H1 locs1 ht hvm hw hB hz1 hk1 hS => ?_)
  obtain ⟨q6, hP1, hD1⟩ := hB
  rw [ht] at hP1
  obtain ⟨hP, hD⟩ := ct_join hPj hDj hk1 hF hP1 hD1
  have hP := P_perm (List.perm_append_comm_assoc (cwd_6 tc o6 q6) [(h0, .inr (3, [.null, .null, .null, .null, .null, .int 0]))] []) hP
  have hD := D_perm (List.perm_append_comm_assoc (cwd_6 tc o6 q6) [(h0, .inr (3, [.null, .null, .null, .null, .null, .int 0]))] []) hD
  generalize H1 = H at hP hS ⊢
  have hP : va_P D vwCl ([(h0, .inr (3, [.null, .null, .null, .null, .null, .int 0]))] ++ ((cwd_6 tc o6 q6) ++ [])) H := hP
  have hD : va_D A ([(h0, .inr (3, [.null, .null, .null, .null, .null, .int 0]))] ++ ((cwd_6 tc o6 q6) ++ [])) := hD
  refine va_putF (ci := 3) (v := .ref o6) (ty := .object "Lineartide$Ledger") (C := RX3) (T := TX3) (N := 6) hx hb hts sm_in3 tyX3 tyX3_ok nmX3 hown hK hP hD hS 0 rfl rfl 2 (by decide) (hts (.fieldLink RX3 12 RX3 "ledger" "LLineartide$Ledger;") (sm_wd_in (i := 368) (by decide +kernel))) (fun _ h9 => h9) rfl hin rfl (by decide +kernel) rfl rfl (Nat.le_of_ble_eq_true rfl) dK3_12 (fun H locs hP hD hS => ?_)
  have hP : va_P D vwCl ([(h0, .inr (3, [.null, .null, .ref o6, .null, .null, .int 0]))] ++ ((cwd_6 tc o6 q6) ++ [])) H := hP
  have hD : va_D A ([(h0, .inr (3, [.null, .null, .ref o6, .null, .null, .int 0]))] ++ ((cwd_6 tc o6 q6) ++ [])) := hD
  refine lv_aload_n hx hb dK3_15 rfl (lv_at hl 0 rfl) ?_
  refine va_new (ci := 7) (fs := [.null, .null, .null]) (C := RX7) (T := TX7) (N := 3) hx hb hts sm_in7 tyX7 tyX7_ok hown (hts (.classLink RX3 18 RX7) (sm_wd_in (i := 312) (by decide +kernel))) (hts (.instantiable RX7 3) (sm_wd_in (i := 313) (by decide +kernel))) (hts (.initialized RX7) (sm_wd_in (i := 117) (by decide +kernel))) hK hP hD hS hA rfl df_7 (by decide +kernel) (by decide +kernel) dK3_16 (fun o7 H hP hD hS => ?_)
  refine lv_dup hx hb dK3_19 rfl ?_
  have hPj := P_perm (List.perm_append_comm (l₁ := ([(h0, .inr (3, [.null, .null, .ref o6, .null, .null, .int 0]))] ++ ((cwd_6 tc o6 q6) ++ []))) (l₂ := [(o7, .inr (7, [.null, .null, .null]))])) hP
  have hDj := D_perm (List.perm_append_comm (l₁ := ([(h0, .inr (3, [.null, .null, .ref o6, .null, .null, .int 0]))] ++ ((cwd_6 tc o6 q6) ++ []))) (l₂ := [(o7, .inr (7, [.null, .null, .null]))])) hD
  have hPc := (P_app.mp hPj).1
  have hDc := (D_app.mp hDj).1
  have hF := ct_free hDj hS hA
  refine va_callv (va_runI (As := []) (rest := [.ref o7, .ref h0]) ⟨hx, hb, hml, hown, hts⟩ (ctr_7 l D tc o7 _) (cwI 0 hts gd_7 rfl rfl rfl (hts (.initialized RX7) (sm_wd_in (i := 117) (by decide +kernel))) (hts (.methodLink RX3 20 yX7_init) (sm_wd_in (i := 314) (by decide +kernel))) (hts (.instanceMethod yX7_init) (sm_wd_in (i := 315) (by decide +kernel))) rfl (by decide +kernel) ⟨by decide +kernel, by decide +kernel⟩) (ctB_pre hK hPc hDc _) rfl rfl hl.1 rfl (lv_room (Nat.le_of_ble_eq_true rfl)) dK3_20 ⟨by decide +kernel, by decide +kernel⟩) hS (fun q _ h => hF q h) hF (fun u t H1 locs1 ht hvm hw hB hz1 hk1 hS => ?_)
  obtain ⟨q7, hP1, hD1⟩ := hB
  rw [ht] at hP1
  obtain ⟨hP, hD⟩ := ct_join hPj hDj hk1 hF hP1 hD1
  have hP := P_perm (List.perm_append_comm_assoc (cwd_7 tc o7 q7) [(h0, .inr (3, [.null, .null, .ref o6, .null, .null, .int 0]))] ((cwd_6 tc o6 q6) ++ [])) hP
  have hD := D_perm (List.perm_append_comm_assoc (cwd_7 tc o7 q7) [(h0, .inr (3, [.null, .null, .ref o6, .null, .null, .int 0]))] ((cwd_6 tc o6 q6) ++ [])) hD
  generalize H1 = H at hP hS ⊢
  have hP : va_P D vwCl ([(h0, .inr (3, [.null, .null, .ref o6, .null, .null, .int 0]))] ++ ((cwd_7 tc o7 q7) ++ ((cwd_6 tc o6 q6) ++ []))) H := hP
  have hD : va_D A ([(h0, .inr (3, [.null, .null, .ref o6, .null, .null, .int 0]))] ++ ((cwd_7 tc o7 q7) ++ ((cwd_6 tc o6 q6) ++ []))) := hD
  refine va_putF (ci := 3) (v := .ref o7) (ty := .object "Lineartide$Messages") (C := RX3) (T := TX3) (N := 6) hx hb hts sm_in3 tyX3 tyX3_ok nmX3 hown hK hP hD hS 0 rfl rfl 3 (by decide) (hts (.fieldLink RX3 21 RX3 "messages" "LLineartide$Messages;") (sm_wd_in (i := 369) (by decide +kernel))) (fun _ h9 => h9) rfl hin rfl (by decide +kernel) rfl rfl (Nat.le_of_ble_eq_true rfl) dK3_23 (fun H locs hP hD hS => ?_)
  have hP : va_P D vwCl ([(h0, .inr (3, [.null, .null, .ref o6, .ref o7, .null, .int 0]))] ++ ((cwd_7 tc o7 q7) ++ ((cwd_6 tc o6 q6) ++ []))) H := hP
  have hD : va_D A ([(h0, .inr (3, [.null, .null, .ref o6, .ref o7, .null, .int 0]))] ++ ((cwd_7 tc o7 q7) ++ ((cwd_6 tc o6 q6) ++ []))) := hD
  refine lv_aload_n hx hb dK3_26 rfl (lv_at hl 0 rfl) ?_
  refine lv_iconst (v := 3) hx hb dK3_27 (by decide +kernel) ?_
  refine va_newq (N' := 3) hx hb hown (hts (.classLink RX3 25 RX0) (sm_wd_in (i := 328) (by decide +kernel))) (hAO RX0 (by decide +kernel)) hK hP hD hS hA (by decide +kernel) (by decide +kernel) (by decide +kernel) (by decide +kernel) (by decide +kernel) dK3_28 (fun b3 cA H hK9 hP hD hS => ?_)
  have ec : cA = tc 3 := arr_one (hK9.2 7 _ rfl).2 (hK.2 3 _ rfl).2
  subst ec
  clear hK9
  have hP := P_perm ((List.perm_append_comm (l₁ := ([(h0, .inr (3, [.null, .null, .ref o6, .ref o7, .null, .int 0]))] ++ ((cwd_7 tc o7 q7) ++ ((cwd_6 tc o6 q6) ++ [])))) (l₂ := [(b3, .inl (tc 3, 3, .inr (.inr (.inr (.inr (fun _ => none))))))])).trans (List.perm_append_comm_assoc [(b3, .inl (tc 3, 3, .inr (.inr (.inr (.inr (fun _ => none))))))] [(h0, .inr (3, [.null, .null, .ref o6, .ref o7, .null, .int 0]))] ((cwd_7 tc o7 q7) ++ ((cwd_6 tc o6 q6) ++ [])))) hP
  have hD := D_perm ((List.perm_append_comm (l₁ := ([(h0, .inr (3, [.null, .null, .ref o6, .ref o7, .null, .int 0]))] ++ ((cwd_7 tc o7 q7) ++ ((cwd_6 tc o6 q6) ++ [])))) (l₂ := [(b3, .inl (tc 3, 3, .inr (.inr (.inr (.inr (fun _ => none))))))])).trans (List.perm_append_comm_assoc [(b3, .inl (tc 3, 3, .inr (.inr (.inr (.inr (fun _ => none))))))] [(h0, .inr (3, [.null, .null, .ref o6, .ref o7, .null, .int 0]))] ((cwd_7 tc o7 q7) ++ ((cwd_6 tc o6 q6) ++ [])))) hD
  have hP : va_P D vwCl ([(h0, .inr (3, [.null, .null, .ref o6, .ref o7, .null, .int 0])), (b3, .inl (tc 3, 3, .inr (.inr (.inr (.inr (fun _ => none))))))] ++ ((cwd_7 tc o7 q7) ++ ((cwd_6 tc o6 q6) ++ []))) H := hP
  have hD : va_D A ([(h0, .inr (3, [.null, .null, .ref o6, .ref o7, .null, .int 0])), (b3, .inl (tc 3, 3, .inr (.inr (.inr (.inr (fun _ => none))))))] ++ ((cwd_7 tc o7 q7) ++ ((cwd_6 tc o6 q6) ++ []))) := hD
  refine va_putF (ci := 3) (v := .ref b3) (ty := .array (.object "Lineartide$Body")) (C := RX3) (T := TX3) (N := 6) hx hb hts sm_in3 tyX3 tyX3_ok nmX3 hown hK hP hD hS 0 rfl rfl 4 (by decide) (hts (.fieldLink RX3 27 RX3 "bodies" "[LLineartide$Body;") (sm_wd_in (i := 370) (by decide +kernel))) (fun _ h9 => h9) rfl hin rfl (by decide +kernel) rfl rfl (Nat.le_of_ble_eq_true rfl) dK3_31 (fun H locs hP hD hS => ?_)
  have hP : va_P D vwCl ([(h0, .inr (3, [.null, .null, .ref o6, .ref o7, .ref b3, .int 0])), (b3, .inl (tc 3, 3, .inr (.inr (.inr (.inr (fun _ => none))))))] ++ ((cwd_7 tc o7 q7) ++ ((cwd_6 tc o6 q6) ++ []))) H := hP
  have hD : va_D A ([(h0, .inr (3, [.null, .null, .ref o6, .ref o7, .ref b3, .int 0])), (b3, .inl (tc 3, 3, .inr (.inr (.inr (.inr (fun _ => none))))))] ++ ((cwd_7 tc o7 q7) ++ ((cwd_6 tc o6 q6) ++ []))) := hD
  refine lv_aload_n hx hb dK3_34 rfl (lv_at hl 0 rfl) ?_
  refine lv_aload_n hx hb dK3_35 rfl (lv_at hl 1 rfl) ?_
  refine va_putF (ci := 3) (v := .ref ca) (ty := .array (.object "Lineartide$Code")) (C := RX3) (T := TX3) (N := 6) hx hb hts sm_in3 tyX3 tyX3_ok nmX3 hown hK hP hD hS 0 rfl rfl 0 (by decide) (hts (.fieldLink RX3 31 RX3 "codes" "[LLineartide$Code;") (sm_wd_in (i := 366) (by decide +kernel))) (fun _ h9 => h9) rfl hin rfl (by decide +kernel) rfl rfl (Nat.le_of_ble_eq_true rfl) dK3_36 (fun H locs hP hD hS => ?_)
  have hP : va_P D vwCl ([(h0, .inr (3, [.ref ca, .null, .ref o6, .ref o7, .ref b3, .int 0])), (b3, .inl (tc 3, 3, .inr (.inr (.inr (.inr (fun _ => none))))))] ++ ((cwd_7 tc o7 q7) ++ ((cwd_6 tc o6 q6) ++ []))) H := hP
  have hD : va_D A ([(h0, .inr (3, [.ref ca, .null, .ref o6, .ref o7, .ref b3, .int 0])), (b3, .inl (tc 3, 3, .inr (.inr (.inr (.inr (fun _ => none))))))] ++ ((cwd_7 tc o7 q7) ++ ((cwd_6 tc o6 q6) ++ []))) := hD
  refine lv_aload_n hx hb dK3_39 rfl (lv_at hl 0 rfl) ?_
  refine lv_aload_n hx hb dK3_40 rfl (lv_at hl 2 rfl) ?_
  refine va_putF (ci := 3) (v := .ref cn) (ty := .object "Lineartide$Channels") (C := RX3) (T := TX3) (N := 6) hx hb hts sm_in3 tyX3 tyX3_ok nmX3 hown hK hP hD hS 0 rfl rfl 1 (by decide) (hts (.fieldLink RX3 35 RX3 "channels" "LLineartide$Channels;") (sm_wd_in (i := 367) (by decide +kernel))) (fun _ h9 => h9) rfl hin rfl (by decide +kernel) rfl rfl (Nat.le_of_ble_eq_true rfl) dK3_41 (fun H locs hP hD hS => ?_)
  have hP : va_P D vwCl ([(h0, .inr (3, [.ref ca, .ref cn, .ref o6, .ref o7, .ref b3, .int 0])), (b3, .inl (tc 3, 3, .inr (.inr (.inr (.inr (fun _ => none))))))] ++ ((cwd_7 tc o7 q7) ++ ((cwd_6 tc o6 q6) ++ []))) H := hP
  have hD : va_D A ([(h0, .inr (3, [.ref ca, .ref cn, .ref o6, .ref o7, .ref b3, .int 0])), (b3, .inl (tc 3, 3, .inr (.inr (.inr (.inr (fun _ => none))))))] ++ ((cwd_7 tc o7 q7) ++ ((cwd_6 tc o6 q6) ++ []))) := hD
  refine lv_iconst (v := 0) hx hb dK3_44 (by decide +kernel) ?_
  refine lv_istore_n (lv' := [(3, .int 0), (0, .ref h0), (1, .ref ca), (2, .ref cn)]) hx hb dK3_45 rfl hl (by decide) rfl (fun ls hl => ?_)
  refine lv_iload_n hx hb dK3_46 rfl (lv_at hl 0 rfl) ?_
  refine lv_iconst (v := 3) hx hb dK3_47 (by decide +kernel) ?_
  refine lv_icmp_ge (tgt := 74) hx hb dK3_48 (by decide) (fun q => absurd q (by decide)) (fun _ => ?_)
  refine lv_aload_n hx hb dK3_51 rfl (lv_at hl 1 rfl) ?_
  refine va_get (ci := 3) (v := .ref b3) (C := RX3) (T := TX3) (N := 6) hx hb hts sm_in3 hown hK hP 0 rfl rfl 4 (by decide) (hts (.fieldLink RX3 27 RX3 "bodies" "[LLineartide$Body;") (sm_wd_in (i := 370) (by decide +kernel))) (fun _ h9 => h9) rfl dK3_52 ?_
  refine lv_iload_n hx hb dK3_55 rfl (lv_at hl 0 rfl) ?_
  refine va_new (ci := 0) (fs := [.null, .null, .null, .null, .null, .null, .int 0, .int 0, .int 0, .int 0]) (C := RX0) (T := TX0) (N := 10) hx hb hts sm_in0 tyX0 tyX0_ok hown (hts (.classLink RX3 25 RX0) (sm_wd_in (i := 328) (by decide +kernel))) (hts (.instantiable RX0 10) (sm_wd_in (i := 330) (by decide +kernel))) (hts (.initialized RX0) (sm_wd_in (i := 118) (by decide +kernel))) hK hP hD hS hA rfl df_0 (by decide +kernel) (by decide +kernel) dK3_56 (fun oa H hP hD hS => ?_)
  refine lv_dup hx hb dK3_59 rfl ?_
  refine lv_aload_n hx hb dK3_60 rfl (lv_at hl 1 rfl) ?_
  refine va_get (ci := 3) (v := .ref o6) (C := RX3) (T := TX3) (N := 6) hx hb hts sm_in3 hown hK hP 0 rfl rfl 2 (by decide) (hts (.fieldLink RX3 12 RX3 "ledger" "LLineartide$Ledger;") (sm_wd_in (i := 368) (by decide +kernel))) (fun _ h9 => h9) rfl dK3_61 ?_
  have hPj := P_perm (List.perm_append_comm (l₁ := ([(h0, .inr (3, [.ref ca, .ref cn, .ref o6, .ref o7, .ref b3, .int 0])), (b3, .inl (tc 3, 3, .inr (.inr (.inr (.inr (fun _ => none))))))] ++ ((cwd_7 tc o7 q7) ++ ((cwd_6 tc o6 q6) ++ [])))) (l₂ := [(oa, .inr (0, [.null, .null, .null, .null, .null, .null, .int 0, .int 0, .int 0, .int 0]))])) hP
  have hDj := D_perm (List.perm_append_comm (l₁ := ([(h0, .inr (3, [.ref ca, .ref cn, .ref o6, .ref o7, .ref b3, .int 0])), (b3, .inl (tc 3, 3, .inr (.inr (.inr (.inr (fun _ => none))))))] ++ ((cwd_7 tc o7 q7) ++ ((cwd_6 tc o6 q6) ++ [])))) (l₂ := [(oa, .inr (0, [.null, .null, .null, .null, .null, .null, .int 0, .int 0, .int 0, .int 0]))])) hD
  have hPc := (P_app.mp hPj).1
  have hDc := (D_app.mp hDj).1
  have hF := ct_free hDj hS hA
  refine va_callv (va_runI (As := [.ref o6]) (rest := [.ref oa, .int 0, .ref b3]) ⟨hx, hb, hml, hown, hts⟩ (ctr_0 l D tc oa _ o6) (cwI 1 hts gd_0 rfl rfl rfl (hts (.initialized RX0) (sm_wd_in (i := 118) (by decide +kernel))) (hts (.methodLink RX3 39 yX0_init) (sm_wd_in (i := 331) (by decide +kernel))) (hts (.instanceMethod yX0_init) (sm_wd_in (i := 332) (by decide +kernel))) rfl (by decide +kernel) ⟨by decide +kernel, by decide +kernel⟩) (ctB_pre hK hPc hDc _) rfl rfl hl.1 rfl (lv_room (Nat.le_of_ble_eq_true rfl)) dK3_64 ⟨by decide +kernel, by decide +kernel⟩) hS (fun q _ h => hF q h) hF (fun u t H1 locs1 ht hvm hw hB hz1 hk1 hS => ?_)
  obtain ⟨qa, hP1, hD1⟩ := hB
  rw [ht] at hP1
  obtain ⟨hP, hD⟩ := ct_join hPj hDj hk1 hF hP1 hD1
  have hP := P_perm (List.perm_append_comm_assoc (cwd_0 tc oa o6 qa) [(h0, .inr (3, [.ref ca, .ref cn, .ref o6, .ref o7, .ref b3, .int 0])), (b3, .inl (tc 3, 3, .inr (.inr (.inr (.inr (fun _ => none))))))] ((cwd_7 tc o7 q7) ++ ((cwd_6 tc o6 q6) ++ []))) hP
  have hD := D_perm (List.perm_append_comm_assoc (cwd_0 tc oa o6 qa) [(h0, .inr (3, [.ref ca, .ref cn, .ref o6, .ref o7, .ref b3, .int 0])), (b3, .inl (tc 3, 3, .inr (.inr (.inr (.inr (fun _ => none))))))] ((cwd_7 tc o7 q7) ++ ((cwd_6 tc o6 q6) ++ []))) hD
  generalize H1 = H at hP hS ⊢
  have hP : va_P D vwCl ([(h0, .inr (3, [.ref ca, .ref cn, .ref o6, .ref o7, .ref b3, .int 0])), (b3, .inl (tc 3, 3, .inr (.inr (.inr (.inr (fun _ => none))))))] ++ ((cwd_0 tc oa o6 qa) ++ ((cwd_7 tc o7 q7) ++ ((cwd_6 tc o6 q6) ++ [])))) H := hP
  have hD : va_D A ([(h0, .inr (3, [.ref ca, .ref cn, .ref o6, .ref o7, .ref b3, .int 0])), (b3, .inl (tc 3, 3, .inr (.inr (.inr (.inr (fun _ => none))))))] ++ ((cwd_0 tc oa o6 qa) ++ ((cwd_7 tc o7 q7) ++ ((cwd_6 tc o6 q6) ++ [])))) := hD
  refine va_astq hx hb hK hP hD hS 1 3 2 0 rfl rfl rfl rfl (i := 0) (show vp_in 0 3 by unfold vp_in; decide +kernel) dK3_67 (fun H locs hP hD hS => ?_)
  have hP : va_P D vwCl ([(h0, .inr (3, [.ref ca, .ref cn, .ref o6, .ref o7, .ref b3, .int 0])), (b3, .inl (tc 3, 3, .inr (.inr (.inr (.inr (va_up (fun _ => none) (Int32.toNatClampNeg 0) (some oa)))))))] ++ ((cwd_0 tc oa o6 qa) ++ ((cwd_7 tc o7 q7) ++ ((cwd_6 tc o6 q6) ++ [])))) H := hP
  have hD : va_D A ([(h0, .inr (3, [.ref ca, .ref cn, .ref o6, .ref o7, .ref b3, .int 0])), (b3, .inl (tc 3, 3, .inr (.inr (.inr (.inr (va_up (fun _ => none) (Int32.toNatClampNeg 0) (some oa)))))))] ++ ((cwd_0 tc oa o6 qa) ++ ((cwd_7 tc o7 q7) ++ ((cwd_6 tc o6 q6) ++ [])))) := hD
  refine lv_iinc (v := 1) (lv' := [(3, .int 1), (0, .ref h0), (1, .ref ca), (2, .ref cn)]) hx hb dK3_68 hl (k := 0) rfl (by decide) (by decide) rfl (fun ls hl => ?_)
  refine lv_goto (tgt := 46) hx hb dK3_71 (by decide) ?_
  refine lv_iload_n hx hb dK3_46 rfl (lv_at hl 0 rfl) ?_
  refine lv_iconst (v := 3) hx hb dK3_47 (by decide +kernel) ?_
  refine lv_icmp_ge (tgt := 74) hx hb dK3_48 (by decide) (fun q => absurd q (by decide)) (fun _ => ?_)
  refine lv_aload_n hx hb dK3_51 rfl (lv_at hl 1 rfl) ?_
  refine va_get (ci := 3) (v := .ref b3) (C := RX3) (T := TX3) (N := 6) hx hb hts sm_in3 hown hK hP 0 rfl rfl 4 (by decide) (hts (.fieldLink RX3 27 RX3 "bodies" "[LLineartide$Body;") (sm_wd_in (i := 370) (by decide +kernel))) (fun _ h9 => h9) rfl dK3_52 ?_
  refine lv_iload_n hx hb dK3_55 rfl (lv_at hl 0 rfl) ?_
  refine va_new (ci := 0) (fs := [.null, .null, .null, .null, .null, .null, .int 0, .int 0, .int 0, .int 0]) (C := RX0) (T := TX0) (N := 10) hx hb hts sm_in0 tyX0 tyX0_ok hown (hts (.classLink RX3 25 RX0) (sm_wd_in (i := 328) (by decide +kernel))) (hts (.instantiable RX0 10) (sm_wd_in (i := 330) (by decide +kernel))) (hts (.initialized RX0) (sm_wd_in (i := 118) (by decide +kernel))) hK hP hD hS hA rfl df_0 (by decide +kernel) (by decide +kernel) dK3_56 (fun ob H hP hD hS => ?_)
  refine lv_dup hx hb dK3_59 rfl ?_
  refine lv_aload_n hx hb dK3_60 rfl (lv_at hl 1 rfl) ?_
  refine va_get (ci := 3) (v := .ref o6) (C := RX3) (T := TX3) (N := 6) hx hb hts sm_in3 hown hK hP 0 rfl rfl 2 (by decide) (hts (.fieldLink RX3 12 RX3 "ledger" "LLineartide$Ledger;") (sm_wd_in (i := 368) (by decide +kernel))) (fun _ h9 => h9) rfl dK3_61 ?_
  have hPj := P_perm (List.perm_append_comm (l₁ := ([(h0, .inr (3, [.ref ca, .ref cn, .ref o6, .ref o7, .ref b3, .int 0])), (b3, .inl (tc 3, 3, .inr (.inr (.inr (.inr (va_up (fun _ => none) (Int32.toNatClampNeg 0) (some oa)))))))] ++ ((cwd_0 tc oa o6 qa) ++ ((cwd_7 tc o7 q7) ++ ((cwd_6 tc o6 q6) ++ []))))) (l₂ := [(ob, .inr (0, [.null, .null, .null, .null, .null, .null, .int 0, .int 0, .int 0, .int 0]))])) hP
  have hDj := D_perm (List.perm_append_comm (l₁ := ([(h0, .inr (3, [.ref ca, .ref cn, .ref o6, .ref o7, .ref b3, .int 0])), (b3, .inl (tc 3, 3, .inr (.inr (.inr (.inr (va_up (fun _ => none) (Int32.toNatClampNeg 0) (some oa)))))))] ++ ((cwd_0 tc oa o6 qa) ++ ((cwd_7 tc o7 q7) ++ ((cwd_6 tc o6 q6) ++ []))))) (l₂ := [(ob, .inr (0, [.null, .null, .null, .null, .null, .null, .int 0, .int 0, .int 0, .int 0]))])) hD
  have hPc := (P_app.mp hPj).1
  have hDc := (D_app.mp hDj).1
  have hF := ct_free hDj hS hA
  refine va_callv (va_runI (As := [.ref o6]) (rest := [.ref ob, .int 1, .ref b3]) ⟨hx, hb, hml, hown, hts⟩ (ctr_0 l D tc ob _ o6) (cwI 1 hts gd_0 rfl rfl rfl (hts (.initialized RX0) (sm_wd_in (i := 118) (by decide +kernel))) (hts (.methodLink RX3 39 yX0_init) (sm_wd_in (i := 331) (by decide +kernel))) (hts (.instanceMethod yX0_init) (sm_wd_in (i := 332) (by decide +kernel))) rfl (by decide +kernel) ⟨by decide +kernel, by decide +kernel⟩) (ctB_pre hK hPc hDc _) rfl rfl hl.1 rfl (lv_room (Nat.le_of_ble_eq_true rfl)) dK3_64 ⟨by decide +kernel, by decide +kernel⟩) hS (fun q _ h => hF q h) hF (fun u t H1 locs1 ht hvm hw hB hz1 hk1 hS => ?_)
  obtain ⟨qb, hP1, hD1⟩ := hB
  rw [ht] at hP1
  obtain ⟨hP, hD⟩ := ct_join hPj hDj hk1 hF hP1 hD1
  have hP := P_perm (List.perm_append_comm_assoc (cwd_0 tc ob o6 qb) [(h0, .inr (3, [.ref ca, .ref cn, .ref o6, .ref o7, .ref b3, .int 0])), (b3, .inl (tc 3, 3, .inr (.inr (.inr (.inr (va_up (fun _ => none) (Int32.toNatClampNeg 0) (some oa)))))))] ((cwd_0 tc oa o6 qa) ++ ((cwd_7 tc o7 q7) ++ ((cwd_6 tc o6 q6) ++ [])))) hP
  have hD := D_perm (List.perm_append_comm_assoc (cwd_0 tc ob o6 qb) [(h0, .inr (3, [.ref ca, .ref cn, .ref o6, .ref o7, .ref b3, .int 0])), (b3, .inl (tc 3, 3, .inr (.inr (.inr (.inr (va_up (fun _ => none) (Int32.toNatClampNeg 0) (some oa)))))))] ((cwd_0 tc oa o6 qa) ++ ((cwd_7 tc o7 q7) ++ ((cwd_6 tc o6 q6) ++ [])))) hD
  generalize H1 = H at hP hS ⊢
  have hP : va_P D vwCl ([(h0, .inr (3, [.ref ca, .ref cn, .ref o6, .ref o7, .ref b3, .int 0])), (b3, .inl (tc 3, 3, .inr (.inr (.inr (.inr (va_up (fun _ => none) (Int32.toNatClampNeg 0) (some oa)))))))] ++ ((cwd_0 tc ob o6 qb) ++ ((cwd_0 tc oa o6 qa) ++ ((cwd_7 tc o7 q7) ++ ((cwd_6 tc o6 q6) ++ []))))) H := hP
  have hD : va_D A ([(h0, .inr (3, [.ref ca, .ref cn, .ref o6, .ref o7, .ref b3, .int 0])), (b3, .inl (tc 3, 3, .inr (.inr (.inr (.inr (va_up (fun _ => none) (Int32.toNatClampNeg 0) (some oa)))))))] ++ ((cwd_0 tc ob o6 qb) ++ ((cwd_0 tc oa o6 qa) ++ ((cwd_7 tc o7 q7) ++ ((cwd_6 tc o6 q6) ++ []))))) := hD
  refine va_astq hx hb hK hP hD hS 1 3 2 0 rfl rfl rfl rfl (i := 1) (show vp_in 1 3 by unfold vp_in; decide +kernel) dK3_67 (fun H locs hP hD hS => ?_)
  have hP : va_P D vwCl ([(h0, .inr (3, [.ref ca, .ref cn, .ref o6, .ref o7, .ref b3, .int 0])), (b3, .inl (tc 3, 3, .inr (.inr (.inr (.inr (va_up (va_up (fun _ => none) (Int32.toNatClampNeg 0) (some oa)) (Int32.toNatClampNeg 1) (some ob)))))))] ++ ((cwd_0 tc ob o6 qb) ++ ((cwd_0 tc oa o6 qa) ++ ((cwd_7 tc o7 q7) ++ ((cwd_6 tc o6 q6) ++ []))))) H := hP
  have hD : va_D A ([(h0, .inr (3, [.ref ca, .ref cn, .ref o6, .ref o7, .ref b3, .int 0])), (b3, .inl (tc 3, 3, .inr (.inr (.inr (.inr (va_up (va_up (fun _ => none) (Int32.toNatClampNeg 0) (some oa)) (Int32.toNatClampNeg 1) (some ob)))))))] ++ ((cwd_0 tc ob o6 qb) ++ ((cwd_0 tc oa o6 qa) ++ ((cwd_7 tc o7 q7) ++ ((cwd_6 tc o6 q6) ++ []))))) := hD
  refine lv_iinc (v := 2) (lv' := [(3, .int 2), (0, .ref h0), (1, .ref ca), (2, .ref cn)]) hx hb dK3_68 hl (k := 0) rfl (by decide) (by decide) rfl (fun ls hl => ?_)
  refine lv_goto (tgt := 46) hx hb dK3_71 (by decide) ?_
  refine lv_iload_n hx hb dK3_46 rfl (lv_at hl 0 rfl) ?_
  refine lv_iconst (v := 3) hx hb dK3_47 (by decide +kernel) ?_
  refine lv_icmp_ge (tgt := 74) hx hb dK3_48 (by decide) (fun q => absurd q (by decide)) (fun _ => ?_)
  refine lv_aload_n hx hb dK3_51 rfl (lv_at hl 1 rfl) ?_
  refine va_get (ci := 3) (v := .ref b3) (C := RX3) (T := TX3) (N := 6) hx hb hts sm_in3 hown hK hP 0 rfl rfl 4 (by decide) (hts (.fieldLink RX3 27 RX3 "bodies" "[LLineartide$Body;") (sm_wd_in (i := 370) (by decide +kernel))) (fun _ h9 => h9) rfl dK3_52 ?_
  refine lv_iload_n hx hb dK3_55 rfl (lv_at hl 0 rfl) ?_
  refine va_new (ci := 0) (fs := [.null, .null, .null, .null, .null, .null, .int 0, .int 0, .int 0, .int 0]) (C := RX0) (T := TX0) (N := 10) hx hb hts sm_in0 tyX0 tyX0_ok hown (hts (.classLink RX3 25 RX0) (sm_wd_in (i := 328) (by decide +kernel))) (hts (.instantiable RX0 10) (sm_wd_in (i := 330) (by decide +kernel))) (hts (.initialized RX0) (sm_wd_in (i := 118) (by decide +kernel))) hK hP hD hS hA rfl df_0 (by decide +kernel) (by decide +kernel) dK3_56 (fun oc H hP hD hS => ?_)
  refine lv_dup hx hb dK3_59 rfl ?_
  refine lv_aload_n hx hb dK3_60 rfl (lv_at hl 1 rfl) ?_
  refine va_get (ci := 3) (v := .ref o6) (C := RX3) (T := TX3) (N := 6) hx hb hts sm_in3 hown hK hP 0 rfl rfl 2 (by decide) (hts (.fieldLink RX3 12 RX3 "ledger" "LLineartide$Ledger;") (sm_wd_in (i := 368) (by decide +kernel))) (fun _ h9 => h9) rfl dK3_61 ?_
  have hPj := P_perm (List.perm_append_comm (l₁ := ([(h0, .inr (3, [.ref ca, .ref cn, .ref o6, .ref o7, .ref b3, .int 0])), (b3, .inl (tc 3, 3, .inr (.inr (.inr (.inr (va_up (va_up (fun _ => none) (Int32.toNatClampNeg 0) (some oa)) (Int32.toNatClampNeg 1) (some ob)))))))] ++ ((cwd_0 tc ob o6 qb) ++ ((cwd_0 tc oa o6 qa) ++ ((cwd_7 tc o7 q7) ++ ((cwd_6 tc o6 q6) ++ [])))))) (l₂ := [(oc, .inr (0, [.null, .null, .null, .null, .null, .null, .int 0, .int 0, .int 0, .int 0]))])) hP
  have hDj := D_perm (List.perm_append_comm (l₁ := ([(h0, .inr (3, [.ref ca, .ref cn, .ref o6, .ref o7, .ref b3, .int 0])), (b3, .inl (tc 3, 3, .inr (.inr (.inr (.inr (va_up (va_up (fun _ => none) (Int32.toNatClampNeg 0) (some oa)) (Int32.toNatClampNeg 1) (some ob)))))))] ++ ((cwd_0 tc ob o6 qb) ++ ((cwd_0 tc oa o6 qa) ++ ((cwd_7 tc o7 q7) ++ ((cwd_6 tc o6 q6) ++ [])))))) (l₂ := [(oc, .inr (0, [.null, .null, .null, .null, .null, .null, .int 0, .int 0, .int 0, .int 0]))])) hD
  have hPc := (P_app.mp hPj).1
  have hDc := (D_app.mp hDj).1
  have hF := ct_free hDj hS hA
  refine va_callv (va_runI (As := [.ref o6]) (rest := [.ref oc, .int 2, .ref b3]) ⟨hx, hb, hml, hown, hts⟩ (ctr_0 l D tc oc _ o6) (cwI 1 hts gd_0 rfl rfl rfl (hts (.initialized RX0) (sm_wd_in (i := 118) (by decide +kernel))) (hts (.methodLink RX3 39 yX0_init) (sm_wd_in (i := 331) (by decide +kernel))) (hts (.instanceMethod yX0_init) (sm_wd_in (i := 332) (by decide +kernel))) rfl (by decide +kernel) ⟨by decide +kernel, by decide +kernel⟩) (ctB_pre hK hPc hDc _) rfl rfl hl.1 rfl (lv_room (Nat.le_of_ble_eq_true rfl)) dK3_64 ⟨by decide +kernel, by decide +kernel⟩) hS (fun q _ h => hF q h) hF (fun u t H1 locs1 ht hvm hw hB hz1 hk1 hS => ?_)
  obtain ⟨qc, hP1, hD1⟩ := hB
  rw [ht] at hP1
  obtain ⟨hP, hD⟩ := ct_join hPj hDj hk1 hF hP1 hD1
  have hP := P_perm (List.perm_append_comm_assoc (cwd_0 tc oc o6 qc) [(h0, .inr (3, [.ref ca, .ref cn, .ref o6, .ref o7, .ref b3, .int 0])), (b3, .inl (tc 3, 3, .inr (.inr (.inr (.inr (va_up (va_up (fun _ => none) (Int32.toNatClampNeg 0) (some oa)) (Int32.toNatClampNeg 1) (some ob)))))))] ((cwd_0 tc ob o6 qb) ++ ((cwd_0 tc oa o6 qa) ++ ((cwd_7 tc o7 q7) ++ ((cwd_6 tc o6 q6) ++ []))))) hP
  have hD := D_perm (List.perm_append_comm_assoc (cwd_0 tc oc o6 qc) [(h0, .inr (3, [.ref ca, .ref cn, .ref o6, .ref o7, .ref b3, .int 0])), (b3, .inl (tc 3, 3, .inr (.inr (.inr (.inr (va_up (va_up (fun _ => none) (Int32.toNatClampNeg 0) (some oa)) (Int32.toNatClampNeg 1) (some ob)))))))] ((cwd_0 tc ob o6 qb) ++ ((cwd_0 tc oa o6 qa) ++ ((cwd_7 tc o7 q7) ++ ((cwd_6 tc o6 q6) ++ []))))) hD
  generalize H1 = H at hP hS ⊢
  have hP : va_P D vwCl ([(h0, .inr (3, [.ref ca, .ref cn, .ref o6, .ref o7, .ref b3, .int 0])), (b3, .inl (tc 3, 3, .inr (.inr (.inr (.inr (va_up (va_up (fun _ => none) (Int32.toNatClampNeg 0) (some oa)) (Int32.toNatClampNeg 1) (some ob)))))))] ++ ((cwd_0 tc oc o6 qc) ++ ((cwd_0 tc ob o6 qb) ++ ((cwd_0 tc oa o6 qa) ++ ((cwd_7 tc o7 q7) ++ ((cwd_6 tc o6 q6) ++ [])))))) H := hP
  have hD : va_D A ([(h0, .inr (3, [.ref ca, .ref cn, .ref o6, .ref o7, .ref b3, .int 0])), (b3, .inl (tc 3, 3, .inr (.inr (.inr (.inr (va_up (va_up (fun _ => none) (Int32.toNatClampNeg 0) (some oa)) (Int32.toNatClampNeg 1) (some ob)))))))] ++ ((cwd_0 tc oc o6 qc) ++ ((cwd_0 tc ob o6 qb) ++ ((cwd_0 tc oa o6 qa) ++ ((cwd_7 tc o7 q7) ++ ((cwd_6 tc o6 q6) ++ [])))))) := hD
  refine va_astq hx hb hK hP hD hS 1 3 2 0 rfl rfl rfl rfl (i := 2) (show vp_in 2 3 by unfold vp_in; decide +kernel) dK3_67 (fun H locs hP hD hS => ?_)
  have hP : va_P D vwCl ([(h0, .inr (3, [.ref ca, .ref cn, .ref o6, .ref o7, .ref b3, .int 0])), (b3, .inl (tc 3, 3, .inr (.inr (.inr (.inr (va_up (va_up (va_up (fun _ => none) (Int32.toNatClampNeg 0) (some oa)) (Int32.toNatClampNeg 1) (some ob)) (Int32.toNatClampNeg 2) (some oc)))))))] ++ ((cwd_0 tc oc o6 qc) ++ ((cwd_0 tc ob o6 qb) ++ ((cwd_0 tc oa o6 qa) ++ ((cwd_7 tc o7 q7) ++ ((cwd_6 tc o6 q6) ++ [])))))) H := hP
  have hD : va_D A ([(h0, .inr (3, [.ref ca, .ref cn, .ref o6, .ref o7, .ref b3, .int 0])), (b3, .inl (tc 3, 3, .inr (.inr (.inr (.inr (va_up (va_up (va_up (fun _ => none) (Int32.toNatClampNeg 0) (some oa)) (Int32.toNatClampNeg 1) (some ob)) (Int32.toNatClampNeg 2) (some oc)))))))] ++ ((cwd_0 tc oc o6 qc) ++ ((cwd_0 tc ob o6 qb) ++ ((cwd_0 tc oa o6 qa) ++ ((cwd_7 tc o7 q7) ++ ((cwd_6 tc o6 q6) ++ [])))))) := hD
  refine lv_iinc (v := 3) (lv' := [(3, .int 3), (0, .ref h0), (1, .ref ca), (2, .ref cn)]) hx hb dK3_68 hl (k := 0) rfl (by decide) (by decide) rfl (fun ls hl => ?_)
  refine lv_goto (tgt := 46) hx hb dK3_71 (by decide) ?_
  refine lv_iload_n hx hb dK3_46 rfl (lv_at hl 0 rfl) ?_
  refine lv_iconst (v := 3) hx hb dK3_47 (by decide +kernel) ?_
  refine lv_icmp_ge (tgt := 74) hx hb dK3_48 (by decide) (fun _ => ?_) (fun q => absurd (by decide) q)
  have hP := P_chg (u := [(h0, .inr (3, [.ref ca, .ref cn, .ref o6, .ref o7, .ref b3, .int 0]))]) (x := (b3, .inl (tc 3, 3, .inr (.inr (.inr (.inr (va_up (va_up (va_up (fun _ => none) (Int32.toNatClampNeg 0) (some oa)) (Int32.toNatClampNeg 1) (some ob)) (Int32.toNatClampNeg 2) (some oc)))))))) (y := (b3, .inl (tc 3, 3, .inr (.inr (.inr (.inr (fun i => some ((fun i => match i with | 0 => oa | 1 => ob | _ => oc) i)))))))) (v := ((cwd_0 tc oc o6 qc) ++ ((cwd_0 tc ob o6 qb) ++ ((cwd_0 tc oa o6 qa) ++ ((cwd_7 tc o7 q7) ++ ((cwd_6 tc o6 q6) ++ [])))))) hP (at_chg up3)
  have hD := D_chg (u := [(h0, .inr (3, [.ref ca, .ref cn, .ref o6, .ref o7, .ref b3, .int 0]))]) (x := (b3, .inl (tc 3, 3, .inr (.inr (.inr (.inr (va_up (va_up (va_up (fun _ => none) (Int32.toNatClampNeg 0) (some oa)) (Int32.toNatClampNeg 1) (some ob)) (Int32.toNatClampNeg 2) (some oc)))))))) (y := (b3, .inl (tc 3, 3, .inr (.inr (.inr (.inr (fun i => some ((fun i => match i with | 0 => oa | 1 => ob | _ => oc) i)))))))) (v := ((cwd_0 tc oc o6 qc) ++ ((cwd_0 tc ob o6 qb) ++ ((cwd_0 tc oa o6 qa) ++ ((cwd_7 tc o7 q7) ++ ((cwd_6 tc o6 q6) ++ [])))))) hD rfl
  have hP := hP.sub (ws' := cwd_3 tc h0 ca cn o6 q6 o7 q7 b3 (fun i => match i with | 0 => oa | 1 => ob | _ => oc) (fun i => match i with | 0 => qa | 1 => qb | _ => qc)) (List.range 26) rfl
  have hD := hD.sub (ws' := cwd_3 tc h0 ca cn o6 q6 o7 q7 b3 (fun i => match i with | 0 => oa | 1 => ob | _ => oc) (fun i => match i with | 0 => qa | 1 => qb | _ => qc)) (List.range 26) (by decide) rfl
  refine W.widen (k := 25) (n := 351) (by decide +kernel) (by decide +kernel) ?_
  exact W.vret hx hb hr (fun t ht hW => ⟨⟨(), rfl, trivial, o6, q6, o7, q7, b3, (fun i => match i with | 0 => oa | 1 => ob | _ => oc), (fun i => match i with | 0 => qa | 1 => qb | _ => qc), by rw [ht]; exact hP, hD⟩, hS.F ht⟩) hS.2.2 dK3_74
