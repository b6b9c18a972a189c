/-! the law's entry -/
theorem perm_end (u v x : va_W) : (((u ++ (v ++ [])) ++ x)).Perm (v ++ (u ++ x)) := by
  rw [List.append_nil, List.append_assoc]
  exact List.perm_append_comm_assoc u v x
theorem gd_9 : GoodIn lw_g (Cond.code yX9_init cX9_init 2 none :: lw_g) := lw_g_in (fun w hw => by
  rcases List.mem_cons.mp hw with rfl | hw
  · exact (sm_wd_in (i := 132) (by decide +kernel))
  · exact hw)
theorem df_9 : ∀ j, j < 6 → defaultValue (tyX9 j) = vp_V [.null, .null, .null, .null, .null, .null] j := by decide +kernel
theorem gd_10 : GoodIn lw_g (Cond.code yX10_init cX10_init 1 none :: lw_g) := lw_g_in (fun w hw => by
  rcases List.mem_cons.mp hw with rfl | hw
  · exact (sm_wd_in (i := 1354) (by decide +kernel))
  · exact hw)
theorem df_10 : ∀ j, j < 42 → defaultValue (tyX10 j) = vp_V [.int 0, .null, .null, .null, .null, .int 0, .null, .null, .null, .null, .null, .null, .null, .int 0, .null, .null, .null, .null, .int 0, .null, .int 0, .null, .null, .null, .int 0, .null, .null, .null, .null, .null, .null, .null, .null, .null, .null, .null, .null, .null, .int 0, .int 0, .int 0, .null] j := by decide +kernel
theorem dKL_0 : decode code 0 = .ok (.new 8, 3) := by decide +kernel
theorem dKL_3 : decode code 3 = .ok (.dup, 1) := by decide +kernel
theorem dKL_4 : decode code 4 = .ok (.invokespecial 78, 3) := by decide +kernel
theorem dKL_7 : decode code 7 = .ok (.astore_n 1, 1) := by decide +kernel
theorem dKL_8 : decode code 8 = .ok (.new 79, 3) := by decide +kernel
theorem dKL_11 : decode code 11 = .ok (.dup, 1) := by decide +kernel
theorem dKL_12 : decode code 12 = .ok (.invokespecial 81, 3) := by decide +kernel
theorem dKL_15 : decode code 15 = .ok (.astore_n 2, 1) := by decide +kernel
theorem dKL_16 : decode code 16 = .ok (.iconst 1, 1) := by decide +kernel
theorem dKL_17 : decode code 17 = .ok (.newarray .long, 2) := by decide +kernel
theorem dKL_19 : decode code 19 = .ok (.astore_n 3, 1) := by decide +kernel
theorem dKL_20 : decode code 20 = .ok (.iconst 0, 1) := by decide +kernel
theorem dKL_21 : decode code 21 = .ok (.istore 4, 2) := by decide +kernel
set_option maxHeartbeats 20000000 in
set_option maxRecDepth 100000 in
/-- from the entry, for every script of at most 2560 ints, the law comes to its end with true -/
theorem whole_start {p : Program} {e : Env} {s : State} {m : MethodId} {below : List Frame} {meth : Method} {c : Code} (l : Launch) (hflags : l.flags = flags0) {b L : Nat} {xs : Nat → Int32} (hL : L ≤ 2560) (C0 : lw_At p s m meth c b L xs) : W p l e room_1 s m #[Value.ref b] below meth c s.heap [] 0 0 (lw_Z below #[Value.ref b] s) (entryFrame m ([Value.ref b] : List Value).toArray 7) := by
  obtain ⟨hx, hb, hr, hml, hown, hts, hX, hbl, hlocks, hgv⟩ := id C0
  have hst : l.stackTraces = false := by unfold Launch.stackTraces; rw [hflags]; decide +kernel
  have hA : ∀ q : Nat, s.heap.size ≤ q → lwA s q := fun _ h => h
  have htg := tbl_g hts
  obtain ⟨D, tc, hK⟩ := base_K hts
  have hAO : ∀ C ∈ [RX8, RX2, RX4, RX0], va_AO C s := by
    intro C hC
    simp only [List.mem_cons, List.not_mem_nil, or_false] at hC
    rcases hC with rfl | rfl | rfl | rfl
    · exact va_AO.of (hts (.arrayOver (.object RX8)) (List.mem_of_getElem? (i := 137) (by decide +kernel)))
    · exact va_AO.of (hts (.arrayOver (.object RX2)) (List.mem_of_getElem? (i := 139) (by decide +kernel)))
    · exact va_AO.of (hts (.arrayOver (.object RX4)) (List.mem_of_getElem? (i := 141) (by decide +kernel)))
    · exact va_AO.of (hts (.arrayOver (.object RX0)) (List.mem_of_getElem? (i := 329) (by decide +kernel)))
  have hS : va_S (lwA s) s.heap s.heap [] := va_S.rf
  have hP : va_P D vwCl ([] : va_W) s.heap := fun k q h => by simp at h
  have hD : va_D (lwA s) ([] : va_W) := D_nil
  have hl := lv_entry ([.ref b]) (n := 7) (Nat.le_of_ble_eq_true rfl)
  rw [lg_entry_eq]
  generalize (lg_sl ([.ref b]) ++ List.replicate (7 - (lg_sl ([.ref b])).length) Slot.unset).toArray = ls at hl ⊢
  have hl : lv_has ls 7 [(0, .ref b)] := hl
  refine va_new (ci := 9) (fs := [.null, .null, .null, .null, .null, .null]) (C := RX9) (T := TX9) (N := 6) hx hb htg sm_in9 tyX9 tyX9_ok hown (htg (.classLink RL 8 RX9) (sm_wd_in (i := 128) (by decide +kernel))) (htg (.instantiable RX9 6) (sm_wd_in (i := 129) (by decide +kernel))) (htg (.initialized RX9) (sm_wd_in (i := 108) (by decide +kernel))) hK hP hD hS hA rfl df_9 (by decide +kernel) (by decide +kernel) dKL_0 (fun oT H hP hD hS => ?_)
  refine lv_dup hx hb dKL_3 rfl ?_
  have hPj := P_perm (List.perm_append_comm (α := Nat × va_E) (l₁ := ([] : va_W)) (l₂ := [(oT, .inr (9, [.null, .null, .null, .null, .null, .null]))])) hP
  have hDj := D_perm (List.perm_append_comm (α := Nat × va_E) (l₁ := ([] : va_W)) (l₂ := [(oT, .inr (9, [.null, .null, .null, .null, .null, .null]))])) hD
  have hPc := (P_app.mp hPj).1
  have hDc := (D_app.mp hDj).1
  have hF := ct_free hDj hS hA
  refine va_callv (va_runI (As := []) (rest := [.ref oT]) ⟨hx, hb, hml, hown, htg⟩ (ctr_9 l D tc oT _) (cwI 0 htg gd_9 rfl rfl rfl (htg (.initialized RX9) (sm_wd_in (i := 108) (by decide +kernel))) (htg (.methodLink RL 78 yX9_init) (sm_wd_in (i := 130) (by decide +kernel))) (htg (.instanceMethod yX9_init) (sm_wd_in (i := 131) (by decide +kernel))) rfl (by decide +kernel) ⟨by decide +kernel, by decide +kernel⟩) (ctB2_pre hK hPc hDc _ hAO) rfl rfl hl.1 rfl (lv_room (Nat.le_of_ble_eq_true rfl)) dKL_4 ⟨by decide +kernel, by decide +kernel⟩) hS (fun q _ h => hF q h) hF (fun u t H1 locs1 ht hvm hw hB hz1 hk1 hS => ?_)
  obtain ⟨adT, eT, hP1, hD1⟩ := hB
  rw [ht] at hP1
  obtain ⟨hP, hD⟩ := ct_join hPj hDj hk1 hF hP1 hD1
  generalize H1 = H at hP hS ⊢
  generalize locs1 = locs at hS ⊢
  have hP : va_P D vwCl ((W9 tc adT) ++ ([] : va_W)) H := hP
  have hD : va_D (lwA s) ((W9 tc adT) ++ ([] : va_W)) := hD
  refine lv_astore_n (lv' := [(1, .ref oT), (0, .ref b)]) hx hb dKL_7 rfl hl (by decide) rfl (fun ls hl => ?_)
  refine va_new (ci := 10) (fs := [.int 0, .null, .null, .null, .null, .int 0, .null, .null, .null, .null, .null, .null, .null, .int 0, .null, .null, .null, .null, .int 0, .null, .int 0, .null, .null, .null, .int 0, .null, .null, .null, .null, .null, .null, .null, .null, .null, .null, .null, .null, .null, .int 0, .int 0, .int 0, .null]) (C := RX10) (T := TX10) (N := 42) hx hb htg sm_in10 tyX10 tyX10_ok hown (htg (.classLink RL 79 RX10) (sm_wd_in (i := 1350) (by decide +kernel))) (htg (.instantiable RX10 42) (sm_wd_in (i := 1351) (by decide +kernel))) (htg (.initialized RX10) (sm_wd_in (i := 119) (by decide +kernel))) hK hP hD hS hA rfl df_10 (by decide +kernel) (by decide +kernel) dKL_8 (fun oM H hP hD hS => ?_)
  refine lv_dup hx hb dKL_11 rfl ?_
  have hPj := P_perm (List.perm_append_comm (α := Nat × va_E) (l₁ := ((W9 tc adT) ++ ([] : va_W))) (l₂ := [(oM, .inr (10, [.int 0, .null, .null, .null, .null, .int 0, .null, .null, .null, .null, .null, .null, .null, .int 0, .null, .null, .null, .null, .int 0, .null, .int 0, .null, .null, .null, .int 0, .null, .null, .null, .null, .null, .null, .null, .null, .null, .null, .null, .null, .null, .int 0, .int 0, .int 0, .null]))])) hP
  have hDj := D_perm (List.perm_append_comm (α := Nat × va_E) (l₁ := ((W9 tc adT) ++ ([] : va_W))) (l₂ := [(oM, .inr (10, [.int 0, .null, .null, .null, .null, .int 0, .null, .null, .null, .null, .null, .null, .null, .int 0, .null, .null, .null, .null, .int 0, .null, .int 0, .null, .null, .null, .int 0, .null, .null, .null, .null, .null, .null, .null, .null, .null, .null, .null, .null, .null, .int 0, .int 0, .int 0, .null]))])) hD
  have hPc := (P_app.mp hPj).1
  have hDc := (D_app.mp hDj).1
  have hF := ct_free hDj hS hA
  refine va_callv (va_runI (As := []) (rest := [.ref oM]) ⟨hx, hb, hml, hown, htg⟩ (ctr_10 l D tc oM _) (cwI 0 htg gd_10 rfl rfl rfl (htg (.initialized RX10) (sm_wd_in (i := 119) (by decide +kernel))) (htg (.methodLink RL 81 yX10_init) (sm_wd_in (i := 1352) (by decide +kernel))) (htg (.instanceMethod yX10_init) (sm_wd_in (i := 1353) (by decide +kernel))) rfl (by decide +kernel) ⟨by decide +kernel, by decide +kernel⟩) (ctB_pre hK hPc hDc _) rfl rfl hl.1 rfl (lv_room (Nat.le_of_ble_eq_true rfl)) dKL_12 ⟨by decide +kernel, by decide +kernel⟩) hS (fun q _ h => hF q h) hF (fun u t H1 locs1 ht hvm hw hB hz1 hk1 hS => ?_)
  obtain ⟨qM, hP1, hD1⟩ := hB
  rw [ht] at hP1
  obtain ⟨hP, hD⟩ := ct_join hPj hDj hk1 hF hP1 hD1
  generalize H1 = H at hP hS ⊢
  generalize locs1 = locs at hS ⊢
  have hP : va_P D vwCl ((cwd_10 tc oM qM) ++ ((W9 tc adT) ++ ([] : va_W))) H := hP
  have hD : va_D (lwA s) ((cwd_10 tc oM qM) ++ ((W9 tc adT) ++ ([] : va_W))) := hD
  refine lv_astore_n (lv' := [(2, .ref oM), (1, .ref oT), (0, .ref b)]) hx hb dKL_15 rfl hl (by decide) rfl (fun ls hl => ?_)
  refine lv_iconst (v := 1) hx hb dKL_16 (by decide +kernel) ?_
  refine va_newa (atype := .long) (n := 1) (N' := 1) (pc := 17) (a0 := (1, .inr (.inl (fun _ => 0)))) hx hb (htg (.arrayClass .long) (sm_wd_in (i := 286) (by decide +kernel))) rfl hK hP hD hS hA (fun _ => rfl) (by decide +kernel) (by decide +kernel) (by decide +kernel) (by decide +kernel) (by decide +kernel) dKL_17 (fun l3 cA H hK9 hP hD hS => ?_)
  have ec : cA = tc 2 := arr_one (hK9.2 7 _ rfl).2 (hK.2 2 _ rfl).2
  subst ec
  refine lv_astore_n (lv' := [(3, .ref l3), (2, .ref oM), (1, .ref oT), (0, .ref b)]) hx hb dKL_19 rfl hl (by decide) rfl (fun ls hl => ?_)
  refine lv_iconst (v := 0) hx hb dKL_20 (by decide +kernel) ?_
  refine lv_istore (lv' := [(4, .int 0), (3, .ref l3), (2, .ref oM), (1, .ref oT), (0, .ref b)]) hx hb dKL_21 hl (by decide) rfl (fun ls hl => ?_)
  have hP : va_P D vwCl (sm_W tc (adL adT oM qM l3 b) M0w) H := by
    rw [eW, eW9, eW10]
    have z := P_perm (perm_end (cwd_10 tc oM qM) (W9 tc adT) [(l3, .inl (tc 2, 1, .inr (.inl (fun _ => 0))))]) hP
    exact z
  have hD : va_D (lwA s) (sm_W tc (adL adT oM qM l3 b) M0w) := by
    rw [eW, eW9, eW10]
    have z := D_perm (perm_end (cwd_10 tc oM qM) (W9 tc adT) [(l3, .inl (tc 2, 1, .inr (.inl (fun _ => 0))))]) hD
    exact z
  have hLX : LX p l s m meth c D tc (adL adT oM qM l3 b) (L, xs) b := ⟨⟨hx, hb, hml, hown, htg, hK, D_any hD, fun w hw => va_Nw.of (nw_on w hw) (hts w (nw_in w hw)), hA, fun _ => ⟨hX, hbl, Nat.not_le.mpr hbl⟩⟩, hr, hlocks, hst, base_PT hts hgv hK, base_Nc hgv⟩
  have key := lw_loop (e := e) (below := below) hLX hL (c0 := 117) (s0 := 6615) (by omega) (by omega) 600 0 M0w (mA M0w) (show L < 0 + 5 * 600 by omega) (by omega) GI_0
  have hl : lv_has ls 7 [(4, .int 0), (3, .ref l3), (2, .ref oM), (1, .ref (adT (9, 0, 0))), (0, .ref b)] := by rw [eT]; exact hl
  exact key H locs ls hP hS (lv_sub hl [4, 3, 2, 1, 0] rfl)
