/-! where the law begins: what was told is nothing, and the words it stands on -/
theorem pn_0 (p : Nat) : pnA (mA M0w) p = 0 := (show (0 : Int32).toNatClampNeg = 0 by decide)
theorem on_0 (p : Nat) : onA (mA M0w) p = 0 := (show (0 : Int32).toNatClampNeg = 0 by decide)
theorem cn_0 : cnA (mA M0w) = 0 := (show (0 : Int32).toNatClampNeg = 0 by decide)
theorem GI_0 : GI (mA M0w) M0w 0 := by
  refine ⟨⟨⟨fun p _ => ?_, fun p _ => ?_, ?_⟩, ⟨fun p _ => ?_, fun p _ => ?_, ?_⟩, ⟨rfl, fun _ _ _ => rfl⟩, fun q _ => ⟨rfl, Or.inl rfl⟩, rfl, Or.inl rfl⟩, ⟨Or.inl ⟨rfl, rfl⟩, ⟨⟨0, by omega, rfl, rfl, fun i hi => absurd hi (Nat.not_lt_zero i)⟩, fun p v _ _ => ⟨?_, ?_⟩⟩, 0, Nat.le_refl _, rfl, rfl⟩, Or.inl rfl⟩
  · rw [pn_0]
    exact ⟨rfl, Nat.zero_le _, fun i hi => absurd hi (Nat.not_lt_zero i)⟩
  · rw [on_0]
    exact ⟨rfl, Nat.zero_le _, fun i hi => absurd hi (Nat.not_lt_zero i)⟩
  · unfold rCh
    rw [cn_0]
    exact ⟨rfl, Nat.zero_le _, fun i hi => absurd hi (Nat.not_lt_zero i), fun c p s _ _ _ _ => rfl⟩
  · rw [pn_0]
    exact ⟨rfl, Nat.zero_le _, fun i hi => absurd hi (Nat.not_lt_zero i)⟩
  · rw [on_0]
    exact ⟨rfl, Nat.zero_le _, fun i hi => absurd hi (Nat.not_lt_zero i)⟩
  · rw [cn_0]
    exact ⟨rfl, Nat.zero_le _, fun i hi => absurd hi (Nat.not_lt_zero i)⟩
  · unfold xC aR
    split <;> rfl
  · unfold kC aR
    split <;> rfl
theorem tbl_g {args : Array Value} {s : State} (hts : ∀ w ∈ lw_tbl, w.before args s = true) : ∀ w ∈ lw_g, w.before args s = true := fun w h => hts w (List.mem_filter.mp h).1
theorem arr_ofI {args : Array Value} {s : State} {ty : FieldType} (h : (Cond.arrayClass ty).before args s = true) (hr : ∀ cA : ClassId, s.vm.findClass ("[" ++ ty.toString) = some cA → va_RA s cA ty) : ∃ cA : ClassId, ArrOfT s cA ty ∧ va_RA s cA ty := by
  obtain ⟨c, k, comp, h1, h2, h3⟩ := Cond.arrayClass_spec h
  exact ⟨c, fun n z => ⟨fun k h => (by cases h), k, h2, comp, h3⟩, hr c h1⟩
theorem arr_ofO {args : Array Value} {s : State} {C : String} (h : (Cond.arrayOver (.object C)).before args s = true) : ∃ cA : ClassId, ArrOfT s cA (.object C) ∧ va_RA s cA (.object C) := by
  obtain ⟨comp, c, k, hn, hidx, hk, hkind, hfind⟩ := Cond.arrayOver_spec h
  exact ⟨c, fun N z => ⟨(fun k h => by cases h), k, hk, comp, hkind⟩, k, comp, hk, hkind, hn, hfind⟩
set_option maxRecDepth 100000 in
theorem base_K {args : Array Value} {s : State} (hts : ∀ w ∈ lw_tbl, w.before args s = true) : ∃ (D : va_G) (tc : Nat → ClassId), va_K D vwCl (sm_tys tc) s := by
  have htg := tbl_g hts
  obtain ⟨c0, i0, hk0⟩ := u_known (C := RX0) (T := TX0) (N := 10) (n := 10) htg sm_in0 (htg (.instantiable RX0 10) (sm_wd_in (i := 330) (by decide +kernel)))
  obtain ⟨c1, i1, hk1⟩ := u_known (C := RX1) (T := TX1) (N := 7) (n := 7) htg sm_in1 (htg (.instantiable RX1 7) (sm_wd_in (i := 162) (by decide +kernel)))
  obtain ⟨c2, i2, hk2⟩ := u_known (C := RX2) (T := TX2) (N := 4) (n := 4) htg sm_in2 (htg (.instantiable RX2 4) (sm_wd_in (i := 192) (by decide +kernel)))
  obtain ⟨c3, i3, hk3⟩ := u_known (C := RX3) (T := TX3) (N := 6) (n := 6) htg sm_in3 (htg (.instantiable RX3 6) (sm_wd_in (i := 288) (by decide +kernel)))
  obtain ⟨c4, i4, hk4⟩ := u_known (C := RX4) (T := TX4) (N := 13) (n := 13) htg sm_in4 (htg (.instantiable RX4 13) (sm_wd_in (i := 210) (by decide +kernel)))
  obtain ⟨c5, i5, hk5⟩ := u_known (C := RX5) (T := TX5) (N := 8) (n := 8) htg sm_in5 (htg (.instantiable RX5 8) (sm_wd_in (i := 256) (by decide +kernel)))
  obtain ⟨c6, i6, hk6⟩ := u_known (C := RX6) (T := TX6) (N := 4) (n := 4) htg sm_in6 (htg (.instantiable RX6 4) (sm_wd_in (i := 294) (by decide +kernel)))
  obtain ⟨c7, i7, hk7⟩ := u_known (C := RX7) (T := TX7) (N := 3) (n := 3) htg sm_in7 (htg (.instantiable RX7 3) (sm_wd_in (i := 313) (by decide +kernel)))
  obtain ⟨c8, i8, hk8⟩ := u_known (C := RX8) (T := TX8) (N := 4) (n := 4) htg sm_in8 (htg (.instantiable RX8 4) (sm_wd_in (i := 142) (by decide +kernel)))
  obtain ⟨c9, i9, hk9⟩ := u_known (C := RX9) (T := TX9) (N := 6) (n := 6) htg sm_in9 (htg (.instantiable RX9 6) (sm_wd_in (i := 129) (by decide +kernel)))
  obtain ⟨c10, i10, hk10⟩ := u_known (C := RX10) (T := TX10) (N := 42) (n := 42) htg sm_in10 (htg (.instantiable RX10 42) (sm_wd_in (i := 1351) (by decide +kernel)))
  obtain ⟨t0, ha0, hr0⟩ := arr_ofI (ty := .int) (htg (.arrayClass .int) (sm_wd_in (i := 160) (by decide +kernel))) (fun _ h => h)
  obtain ⟨t1, ha1, hr1⟩ := arr_ofI (ty := .boolean) (htg (.arrayClass .boolean) (sm_wd_in (i := 1483) (by decide +kernel))) (fun _ h => h)
  obtain ⟨t2, ha2, hr2⟩ := arr_ofI (ty := .long) (htg (.arrayClass .long) (sm_wd_in (i := 286) (by decide +kernel))) (fun _ h => h)
  obtain ⟨t3, ha3, hr3⟩ := arr_ofO (C := RX0) (hts (.arrayOver (.object RX0)) (List.mem_of_getElem? (i := 329) (by decide +kernel)))
  obtain ⟨t5, ha5, hr5⟩ := arr_ofO (C := RX2) (hts (.arrayOver (.object RX2)) (List.mem_of_getElem? (i := 139) (by decide +kernel)))
  obtain ⟨t7, ha7, hr7⟩ := arr_ofO (C := RX4) (hts (.arrayOver (.object RX4)) (List.mem_of_getElem? (i := 141) (by decide +kernel)))
  obtain ⟨t11, ha11, hr11⟩ := arr_ofO (C := RX8) (hts (.arrayOver (.object RX8)) (List.mem_of_getElem? (i := 137) (by decide +kernel)))
  refine ⟨(fun k => match k with | 0 => c0 | 1 => c1 | 2 => c2 | 3 => c3 | 4 => c4 | 5 => c5 | 6 => c6 | 7 => c7 | 8 => c8 | 9 => c9 | _ => c10, fun k => match k with | 0 => i0 | 1 => i1 | 2 => i2 | 3 => i3 | 4 => i4 | 5 => i5 | 6 => i6 | 7 => i7 | 8 => i8 | 9 => i9 | _ => i10), fun k => match k with | 0 => t0 | 1 => t1 | 2 => t2 | 3 => t3 | 5 => t5 | 7 => t7 | _ => t11, ?_, ?_⟩
  · intro k q hq
    match k, hq with
    | 0, hq => cases hq; exact hk0
    | 1, hq => cases hq; exact hk1
    | 2, hq => cases hq; exact hk2
    | 3, hq => cases hq; exact hk3
    | 4, hq => cases hq; exact hk4
    | 5, hq => cases hq; exact hk5
    | 6, hq => cases hq; exact hk6
    | 7, hq => cases hq; exact hk7
    | 8, hq => cases hq; exact hk8
    | 9, hq => cases hq; exact hk9
    | 10, hq => cases hq; exact hk10
    | k + 11, hq => cases hq
  · intro k q hq
    match k, hq with
    | 0, hq => cases hq; exact ⟨ha0, hr0⟩
    | 1, hq => cases hq; exact ⟨ha1, hr1⟩
    | 2, hq => cases hq; exact ⟨ha2, hr2⟩
    | 3, hq => cases hq; exact ⟨ha3, hr3⟩
    | 4, hq => cases hq; exact ⟨ha5, hr5⟩
    | 5, hq => cases hq; exact ⟨ha7, hr7⟩
    | 6, hq => cases hq; exact ⟨ha11, hr11⟩
    | k + 7, hq => cases hq
theorem nw_in : ∀ w ∈ sm_nw, w ∈ lw_tbl := by
  intro w hw
  simp only [sm_nw, List.mem_cons, List.not_mem_nil, or_false] at hw
  rcases hw with rfl | rfl | rfl | rfl | rfl | rfl | rfl
  · exact List.mem_of_getElem? (i := 530) (by decide +kernel)
  · exact List.mem_of_getElem? (i := 619) (by decide +kernel)
  · exact List.mem_of_getElem? (i := 647) (by decide +kernel)
  · exact List.mem_of_getElem? (i := 699) (by decide +kernel)
  · exact List.mem_of_getElem? (i := 1048) (by decide +kernel)
  · exact List.mem_of_getElem? (i := 1069) (by decide +kernel)
  · exact List.mem_of_getElem? (i := 1349) (by decide +kernel)
theorem nw_on : ∀ w ∈ sm_nw, w.onTables = true := by decide +kernel
theorem xw_in : ∀ w ∈ sm_xw, w ∈ lw_tbl := by
  intro w hw
  simp only [sm_xw, List.mem_cons, List.not_mem_nil, or_false] at hw
  rcases hw with rfl | rfl | rfl | rfl | rfl | rfl
  · exact List.mem_of_getElem? (i := 463) (by decide +kernel)
  · exact List.mem_of_getElem? (i := 465) (by decide +kernel)
  · exact List.mem_of_getElem? (i := 467) (by decide +kernel)
  · exact List.mem_of_getElem? (i := 461) (by decide +kernel)
  · exact List.mem_of_getElem? (i := 533) (by decide +kernel)
  · exact List.mem_of_getElem? (i := 557) (by decide +kernel)
theorem strs_in : ∀ q ∈ lt_strs, Cond.stringRef RX9 q.1 q.2 ∈ lw_tbl := by
  intro q hq
  simp only [lt_strs, List.mem_cons, List.not_mem_nil, or_false] at hq
  rcases hq with rfl | rfl | rfl | rfl | rfl | rfl | rfl | rfl | rfl | rfl | rfl | rfl | rfl | rfl | rfl | rfl | rfl | rfl | rfl | rfl | rfl
  · exact List.mem_of_getElem? (i := 500) (by decide +kernel)
  · exact List.mem_of_getElem? (i := 540) (by decide +kernel)
  · exact List.mem_of_getElem? (i := 564) (by decide +kernel)
  · exact List.mem_of_getElem? (i := 583) (by decide +kernel)
  · exact List.mem_of_getElem? (i := 584) (by decide +kernel)
  · exact List.mem_of_getElem? (i := 597) (by decide +kernel)
  · exact List.mem_of_getElem? (i := 643) (by decide +kernel)
  · exact List.mem_of_getElem? (i := 648) (by decide +kernel)
  · exact List.mem_of_getElem? (i := 653) (by decide +kernel)
  · exact List.mem_of_getElem? (i := 670) (by decide +kernel)
  · exact List.mem_of_getElem? (i := 888) (by decide +kernel)
  · exact List.mem_of_getElem? (i := 904) (by decide +kernel)
  · exact List.mem_of_getElem? (i := 918) (by decide +kernel)
  · exact List.mem_of_getElem? (i := 927) (by decide +kernel)
  · exact List.mem_of_getElem? (i := 936) (by decide +kernel)
  · exact List.mem_of_getElem? (i := 1025) (by decide +kernel)
  · exact List.mem_of_getElem? (i := 1273) (by decide +kernel)
  · exact List.mem_of_getElem? (i := 1274) (by decide +kernel)
  · exact List.mem_of_getElem? (i := 1326) (by decide +kernel)
  · exact List.mem_of_getElem? (i := 1335) (by decide +kernel)
  · exact List.mem_of_getElem? (i := 1344) (by decide +kernel)
theorem strs_tx {k : Nat} {tx : String} (h : lt_tx k = some tx) : (k, tx) ∈ lt_strs := by
  unfold lt_tx at h
  obtain ⟨q, h1, h2⟩ := Option.map_eq_some_iff.mp h
  have h3 := List.mem_of_find?_eq_some h1
  have h4 : Nat.beq q.1 k = true := List.find?_some (p := fun q : Nat × String => Nat.beq q.1 k) h1
  have h5 : q.1 = k := Nat.eq_of_beq_eq_true h4
  rw [show (k, tx) = q from by rw [← h5, ← h2]]
  exact h3
theorem base_PT {args : Array Value} {s : State} {D : va_G} {tc : Nat → ClassId} (hts : ∀ w ∈ lw_tbl, w.before args s = true) (hgv : (Jvm.Cond.and given_1 narrow_1).before args s = true) (hK : va_K D vwCl (sm_tys tc) s) : sm_PT (lwA s) s s.heap := by
  have htg := tbl_g hts
  have hs := flat_of_before _ hgv
  have hA : ∀ a : Nat, a < s.heap.size → ¬ lwA s a := fun a h => Nat.not_le.mpr h
  refine ⟨fun w hw => va_Nw.of (sm_xw_on w hw) (hts w (xw_in w hw)), vx_Zqof (hts (.laysStatic "java/lang/Throwable" "UNASSIGNED_STACK" "[Ljava/lang/StackTraceElement;") (List.mem_of_getElem? (i := 486) (by decide +kernel))) (htg (.initialized "java/lang/Throwable") (sm_wd_in (i := 120) (by decide +kernel))) (hs _ (by decide +kernel)) hA, vx_Zqof (hts (.laysStatic "java/lang/Throwable" "SUPPRESSED_SENTINEL" "Ljava/util/List;") (List.mem_of_getElem? (i := 488) (by decide +kernel))) (htg (.initialized "java/lang/Throwable") (sm_wd_in (i := 120) (by decide +kernel))) (hs _ (by decide +kernel)) hA, fun k tx h => ?_⟩
  have h1 := hts _ (strs_in _ (strs_tx h))
  obtain ⟨-, -, -, a, -, -, -, -, -, h2⟩ := Cond.stringRef_spec (hK.1 9 _ rfl).2.1 h1
  exact ⟨a, vk_R.of h1 h2⟩
theorem base_Nc {args : Array Value} {s : State} (hgv : (Jvm.Cond.and given_1 narrow_1).before args s = true) : ∀ x y, x < 3 → y < 3 → x ≠ y → va_Nc (lt_xn x) (lt_xn y) s := by
  have hs := flat_of_before _ hgv
  intro x y hx hy hne
  match x, y with
  | 0, 0 => exact absurd rfl hne
  | 1, 1 => exact absurd rfl hne
  | 2, 2 => exact absurd rfl hne
  | 0, 1 => exact va_Nc.of (hs (.not (.castable "java/lang/IndexOutOfBoundsException" "java/lang/IllegalArgumentException")) (by decide +kernel))
  | 0, 2 => exact va_Nc.of (hs (.not (.castable "java/lang/IndexOutOfBoundsException" "java/lang/IllegalStateException")) (by decide +kernel))
  | 1, 0 => exact va_Nc.of (hs (.not (.castable "java/lang/IllegalArgumentException" "java/lang/IndexOutOfBoundsException")) (by decide +kernel))
  | 1, 2 => exact va_Nc.of (hs (.not (.castable "java/lang/IllegalArgumentException" "java/lang/IllegalStateException")) (by decide +kernel))
  | 2, 0 => exact va_Nc.of (hs (.not (.castable "java/lang/IllegalStateException" "java/lang/IndexOutOfBoundsException")) (by decide +kernel))
  | 2, 1 => exact va_Nc.of (hs (.not (.castable "java/lang/IllegalStateException" "java/lang/IllegalArgumentException")) (by decide +kernel))
  | x + 3, _ => exact absurd hx (by omega)
  | 0, y + 3 => exact absurd hy (by omega)
  | 1, y + 3 => exact absurd hy (by omega)
  | 2, y + 3 => exact absurd hy (by omega)
theorem D_any {A : Nat → Prop} {tc : Nat → ClassId} {ad : Nat × Nat × Nat → Nat} {M0 : sm_M} (h : va_D A (sm_W tc ad M0)) (M : sm_M) : va_D A (sm_W tc ad M) := by
  have g : ∀ (M1 M2 : sm_M) (k : Nat) (q : Nat × va_E), (sm_W tc ad M1)[k]? = some q → ∃ q', (sm_W tc ad M2)[k]? = some q' ∧ q'.1 = q.1 := by
    intro M1 M2 k q hq
    unfold sm_W at hq ⊢
    rw [List.getElem?_map] at hq ⊢
    obtain ⟨r, h1, h2⟩ := Option.map_eq_some_iff.mp hq
    rw [h1]
    exact ⟨_, rfl, by rw [← h2]⟩
  refine ⟨fun i j p q hi hj e => ?_, fun k q hk => ?_⟩
  · obtain ⟨p', hp', ep⟩ := g M M0 i p hi
    obtain ⟨q', hq', eq⟩ := g M M0 j q hj
    exact h.1 i j p' q' hp' hq' (by rw [ep, eq, e])
  · obtain ⟨q', hq', eq⟩ := g M M0 k q hk
    rw [← eq]
    exact h.2 k q' hq'
