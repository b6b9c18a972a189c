/-! the law's loop on the machine -/
theorem wrE {w : Nat × Nat × List Nat} {o : Option sm_v} {r R : sm_R} (h : sm_wr1 w o (some r) = some R) : True := trivial
theorem okv_r {z : Bool} {r : Nat × Nat × Nat} (h : r ∈ sm_ids) : sm_ok z (.inr (.inr r)) := Or.inl h
theorem okL0 {i : Nat} : sm_oks true [.inr (.inr (99, 0, 1)), .inr (.inr (9, 0, 0)), .inr (.inr (10, 0, 0)), .inr (.inr (30, 0, 1)), .inl (nI i)] :=
  sm_oks_c.mpr ⟨Or.inr ⟨rfl, rfl⟩, sm_oks_c.mpr ⟨Or.inl (by decide +kernel), sm_oks_c.mpr ⟨Or.inl (by decide +kernel), sm_oks_c.mpr ⟨Or.inl (by decide +kernel), sm_oks_c.mpr ⟨trivial, fun v hv => by cases hv⟩⟩⟩⟩⟩
theorem okN0 : sm_oks true [] := fun v hv => by cases hv
theorem okI {x : Int32} : sm_oks true [.inl x] := sm_oks_c.mpr ⟨trivial, okN0⟩
section LMAIN
variable {p : Program} {l : Launch} {e : Env} {s : State} {m : MethodId} {below : List Frame} {meth : Method} {c : Code} {b0 : Nat}
variable {D : va_G} {tc : Nat → ClassId} {ad : Nat × Nat × Nat → Nat} {sc : Nat × (Nat → Int32)}
theorem lw_MX (hlt : l.stackTraces = false) {m0 : Nat} (hm : m0 < 263) (hR9 : lt_R m0 = RX9) (hrk1 : lt_r m0 = some .int ∨ lt_r m0 = some .boolean) (hfl : 6 ≤ (lt_fl m0).1 ∧ 82 ≤ (lt_fl m0).2) {a : List sm_v} {M : sm_M} {r : sm_R} (h : sm_den (lt_P sc) m0 0 a [] M = some r) (ho : sm_oks false a) : ∃ n, sm_run (lt_P sc) n m0 0 a [] M = some r := sm_den_run h

/-- step: the call, up to the loop's head again -/
theorem lm_step (L : LX p l s m meth c D tc ad sc b0) {cells slots i : Nat} (hc : cells + 1 ≤ 601024) (hs : slots + 6 ≤ 7293034) {M : sm_M} {a : Nat → Nat → Int32} (hsc : sc.1 ≤ 2560) (hi : i + 5 ≤ sc.1) (g : GI a M (40 * i))
    (kk : ∀ N b, GI b N (40 * (i + 5)) → lwSW p l e s m below meth c D tc ad b0 (cells + 1) (slots + 6) (pc_Law_law 1) ((lv_Law_law 1).zip [.inr (.inr (99, 0, 1)), .inr (.inr (9, 0, 0)), .inr (.inr (10, 0, 0)), .inr (.inr (30, 0, 1)), .inl (nI (i + 5))]) [] N) :
    lwSW p l e s m below meth c D tc ad b0 cells slots (pc_Law_law 4) ((lv_Law_law 4).zip [.inr (.inr (99, 0, 1)), .inr (.inr (9, 0, 0)), .inr (.inr (10, 0, 0)), .inr (.inr (30, 0, 1)), .inl (nI i)]) [.inr (.inr (30, 0, 1)), .inl (sc.2 (i + 4)), .inl (sc.2 (i + 3)), .inl (sc.2 (i + 2)), .inl (sc.2 (i + 1)), .inr (.inr (9, 0, 0))] M := by
  obtain ⟨r, x2, M1, N1, b, h1, h2, h3, h4⟩ := LJ_step hsc hi g
  obtain ⟨n, hn⟩ := sm_den_run (P := lt_P sc) h1
  have hX : sm_MetX l D tc ad kTop_step [.inr (.inr (9, 0, 0)), .inl (sc.2 (i + 1)), .inl (sc.2 (i + 2)), .inl (sc.2 (i + 3)), .inl (sc.2 (i + 4))] M r := sm_soundX fa_263 L.2.2.2.1 (sm_MetF_ok l D tc ad) sc (m0 := kTop_step) (by decide) (by decide +kernel) (by decide +kernel) (by decide +kernel) hn (sm_oks_c.mpr ⟨Or.inl (by decide +kernel), sm_oks_c.mpr ⟨trivial, sm_oks_c.mpr ⟨trivial, sm_oks_c.mpr ⟨trivial, sm_oks_c.mpr ⟨trivial, (fun v hv => by cases hv)⟩⟩⟩⟩⟩)
  have hW := wr_step (sc.2 (i + 1)) (sc.2 (i + 2)) (sc.2 (i + 3)) (sc.2 (i + 4)) hX (ex_step h1) h2
  have hk := kk N1 b h3
  refine lw_wrap L hc hs (ls := sm_st0 lv_Law_law [.inr (.inr (99, 0, 1)), .inr (.inr (9, 0, 0)), .inr (.inr (10, 0, 0)), .inr (.inr (30, 0, 1)), .inl (nI i)] 4) (n := 6) (as := [.inr (.inr (9, 0, 0)), .inl (sc.2 (i + 1)), .inl (sc.2 (i + 2)), .inl (sc.2 (i + 3)), .inl (sc.2 (i + 4)), .inr (.inr (30, 0, 1))]) hW gw_step (by decide +kernel) (by decide +kernel) rfl (by decide +kernel) ?_
  exact lw_T L hc hs (b := 4) fitT_4 h4 okL0 okI hk
/-- channel: the call, up to the loop's head again -/
theorem lm_channel (L : LX p l s m meth c D tc ad sc b0) {cells slots i : Nat} (hc : cells + 1 ≤ 601024) (hs : slots + 6 ≤ 7293034) {M : sm_M} {a : Nat → Nat → Int32} (hsc : sc.1 ≤ 2560) (hi : i + 5 ≤ sc.1) (g : GI a M (40 * i))
    (kk : ∀ N b, GI b N (40 * (i + 5)) → lwSW p l e s m below meth c D tc ad b0 (cells + 1) (slots + 6) (pc_Law_law 1) ((lv_Law_law 1).zip [.inr (.inr (99, 0, 1)), .inr (.inr (9, 0, 0)), .inr (.inr (10, 0, 0)), .inr (.inr (30, 0, 1)), .inl (nI (i + 5))]) [] N) :
    lwSW p l e s m below meth c D tc ad b0 cells slots (pc_Law_law 11) ((lv_Law_law 11).zip [.inr (.inr (99, 0, 1)), .inr (.inr (9, 0, 0)), .inr (.inr (10, 0, 0)), .inr (.inr (30, 0, 1)), .inl (nI i)]) [.inr (.inr (30, 0, 1)), .inl (sc.2 (i + 3)), .inl (sc.2 (i + 2)), .inl (sc.2 (i + 1)), .inr (.inr (9, 0, 0))] M := by
  obtain ⟨r, x2, M1, N1, b, h1, h2, h3, h4⟩ := LJ_channel hsc hi g
  obtain ⟨n, hn⟩ := sm_den_run (P := lt_P sc) h1
  have hX : sm_MetX l D tc ad kTop_channel [.inr (.inr (9, 0, 0)), .inl (sc.2 (i + 1)), .inl (sc.2 (i + 2)), .inl (sc.2 (i + 3))] M r := sm_soundX fa_263 L.2.2.2.1 (sm_MetF_ok l D tc ad) sc (m0 := kTop_channel) (by decide) (by decide +kernel) (by decide +kernel) (by decide +kernel) hn (sm_oks_c.mpr ⟨Or.inl (by decide +kernel), sm_oks_c.mpr ⟨trivial, sm_oks_c.mpr ⟨trivial, sm_oks_c.mpr ⟨trivial, (fun v hv => by cases hv)⟩⟩⟩⟩)
  have hW := wr_channel (sc.2 (i + 1)) (sc.2 (i + 2)) (sc.2 (i + 3)) hX (ex_channel h1) h2
  have hk := kk N1 b h3
  refine lw_wrap L hc hs (ls := sm_st0 lv_Law_law [.inr (.inr (99, 0, 1)), .inr (.inr (9, 0, 0)), .inr (.inr (10, 0, 0)), .inr (.inr (30, 0, 1)), .inl (nI i)] 11) (n := 5) (as := [.inr (.inr (9, 0, 0)), .inl (sc.2 (i + 1)), .inl (sc.2 (i + 2)), .inl (sc.2 (i + 3)), .inr (.inr (30, 0, 1))]) hW gw_channel (by decide +kernel) (by decide +kernel) rfl (by decide +kernel) ?_
  exact lw_T L hc hs (b := 11) fitT_11 h4 okL0 okI hk
/-- op: the call, up to the loop's head again -/
theorem lm_op (L : LX p l s m meth c D tc ad sc b0) {cells slots i : Nat} (hc : cells + 1 ≤ 601024) (hs : slots + 6 ≤ 7293034) {M : sm_M} {a : Nat → Nat → Int32} (hsc : sc.1 ≤ 2560) (hi : i + 5 ≤ sc.1) (g : GI a M (40 * i))
    (kk : ∀ N b, GI b N (40 * (i + 5)) → lwSW p l e s m below meth c D tc ad b0 (cells + 1) (slots + 6) (pc_Law_law 1) ((lv_Law_law 1).zip [.inr (.inr (99, 0, 1)), .inr (.inr (9, 0, 0)), .inr (.inr (10, 0, 0)), .inr (.inr (30, 0, 1)), .inl (nI (i + 5))]) [] N) :
    lwSW p l e s m below meth c D tc ad b0 cells slots (pc_Law_law 18) ((lv_Law_law 18).zip [.inr (.inr (99, 0, 1)), .inr (.inr (9, 0, 0)), .inr (.inr (10, 0, 0)), .inr (.inr (30, 0, 1)), .inl (nI i)]) [.inr (.inr (30, 0, 1)), .inl (sc.2 (i + 4)), .inl (sc.2 (i + 3)), .inl (sc.2 (i + 2)), .inl (sc.2 (i + 1)), .inr (.inr (9, 0, 0))] M := by
  obtain ⟨r, x2, M1, N1, b, h1, h2, h3, h4⟩ := LJ_op hsc hi g
  obtain ⟨n, hn⟩ := sm_den_run (P := lt_P sc) h1
  have hX : sm_MetX l D tc ad kTop_op [.inr (.inr (9, 0, 0)), .inl (sc.2 (i + 1)), .inl (sc.2 (i + 2)), .inl (sc.2 (i + 3)), .inl (sc.2 (i + 4))] M r := sm_soundX fa_263 L.2.2.2.1 (sm_MetF_ok l D tc ad) sc (m0 := kTop_op) (by decide) (by decide +kernel) (by decide +kernel) (by decide +kernel) hn (sm_oks_c.mpr ⟨Or.inl (by decide +kernel), sm_oks_c.mpr ⟨trivial, sm_oks_c.mpr ⟨trivial, sm_oks_c.mpr ⟨trivial, sm_oks_c.mpr ⟨trivial, (fun v hv => by cases hv)⟩⟩⟩⟩⟩)
  have hW := wr_op (sc.2 (i + 1)) (sc.2 (i + 2)) (sc.2 (i + 3)) (sc.2 (i + 4)) hX (ex_op h1) h2
  have hk := kk N1 b h3
  refine lw_wrap L hc hs (ls := sm_st0 lv_Law_law [.inr (.inr (99, 0, 1)), .inr (.inr (9, 0, 0)), .inr (.inr (10, 0, 0)), .inr (.inr (30, 0, 1)), .inl (nI i)] 18) (n := 6) (as := [.inr (.inr (9, 0, 0)), .inl (sc.2 (i + 1)), .inl (sc.2 (i + 2)), .inl (sc.2 (i + 3)), .inl (sc.2 (i + 4)), .inr (.inr (30, 0, 1))]) hW gw_op (by decide +kernel) (by decide +kernel) rfl (by decide +kernel) ?_
  exact lw_T L hc hs (b := 18) fitT_18 h4 okL0 okI hk
/-- unop: the call, up to the loop's head again -/
theorem lm_unop (L : LX p l s m meth c D tc ad sc b0) {cells slots i : Nat} (hc : cells + 1 ≤ 601024) (hs : slots + 6 ≤ 7293034) {M : sm_M} {a : Nat → Nat → Int32} (hsc : sc.1 ≤ 2560) (hi : i + 5 ≤ sc.1) (g : GI a M (40 * i))
    (kk : ∀ N b, GI b N (40 * (i + 5)) → lwSW p l e s m below meth c D tc ad b0 (cells + 1) (slots + 6) (pc_Law_law 1) ((lv_Law_law 1).zip [.inr (.inr (99, 0, 1)), .inr (.inr (9, 0, 0)), .inr (.inr (10, 0, 0)), .inr (.inr (30, 0, 1)), .inl (nI (i + 5))]) [] N) :
    lwSW p l e s m below meth c D tc ad b0 cells slots (pc_Law_law 25) ((lv_Law_law 25).zip [.inr (.inr (99, 0, 1)), .inr (.inr (9, 0, 0)), .inr (.inr (10, 0, 0)), .inr (.inr (30, 0, 1)), .inl (nI i)]) [.inr (.inr (30, 0, 1)), .inl (sc.2 (i + 1)), .inr (.inr (9, 0, 0))] M := by
  obtain ⟨r, x2, M1, N1, b, h1, h2, h3, h4⟩ := LJ_unop hsc hi g
  obtain ⟨n, hn⟩ := sm_den_run (P := lt_P sc) h1
  have hX : sm_MetX l D tc ad kTop_unop [.inr (.inr (9, 0, 0)), .inl (sc.2 (i + 1))] M r := sm_soundX fa_263 L.2.2.2.1 (sm_MetF_ok l D tc ad) sc (m0 := kTop_unop) (by decide) (by decide +kernel) (by decide +kernel) (by decide +kernel) hn (sm_oks_c.mpr ⟨Or.inl (by decide +kernel), sm_oks_c.mpr ⟨trivial, (fun v hv => by cases hv)⟩⟩)
  have hW := wr_unop (sc.2 (i + 1)) hX (ex_unop h1) h2
  have hk := kk N1 b h3
  refine lw_wrap L hc hs (ls := sm_st0 lv_Law_law [.inr (.inr (99, 0, 1)), .inr (.inr (9, 0, 0)), .inr (.inr (10, 0, 0)), .inr (.inr (30, 0, 1)), .inl (nI i)] 25) (n := 3) (as := [.inr (.inr (9, 0, 0)), .inl (sc.2 (i + 1)), .inr (.inr (30, 0, 1))]) hW gw_unop (by decide +kernel) (by decide +kernel) rfl (by decide +kernel) ?_
  exact lw_T L hc hs (b := 25) fitT_25 h4 okL0 okI hk
/-- check: the call, up to the loop's head again -/
theorem lm_check (L : LX p l s m meth c D tc ad sc b0) {cells slots i : Nat} (hc : cells + 1 ≤ 601024) (hs : slots + 6 ≤ 7293034) {M : sm_M} {a : Nat → Nat → Int32} (hsc : sc.1 ≤ 2560) (hi : i + 5 ≤ sc.1) (g : GI a M (40 * i))
    (kk : ∀ N b, GI b N (40 * (i + 5)) → lwSW p l e s m below meth c D tc ad b0 (cells + 1) (slots + 6) (pc_Law_law 1) ((lv_Law_law 1).zip [.inr (.inr (99, 0, 1)), .inr (.inr (9, 0, 0)), .inr (.inr (10, 0, 0)), .inr (.inr (30, 0, 1)), .inl (nI (i + 5))]) [] N) :
    lwSW p l e s m below meth c D tc ad b0 cells slots (pc_Law_law 32) ((lv_Law_law 32).zip [.inr (.inr (99, 0, 1)), .inr (.inr (9, 0, 0)), .inr (.inr (10, 0, 0)), .inr (.inr (30, 0, 1)), .inl (nI i)]) [.inr (.inr (30, 0, 1)), .inl (sc.2 (i + 1)), .inr (.inr (9, 0, 0))] M := by
  obtain ⟨r, x2, M1, N1, b, h1, h2, h3, h4⟩ := LJ_check hsc hi g
  obtain ⟨n, hn⟩ := sm_den_run (P := lt_P sc) h1
  have hX : sm_MetX l D tc ad kTop_check [.inr (.inr (9, 0, 0)), .inl (sc.2 (i + 1))] M r := sm_soundX fa_263 L.2.2.2.1 (sm_MetF_ok l D tc ad) sc (m0 := kTop_check) (by decide) (by decide +kernel) (by decide +kernel) (by decide +kernel) hn (sm_oks_c.mpr ⟨Or.inl (by decide +kernel), sm_oks_c.mpr ⟨trivial, (fun v hv => by cases hv)⟩⟩)
  have hW := wr_check (sc.2 (i + 1)) hX (ex_check h1) h2
  have hk := kk N1 b h3
  refine lw_wrap L hc hs (ls := sm_st0 lv_Law_law [.inr (.inr (99, 0, 1)), .inr (.inr (9, 0, 0)), .inr (.inr (10, 0, 0)), .inr (.inr (30, 0, 1)), .inl (nI i)] 32) (n := 3) (as := [.inr (.inr (9, 0, 0)), .inl (sc.2 (i + 1)), .inr (.inr (30, 0, 1))]) hW gw_check (by decide +kernel) (by decide +kernel) rfl (by decide +kernel) ?_
  exact lw_T L hc hs (b := 32) fitT_32 h4 okL0 okI hk
/-- error: the call, up to the loop's head again -/
theorem lm_error (L : LX p l s m meth c D tc ad sc b0) {cells slots i : Nat} (hc : cells + 1 ≤ 601024) (hs : slots + 6 ≤ 7293034) {M : sm_M} {a : Nat → Nat → Int32} (hsc : sc.1 ≤ 2560) (hi : i + 5 ≤ sc.1) (g : GI a M (40 * i))
    (kk : ∀ N b, GI b N (40 * (i + 5)) → lwSW p l e s m below meth c D tc ad b0 (cells + 1) (slots + 6) (pc_Law_law 1) ((lv_Law_law 1).zip [.inr (.inr (99, 0, 1)), .inr (.inr (9, 0, 0)), .inr (.inr (10, 0, 0)), .inr (.inr (30, 0, 1)), .inl (nI (i + 5))]) [] N) :
    lwSW p l e s m below meth c D tc ad b0 cells slots (pc_Law_law 39) ((lv_Law_law 39).zip [.inr (.inr (99, 0, 1)), .inr (.inr (9, 0, 0)), .inr (.inr (10, 0, 0)), .inr (.inr (30, 0, 1)), .inl (nI i)]) [.inr (.inr (30, 0, 1)), .inl (sc.2 (i + 1)), .inr (.inr (9, 0, 0))] M := by
  obtain ⟨r, x2, M1, N1, b, h1, h2, h3, h4⟩ := LJ_error hsc hi g
  obtain ⟨n, hn⟩ := sm_den_run (P := lt_P sc) h1
  have hX : sm_MetX l D tc ad kTop_error [.inr (.inr (9, 0, 0)), .inl (sc.2 (i + 1))] M r := sm_soundX fa_263 L.2.2.2.1 (sm_MetF_ok l D tc ad) sc (m0 := kTop_error) (by decide) (by decide +kernel) (by decide +kernel) (by decide +kernel) hn (sm_oks_c.mpr ⟨Or.inl (by decide +kernel), sm_oks_c.mpr ⟨trivial, (fun v hv => by cases hv)⟩⟩)
  have hW := wr_error (sc.2 (i + 1)) hX (ex_error h1) h2
  have hk := kk N1 b h3
  refine lw_wrap L hc hs (ls := sm_st0 lv_Law_law [.inr (.inr (99, 0, 1)), .inr (.inr (9, 0, 0)), .inr (.inr (10, 0, 0)), .inr (.inr (30, 0, 1)), .inl (nI i)] 39) (n := 3) (as := [.inr (.inr (9, 0, 0)), .inl (sc.2 (i + 1)), .inr (.inr (30, 0, 1))]) hW gw_error (by decide +kernel) (by decide +kernel) rfl (by decide +kernel) ?_
  exact lw_T L hc hs (b := 39) fitT_39 h4 okL0 okI hk
/-- borrower: the call, up to the loop's head again -/
theorem lm_borrower (L : LX p l s m meth c D tc ad sc b0) {cells slots i : Nat} (hc : cells + 1 ≤ 601024) (hs : slots + 6 ≤ 7293034) {M : sm_M} {a : Nat → Nat → Int32} (hsc : sc.1 ≤ 2560) (hi : i + 5 ≤ sc.1) (g : GI a M (40 * i))
    (kk : ∀ N b, GI b N (40 * (i + 5)) → lwSW p l e s m below meth c D tc ad b0 (cells + 1) (slots + 6) (pc_Law_law 1) ((lv_Law_law 1).zip [.inr (.inr (99, 0, 1)), .inr (.inr (9, 0, 0)), .inr (.inr (10, 0, 0)), .inr (.inr (30, 0, 1)), .inl (nI (i + 5))]) [] N) :
    lwSW p l e s m below meth c D tc ad b0 cells slots (pc_Law_law 46) ((lv_Law_law 46).zip [.inr (.inr (99, 0, 1)), .inr (.inr (9, 0, 0)), .inr (.inr (10, 0, 0)), .inr (.inr (30, 0, 1)), .inl (nI i)]) [.inr (.inr (30, 0, 1)), .inl (sc.2 (i + 1)), .inr (.inr (9, 0, 0))] M := by
  obtain ⟨r, x2, M1, N1, b, h1, h2, h3, h4⟩ := LJ_borrower hsc hi g
  obtain ⟨n, hn⟩ := sm_den_run (P := lt_P sc) h1
  have hX : sm_MetX l D tc ad kTop_borrower [.inr (.inr (9, 0, 0)), .inl (sc.2 (i + 1))] M r := sm_soundX fa_263 L.2.2.2.1 (sm_MetF_ok l D tc ad) sc (m0 := kTop_borrower) (by decide) (by decide +kernel) (by decide +kernel) (by decide +kernel) hn (sm_oks_c.mpr ⟨Or.inl (by decide +kernel), sm_oks_c.mpr ⟨trivial, (fun v hv => by cases hv)⟩⟩)
  have hW := wr_borrower (sc.2 (i + 1)) hX (ex_borrower h1) h2
  have hk := kk N1 b h3
  refine lw_wrap L hc hs (ls := sm_st0 lv_Law_law [.inr (.inr (99, 0, 1)), .inr (.inr (9, 0, 0)), .inr (.inr (10, 0, 0)), .inr (.inr (30, 0, 1)), .inl (nI i)] 46) (n := 3) (as := [.inr (.inr (9, 0, 0)), .inl (sc.2 (i + 1)), .inr (.inr (30, 0, 1))]) hW gw_borrower (by decide +kernel) (by decide +kernel) rfl (by decide +kernel) ?_
  exact lw_T L hc hs (b := 46) fitT_46 h4 okL0 okI hk
/-- holds: the call, up to the loop's head again -/
theorem lm_holds (L : LX p l s m meth c D tc ad sc b0) {cells slots i : Nat} (hc : cells + 1 ≤ 601024) (hs : slots + 6 ≤ 7293034) {M : sm_M} {a : Nat → Nat → Int32} (hsc : sc.1 ≤ 2560) (hi : i + 5 ≤ sc.1) (g : GI a M (40 * i))
    (kk : ∀ N b, GI b N (40 * (i + 5)) → lwSW p l e s m below meth c D tc ad b0 (cells + 1) (slots + 6) (pc_Law_law 1) ((lv_Law_law 1).zip [.inr (.inr (99, 0, 1)), .inr (.inr (9, 0, 0)), .inr (.inr (10, 0, 0)), .inr (.inr (30, 0, 1)), .inl (nI (i + 5))]) [] N) :
    lwSW p l e s m below meth c D tc ad b0 cells slots (pc_Law_law 53) ((lv_Law_law 53).zip [.inr (.inr (99, 0, 1)), .inr (.inr (9, 0, 0)), .inr (.inr (10, 0, 0)), .inr (.inr (30, 0, 1)), .inl (nI i)]) [.inr (.inr (30, 0, 1)), .inl (sc.2 (i + 3)), .inl (sc.2 (i + 2)), .inl (sc.2 (i + 1)), .inr (.inr (9, 0, 0))] M := by
  obtain ⟨r, x2, M1, N1, b, h1, h2, h3, h4⟩ := LJ_holds hsc hi g
  obtain ⟨n, hn⟩ := sm_den_run (P := lt_P sc) h1
  have hX : sm_MetX l D tc ad kTop_holds [.inr (.inr (9, 0, 0)), .inl (sc.2 (i + 1)), .inl (sc.2 (i + 2)), .inl (sc.2 (i + 3))] M r := sm_soundX fa_263 L.2.2.2.1 (sm_MetF_ok l D tc ad) sc (m0 := kTop_holds) (by decide) (by decide +kernel) (by decide +kernel) (by decide +kernel) hn (sm_oks_c.mpr ⟨Or.inl (by decide +kernel), sm_oks_c.mpr ⟨trivial, sm_oks_c.mpr ⟨trivial, sm_oks_c.mpr ⟨trivial, (fun v hv => by cases hv)⟩⟩⟩⟩)
  have hW := wr_holds (sc.2 (i + 1)) (sc.2 (i + 2)) (sc.2 (i + 3)) hX (ex_holds h1) h2
  have hk := kk N1 b h3
  refine lw_wrap L hc hs (ls := sm_st0 lv_Law_law [.inr (.inr (99, 0, 1)), .inr (.inr (9, 0, 0)), .inr (.inr (10, 0, 0)), .inr (.inr (30, 0, 1)), .inl (nI i)] 53) (n := 5) (as := [.inr (.inr (9, 0, 0)), .inl (sc.2 (i + 1)), .inl (sc.2 (i + 2)), .inl (sc.2 (i + 3)), .inr (.inr (30, 0, 1))]) hW gw_holds (by decide +kernel) (by decide +kernel) rfl (by decide +kernel) ?_
  exact lw_T L hc hs (b := 53) fitT_53 h4 okL0 okI hk
/-- at: the call, up to the loop's head again -/
theorem lm_at (L : LX p l s m meth c D tc ad sc b0) {cells slots i : Nat} (hc : cells + 1 ≤ 601024) (hs : slots + 6 ≤ 7293034) {M : sm_M} {a : Nat → Nat → Int32} (hsc : sc.1 ≤ 2560) (hi : i + 5 ≤ sc.1) (g : GI a M (40 * i))
    (kk : ∀ N b, GI b N (40 * (i + 5)) → lwSW p l e s m below meth c D tc ad b0 (cells + 1) (slots + 6) (pc_Law_law 1) ((lv_Law_law 1).zip [.inr (.inr (99, 0, 1)), .inr (.inr (9, 0, 0)), .inr (.inr (10, 0, 0)), .inr (.inr (30, 0, 1)), .inl (nI (i + 5))]) [] N) :
    lwSW p l e s m below meth c D tc ad b0 cells slots (pc_Law_law 60) ((lv_Law_law 60).zip [.inr (.inr (99, 0, 1)), .inr (.inr (9, 0, 0)), .inr (.inr (10, 0, 0)), .inr (.inr (30, 0, 1)), .inl (nI i)]) [.inr (.inr (30, 0, 1)), .inl (sc.2 (i + 3)), .inl (sc.2 (i + 2)), .inl (sc.2 (i + 1)), .inr (.inr (9, 0, 0))] M := by
  obtain ⟨r, x2, M1, N1, b, h1, h2, h3, h4⟩ := LJ_at hsc hi g
  obtain ⟨n, hn⟩ := sm_den_run (P := lt_P sc) h1
  have hX : sm_MetX l D tc ad kTop_at [.inr (.inr (9, 0, 0)), .inl (sc.2 (i + 1)), .inl (sc.2 (i + 2)), .inl (sc.2 (i + 3))] M r := sm_soundX fa_263 L.2.2.2.1 (sm_MetF_ok l D tc ad) sc (m0 := kTop_at) (by decide) (by decide +kernel) (by decide +kernel) (by decide +kernel) hn (sm_oks_c.mpr ⟨Or.inl (by decide +kernel), sm_oks_c.mpr ⟨trivial, sm_oks_c.mpr ⟨trivial, sm_oks_c.mpr ⟨trivial, (fun v hv => by cases hv)⟩⟩⟩⟩)
  have hW := wr_at (sc.2 (i + 1)) (sc.2 (i + 2)) (sc.2 (i + 3)) hX (ex_at h1) h2
  have hk := kk N1 b h3
  refine lw_wrap L hc hs (ls := sm_st0 lv_Law_law [.inr (.inr (99, 0, 1)), .inr (.inr (9, 0, 0)), .inr (.inr (10, 0, 0)), .inr (.inr (30, 0, 1)), .inl (nI i)] 60) (n := 5) (as := [.inr (.inr (9, 0, 0)), .inl (sc.2 (i + 1)), .inl (sc.2 (i + 2)), .inl (sc.2 (i + 3)), .inr (.inr (30, 0, 1))]) hW gw_at (by decide +kernel) (by decide +kernel) rfl (by decide +kernel) ?_
  exact lw_T L hc hs (b := 60) fitT_60 h4 okL0 okI hk
/-- lives: the call, up to the loop's head again -/
theorem lm_lives (L : LX p l s m meth c D tc ad sc b0) {cells slots i : Nat} (hc : cells + 1 ≤ 601024) (hs : slots + 6 ≤ 7293034) {M : sm_M} {a : Nat → Nat → Int32} (hsc : sc.1 ≤ 2560) (hi : i + 5 ≤ sc.1) (g : GI a M (40 * i))
    (kk : ∀ N b, GI b N (40 * (i + 5)) → lwSW p l e s m below meth c D tc ad b0 (cells + 1) (slots + 6) (pc_Law_law 1) ((lv_Law_law 1).zip [.inr (.inr (99, 0, 1)), .inr (.inr (9, 0, 0)), .inr (.inr (10, 0, 0)), .inr (.inr (30, 0, 1)), .inl (nI (i + 5))]) [] N) :
    lwSW p l e s m below meth c D tc ad b0 cells slots (pc_Law_law 67) ((lv_Law_law 67).zip [.inr (.inr (99, 0, 1)), .inr (.inr (9, 0, 0)), .inr (.inr (10, 0, 0)), .inr (.inr (30, 0, 1)), .inl (nI i)]) [.inr (.inr (30, 0, 1)), .inl (sc.2 (i + 2)), .inl (sc.2 (i + 1)), .inr (.inr (9, 0, 0))] M := by
  obtain ⟨r, x2, M1, N1, b, h1, h2, h3, h4⟩ := LJ_lives hsc hi g
  obtain ⟨n, hn⟩ := sm_den_run (P := lt_P sc) h1
  have hX : sm_MetX l D tc ad kTop_lives [.inr (.inr (9, 0, 0)), .inl (sc.2 (i + 1)), .inl (sc.2 (i + 2))] M r := sm_soundX fa_263 L.2.2.2.1 (sm_MetF_ok l D tc ad) sc (m0 := kTop_lives) (by decide) (by decide +kernel) (by decide +kernel) (by decide +kernel) hn (sm_oks_c.mpr ⟨Or.inl (by decide +kernel), sm_oks_c.mpr ⟨trivial, sm_oks_c.mpr ⟨trivial, (fun v hv => by cases hv)⟩⟩⟩)
  have hW := wr_lives (sc.2 (i + 1)) (sc.2 (i + 2)) hX (ex_lives h1) h2
  have hk := kk N1 b h3
  refine lw_wrap L hc hs (ls := sm_st0 lv_Law_law [.inr (.inr (99, 0, 1)), .inr (.inr (9, 0, 0)), .inr (.inr (10, 0, 0)), .inr (.inr (30, 0, 1)), .inl (nI i)] 67) (n := 4) (as := [.inr (.inr (9, 0, 0)), .inl (sc.2 (i + 1)), .inl (sc.2 (i + 2)), .inr (.inr (30, 0, 1))]) hW gw_lives (by decide +kernel) (by decide +kernel) rfl (by decide +kernel) ?_
  exact lw_T L hc hs (b := 67) fitT_67 h4 okL0 okI hk
/-- stuck: the call, up to the loop's head again -/
theorem lm_stuck (L : LX p l s m meth c D tc ad sc b0) {cells slots i : Nat} (hc : cells + 1 ≤ 601024) (hs : slots + 6 ≤ 7293034) {M : sm_M} {a : Nat → Nat → Int32} (hsc : sc.1 ≤ 2560) (hi : i + 5 ≤ sc.1) (g : GI a M (40 * i))
    (kk : ∀ N b, GI b N (40 * (i + 5)) → lwSW p l e s m below meth c D tc ad b0 (cells + 1) (slots + 6) (pc_Law_law 1) ((lv_Law_law 1).zip [.inr (.inr (99, 0, 1)), .inr (.inr (9, 0, 0)), .inr (.inr (10, 0, 0)), .inr (.inr (30, 0, 1)), .inl (nI (i + 5))]) [] N) :
    lwSW p l e s m below meth c D tc ad b0 cells slots (pc_Law_law 74) ((lv_Law_law 74).zip [.inr (.inr (99, 0, 1)), .inr (.inr (9, 0, 0)), .inr (.inr (10, 0, 0)), .inr (.inr (30, 0, 1)), .inl (nI i)]) [.inr (.inr (30, 0, 1)), .inr (.inr (9, 0, 0))] M := by
  obtain ⟨r, x2, M1, N1, b, h1, h2, h3, h4⟩ := LJ_stuck hsc hi g
  obtain ⟨n, hn⟩ := sm_den_run (P := lt_P sc) h1
  have hX : sm_MetX l D tc ad kTop_stuck [.inr (.inr (9, 0, 0))] M r := sm_soundX fa_263 L.2.2.2.1 (sm_MetF_ok l D tc ad) sc (m0 := kTop_stuck) (by decide) (by decide +kernel) (by decide +kernel) (by decide +kernel) hn (sm_oks_c.mpr ⟨Or.inl (by decide +kernel), (fun v hv => by cases hv)⟩)
  have hW := wr_stuck  hX (ex_stuck h1) h2
  have hk := kk N1 b h3
  refine lw_wrap L hc hs (ls := sm_st0 lv_Law_law [.inr (.inr (99, 0, 1)), .inr (.inr (9, 0, 0)), .inr (.inr (10, 0, 0)), .inr (.inr (30, 0, 1)), .inl (nI i)] 74) (n := 2) (as := [.inr (.inr (9, 0, 0)), .inr (.inr (30, 0, 1))]) hW gw_stuck (by decide +kernel) (by decide +kernel) rfl (by decide +kernel) ?_
  exact lw_T L hc hs (b := 74) fitT_74 h4 okL0 okI hk
/-- run: the call, up to the loop's head again -/
theorem lm_run (L : LX p l s m meth c D tc ad sc b0) {cells slots i : Nat} (hc : cells + 1 ≤ 601024) (hs : slots + 6 ≤ 7293034) {M : sm_M} {a : Nat → Nat → Int32} (hsc : sc.1 ≤ 2560) (hi : i + 5 ≤ sc.1) (g : GI a M (40 * i))
    (kk : ∀ N b, GI b N (40 * (i + 5)) → lwSW p l e s m below meth c D tc ad b0 (cells + 1) (slots + 6) (pc_Law_law 1) ((lv_Law_law 1).zip [.inr (.inr (99, 0, 1)), .inr (.inr (9, 0, 0)), .inr (.inr (10, 0, 0)), .inr (.inr (30, 0, 1)), .inl (nI (i + 5))]) [] N) :
    lwSW p l e s m below meth c D tc ad b0 cells slots (pc_Law_law 98) ((lv_Law_law 98).zip [.inr (.inr (99, 0, 1)), .inr (.inr (9, 0, 0)), .inr (.inr (10, 0, 0)), .inr (.inr (30, 0, 1)), .inl (nI i)]) [.inr (.inr (30, 0, 1)), .inl (sc.2 (i + 2)), .inl (sc.2 (i + 1)), .inr (.inr (9, 0, 0))] M := by
  obtain ⟨r, x2, M1, N1, b, h1, h2, h3, h4⟩ := LJ_run hsc hi g
  obtain ⟨n, hn⟩ := sm_den_run (P := lt_P sc) h1
  have hX : sm_MetX l D tc ad kTop_run [.inr (.inr (9, 0, 0)), .inl (sc.2 (i + 1)), .inl (sc.2 (i + 2))] M r := sm_soundX fa_263 L.2.2.2.1 (sm_MetF_ok l D tc ad) sc (m0 := kTop_run) (by decide) (by decide +kernel) (by decide +kernel) (by decide +kernel) hn (sm_oks_c.mpr ⟨Or.inl (by decide +kernel), sm_oks_c.mpr ⟨trivial, sm_oks_c.mpr ⟨trivial, (fun v hv => by cases hv)⟩⟩⟩)
  have hW := wr_run (sc.2 (i + 1)) (sc.2 (i + 2)) hX (ex_run h1) h2
  have hk := kk N1 b h3
  refine lw_wrap L hc hs (ls := sm_st0 lv_Law_law [.inr (.inr (99, 0, 1)), .inr (.inr (9, 0, 0)), .inr (.inr (10, 0, 0)), .inr (.inr (30, 0, 1)), .inl (nI i)] 98) (n := 4) (as := [.inr (.inr (9, 0, 0)), .inl (sc.2 (i + 1)), .inl (sc.2 (i + 2)), .inr (.inr (30, 0, 1))]) hW gw_run (by decide +kernel) (by decide +kernel) rfl (by decide +kernel) ?_
  exact lw_T L hc hs (b := 98) fitT_98 h4 okL0 okI hk
/-- state: the call, up to the loop's head again -/
theorem lm_state (L : LX p l s m meth c D tc ad sc b0) {cells slots i : Nat} (hc : cells + 1 ≤ 601024) (hs : slots + 6 ≤ 7293034) {M : sm_M} {a : Nat → Nat → Int32} (hsc : sc.1 ≤ 2560) (hi : i + 5 ≤ sc.1) (g : GI a M (40 * i))
    (kk : ∀ N b, GI b N (40 * (i + 5)) → lwSW p l e s m below meth c D tc ad b0 (cells + 1) (slots + 6) (pc_Law_law 1) ((lv_Law_law 1).zip [.inr (.inr (99, 0, 1)), .inr (.inr (9, 0, 0)), .inr (.inr (10, 0, 0)), .inr (.inr (30, 0, 1)), .inl (nI (i + 5))]) [] N) :
    lwSW p l e s m below meth c D tc ad b0 cells slots (pc_Law_law 105) ((lv_Law_law 105).zip [.inr (.inr (99, 0, 1)), .inr (.inr (9, 0, 0)), .inr (.inr (10, 0, 0)), .inr (.inr (30, 0, 1)), .inl (nI i)]) [.inr (.inr (30, 0, 1)), .inl (sc.2 (i + 1)), .inr (.inr (9, 0, 0))] M := by
  obtain ⟨r, x2, M1, N1, b, h1, h2, h3, h4⟩ := LJ_state hsc hi g
  obtain ⟨n, hn⟩ := sm_den_run (P := lt_P sc) h1
  have hX : sm_MetX l D tc ad kTop_state [.inr (.inr (9, 0, 0)), .inl (sc.2 (i + 1))] M r := sm_soundX fa_263 L.2.2.2.1 (sm_MetF_ok l D tc ad) sc (m0 := kTop_state) (by decide) (by decide +kernel) (by decide +kernel) (by decide +kernel) hn (sm_oks_c.mpr ⟨Or.inl (by decide +kernel), sm_oks_c.mpr ⟨trivial, (fun v hv => by cases hv)⟩⟩)
  have hW := wr_state (sc.2 (i + 1)) hX (ex_state h1) h2
  have hk := kk N1 b h3
  refine lw_wrap L hc hs (ls := sm_st0 lv_Law_law [.inr (.inr (99, 0, 1)), .inr (.inr (9, 0, 0)), .inr (.inr (10, 0, 0)), .inr (.inr (30, 0, 1)), .inl (nI i)] 105) (n := 3) (as := [.inr (.inr (9, 0, 0)), .inl (sc.2 (i + 1)), .inr (.inr (30, 0, 1))]) hW gw_state (by decide +kernel) (by decide +kernel) rfl (by decide +kernel) ?_
  exact lw_T L hc hs (b := 105) fitT_105 h4 okL0 okI hk
/-- fault: the call, up to the loop's head again -/
theorem lm_fault (L : LX p l s m meth c D tc ad sc b0) {cells slots i : Nat} (hc : cells + 1 ≤ 601024) (hs : slots + 6 ≤ 7293034) {M : sm_M} {a : Nat → Nat → Int32} (hsc : sc.1 ≤ 2560) (hi : i + 5 ≤ sc.1) (g : GI a M (40 * i))
    (kk : ∀ N b, GI b N (40 * (i + 5)) → lwSW p l e s m below meth c D tc ad b0 (cells + 1) (slots + 6) (pc_Law_law 1) ((lv_Law_law 1).zip [.inr (.inr (99, 0, 1)), .inr (.inr (9, 0, 0)), .inr (.inr (10, 0, 0)), .inr (.inr (30, 0, 1)), .inl (nI (i + 5))]) [] N) :
    lwSW p l e s m below meth c D tc ad b0 cells slots (pc_Law_law 112) ((lv_Law_law 112).zip [.inr (.inr (99, 0, 1)), .inr (.inr (9, 0, 0)), .inr (.inr (10, 0, 0)), .inr (.inr (30, 0, 1)), .inl (nI i)]) [.inr (.inr (30, 0, 1)), .inl (sc.2 (i + 1)), .inr (.inr (9, 0, 0))] M := by
  obtain ⟨r, x2, M1, N1, b, h1, h2, h3, h4⟩ := LJ_fault hsc hi g
  obtain ⟨n, hn⟩ := sm_den_run (P := lt_P sc) h1
  have hX : sm_MetX l D tc ad kTop_fault [.inr (.inr (9, 0, 0)), .inl (sc.2 (i + 1))] M r := sm_soundX fa_263 L.2.2.2.1 (sm_MetF_ok l D tc ad) sc (m0 := kTop_fault) (by decide) (by decide +kernel) (by decide +kernel) (by decide +kernel) hn (sm_oks_c.mpr ⟨Or.inl (by decide +kernel), sm_oks_c.mpr ⟨trivial, (fun v hv => by cases hv)⟩⟩)
  have hW := wr_fault (sc.2 (i + 1)) hX (ex_fault h1) h2
  have hk := kk N1 b h3
  refine lw_wrap L hc hs (ls := sm_st0 lv_Law_law [.inr (.inr (99, 0, 1)), .inr (.inr (9, 0, 0)), .inr (.inr (10, 0, 0)), .inr (.inr (30, 0, 1)), .inl (nI i)] 112) (n := 3) (as := [.inr (.inr (9, 0, 0)), .inl (sc.2 (i + 1)), .inr (.inr (30, 0, 1))]) hW gw_fault (by decide +kernel) (by decide +kernel) rfl (by decide +kernel) ?_
  exact lw_T L hc hs (b := 112) fitT_112 h4 okL0 okI hk
/-- place: the call, up to the loop's head again -/
theorem lm_place (L : LX p l s m meth c D tc ad sc b0) {cells slots i : Nat} (hc : cells + 1 ≤ 601024) (hs : slots + 6 ≤ 7293034) {M : sm_M} {a : Nat → Nat → Int32} (hsc : sc.1 ≤ 2560) (hi : i + 5 ≤ sc.1) (g : GI a M (40 * i))
    (kk : ∀ N b, GI b N (40 * (i + 5)) → lwSW p l e s m below meth c D tc ad b0 (cells + 1) (slots + 6) (pc_Law_law 1) ((lv_Law_law 1).zip [.inr (.inr (99, 0, 1)), .inr (.inr (9, 0, 0)), .inr (.inr (10, 0, 0)), .inr (.inr (30, 0, 1)), .inl (nI (i + 5))]) [] N) :
    lwSW p l e s m below meth c D tc ad b0 cells slots (pc_Law_law 119) ((lv_Law_law 119).zip [.inr (.inr (99, 0, 1)), .inr (.inr (9, 0, 0)), .inr (.inr (10, 0, 0)), .inr (.inr (30, 0, 1)), .inl (nI i)]) [.inr (.inr (30, 0, 1)), .inl (sc.2 (i + 1)), .inr (.inr (9, 0, 0))] M := by
  obtain ⟨r, x2, M1, N1, b, h1, h2, h3, h4⟩ := LJ_place hsc hi g
  obtain ⟨n, hn⟩ := sm_den_run (P := lt_P sc) h1
  have hX : sm_MetX l D tc ad kTop_place [.inr (.inr (9, 0, 0)), .inl (sc.2 (i + 1))] M r := sm_soundX fa_263 L.2.2.2.1 (sm_MetF_ok l D tc ad) sc (m0 := kTop_place) (by decide) (by decide +kernel) (by decide +kernel) (by decide +kernel) hn (sm_oks_c.mpr ⟨Or.inl (by decide +kernel), sm_oks_c.mpr ⟨trivial, (fun v hv => by cases hv)⟩⟩)
  have hW := wr_place (sc.2 (i + 1)) hX (ex_place h1) h2
  have hk := kk N1 b h3
  refine lw_wrap L hc hs (ls := sm_st0 lv_Law_law [.inr (.inr (99, 0, 1)), .inr (.inr (9, 0, 0)), .inr (.inr (10, 0, 0)), .inr (.inr (30, 0, 1)), .inl (nI i)] 119) (n := 3) (as := [.inr (.inr (9, 0, 0)), .inl (sc.2 (i + 1)), .inr (.inr (30, 0, 1))]) hW gw_place (by decide +kernel) (by decide +kernel) rfl (by decide +kernel) ?_
  exact lw_T L hc hs (b := 119) fitT_119 h4 okL0 okI hk
/-- value: the call, up to the loop's head again -/
theorem lm_value (L : LX p l s m meth c D tc ad sc b0) {cells slots i : Nat} (hc : cells + 1 ≤ 601024) (hs : slots + 6 ≤ 7293034) {M : sm_M} {a : Nat → Nat → Int32} (hsc : sc.1 ≤ 2560) (hi : i + 5 ≤ sc.1) (g : GI a M (40 * i))
    (kk : ∀ N b, GI b N (40 * (i + 5)) → lwSW p l e s m below meth c D tc ad b0 (cells + 1) (slots + 6) (pc_Law_law 1) ((lv_Law_law 1).zip [.inr (.inr (99, 0, 1)), .inr (.inr (9, 0, 0)), .inr (.inr (10, 0, 0)), .inr (.inr (30, 0, 1)), .inl (nI (i + 5))]) [] N) :
    lwSW p l e s m below meth c D tc ad b0 cells slots (pc_Law_law 126) ((lv_Law_law 126).zip [.inr (.inr (99, 0, 1)), .inr (.inr (9, 0, 0)), .inr (.inr (10, 0, 0)), .inr (.inr (30, 0, 1)), .inl (nI i)]) [.inr (.inr (30, 0, 1)), .inl (sc.2 (i + 2)), .inl (sc.2 (i + 1)), .inr (.inr (9, 0, 0))] M := by
  obtain ⟨r, x2, M1, N1, b, h1, h2, h3, h4⟩ := LJ_value hsc hi g
  obtain ⟨n, hn⟩ := sm_den_run (P := lt_P sc) h1
  have hX : sm_MetX l D tc ad kTop_value [.inr (.inr (9, 0, 0)), .inl (sc.2 (i + 1)), .inl (sc.2 (i + 2))] M r := sm_soundX fa_263 L.2.2.2.1 (sm_MetF_ok l D tc ad) sc (m0 := kTop_value) (by decide) (by decide +kernel) (by decide +kernel) (by decide +kernel) hn (sm_oks_c.mpr ⟨Or.inl (by decide +kernel), sm_oks_c.mpr ⟨trivial, sm_oks_c.mpr ⟨trivial, (fun v hv => by cases hv)⟩⟩⟩)
  have hW := wr_value (sc.2 (i + 1)) (sc.2 (i + 2)) hX (ex_value h1) h2
  have hk := kk N1 b h3
  refine lw_wrap L hc hs (ls := sm_st0 lv_Law_law [.inr (.inr (99, 0, 1)), .inr (.inr (9, 0, 0)), .inr (.inr (10, 0, 0)), .inr (.inr (30, 0, 1)), .inl (nI i)] 126) (n := 4) (as := [.inr (.inr (9, 0, 0)), .inl (sc.2 (i + 1)), .inl (sc.2 (i + 2)), .inr (.inr (30, 0, 1))]) hW gw_value (by decide +kernel) (by decide +kernel) rfl (by decide +kernel) ?_
  exact lw_T L hc hs (b := 126) fitT_126 h4 okL0 okI hk
/-- waiting: the call, up to the loop's head again -/
theorem lm_waiting (L : LX p l s m meth c D tc ad sc b0) {cells slots i : Nat} (hc : cells + 1 ≤ 601024) (hs : slots + 6 ≤ 7293034) {M : sm_M} {a : Nat → Nat → Int32} (hsc : sc.1 ≤ 2560) (hi : i + 5 ≤ sc.1) (g : GI a M (40 * i))
    (kk : ∀ N b, GI b N (40 * (i + 5)) → lwSW p l e s m below meth c D tc ad b0 (cells + 1) (slots + 6) (pc_Law_law 1) ((lv_Law_law 1).zip [.inr (.inr (99, 0, 1)), .inr (.inr (9, 0, 0)), .inr (.inr (10, 0, 0)), .inr (.inr (30, 0, 1)), .inl (nI (i + 5))]) [] N) :
    lwSW p l e s m below meth c D tc ad b0 cells slots (pc_Law_law 133) ((lv_Law_law 133).zip [.inr (.inr (99, 0, 1)), .inr (.inr (9, 0, 0)), .inr (.inr (10, 0, 0)), .inr (.inr (30, 0, 1)), .inl (nI i)]) [.inr (.inr (30, 0, 1)), .inl (sc.2 (i + 2)), .inl (sc.2 (i + 1)), .inr (.inr (9, 0, 0))] M := by
  obtain ⟨r, x2, M1, N1, b, h1, h2, h3, h4⟩ := LJ_waiting hsc hi g
  obtain ⟨n, hn⟩ := sm_den_run (P := lt_P sc) h1
  have hX : sm_MetX l D tc ad kTop_waiting [.inr (.inr (9, 0, 0)), .inl (sc.2 (i + 1)), .inl (sc.2 (i + 2))] M r := sm_soundX fa_263 L.2.2.2.1 (sm_MetF_ok l D tc ad) sc (m0 := kTop_waiting) (by decide) (by decide +kernel) (by decide +kernel) (by decide +kernel) hn (sm_oks_c.mpr ⟨Or.inl (by decide +kernel), sm_oks_c.mpr ⟨trivial, sm_oks_c.mpr ⟨trivial, (fun v hv => by cases hv)⟩⟩⟩)
  have hW := wr_waiting (sc.2 (i + 1)) (sc.2 (i + 2)) hX (ex_waiting h1) h2
  have hk := kk N1 b h3
  refine lw_wrap L hc hs (ls := sm_st0 lv_Law_law [.inr (.inr (99, 0, 1)), .inr (.inr (9, 0, 0)), .inr (.inr (10, 0, 0)), .inr (.inr (30, 0, 1)), .inl (nI i)] 133) (n := 4) (as := [.inr (.inr (9, 0, 0)), .inl (sc.2 (i + 1)), .inl (sc.2 (i + 2)), .inr (.inr (30, 0, 1))]) hW gw_waiting (by decide +kernel) (by decide +kernel) rfl (by decide +kernel) ?_
  exact lw_T L hc hs (b := 133) fitT_133 h4 okL0 okI hk
/-- dropped: the call, up to the loop's head again -/
theorem lm_dropped (L : LX p l s m meth c D tc ad sc b0) {cells slots i : Nat} (hc : cells + 1 ≤ 601024) (hs : slots + 6 ≤ 7293034) {M : sm_M} {a : Nat → Nat → Int32} (hsc : sc.1 ≤ 2560) (hi : i + 5 ≤ sc.1) (g : GI a M (40 * i))
    (kk : ∀ N b, GI b N (40 * (i + 5)) → lwSW p l e s m below meth c D tc ad b0 (cells + 1) (slots + 6) (pc_Law_law 1) ((lv_Law_law 1).zip [.inr (.inr (99, 0, 1)), .inr (.inr (9, 0, 0)), .inr (.inr (10, 0, 0)), .inr (.inr (30, 0, 1)), .inl (nI (i + 5))]) [] N) :
    lwSW p l e s m below meth c D tc ad b0 cells slots (pc_Law_law 144) ((lv_Law_law 144).zip [.inr (.inr (99, 0, 1)), .inr (.inr (9, 0, 0)), .inr (.inr (10, 0, 0)), .inr (.inr (30, 0, 1)), .inl (nI i)]) [.inr (.inr (30, 0, 1)), .inl (sc.2 (i + 1)), .inr (.inr (9, 0, 0))] M := by
  obtain ⟨r, x2, M1, N1, b, h1, h2, h3, h4⟩ := LJ_dropped hsc hi g
  obtain ⟨n, hn⟩ := sm_den_run (P := lt_P sc) h1
  have hX : sm_MetX l D tc ad kTop_dropped [.inr (.inr (9, 0, 0)), .inl (sc.2 (i + 1))] M r := sm_soundX fa_263 L.2.2.2.1 (sm_MetF_ok l D tc ad) sc (m0 := kTop_dropped) (by decide) (by decide +kernel) (by decide +kernel) (by decide +kernel) hn (sm_oks_c.mpr ⟨Or.inl (by decide +kernel), sm_oks_c.mpr ⟨trivial, (fun v hv => by cases hv)⟩⟩)
  have hW := wr_dropped (sc.2 (i + 1)) hX (ex_dropped h1) h2
  have hk := kk N1 b h3
  refine lw_wrap L hc hs (ls := sm_st0 lv_Law_law [.inr (.inr (99, 0, 1)), .inr (.inr (9, 0, 0)), .inr (.inr (10, 0, 0)), .inr (.inr (30, 0, 1)), .inl (nI i)] 144) (n := 3) (as := [.inr (.inr (9, 0, 0)), .inl (sc.2 (i + 1)), .inr (.inr (30, 0, 1))]) hW gw_dropped (by decide +kernel) (by decide +kernel) rfl (by decide +kernel) ?_
  exact lw_T L hc hs (b := 144) fitT_144 h4 okL0 okI hk
/-- go: the call, up to the loop's head again -/
theorem lm_go (L : LX p l s m meth c D tc ad sc b0) {cells slots i : Nat} (hc : cells + 1 ≤ 601024) (hs : slots + 6 ≤ 7293034) {M : sm_M} {a : Nat → Nat → Int32} (hsc : sc.1 ≤ 2560) (hi : i + 5 ≤ sc.1) (g : GI a M (40 * i))
    (kk : ∀ N b, GI b N (40 * (i + 5)) → lwSW p l e s m below meth c D tc ad b0 (cells + 1) (slots + 6) (pc_Law_law 1) ((lv_Law_law 1).zip [.inr (.inr (99, 0, 1)), .inr (.inr (9, 0, 0)), .inr (.inr (10, 0, 0)), .inr (.inr (30, 0, 1)), .inl (nI (i + 5))]) [] N) :
    lwSW p l e s m below meth c D tc ad b0 cells slots (pc_Law_law 85) ((lv_Law_law 85).zip [.inr (.inr (99, 0, 1)), .inr (.inr (9, 0, 0)), .inr (.inr (10, 0, 0)), .inr (.inr (30, 0, 1)), .inl (nI i)]) [.inr (.inr (30, 0, 1)), .inl (bI (!decide (sc.2 (i + 2) = 0))), .inl (sc.2 (i + 1)), .inr (.inr (9, 0, 0))] M := by
  obtain ⟨r, x2, M1, N1, b, h1, h2, h3, h4⟩ := LJ_go hsc hi g
  obtain ⟨n, hn⟩ := sm_den_run (P := lt_P sc) h1
  have hX : sm_MetX l D tc ad kTop_go [.inr (.inr (9, 0, 0)), .inl (sc.2 (i + 1)), .inl (bI (!decide (sc.2 (i + 2) = 0)))] M r := sm_soundX fa_263 L.2.2.2.1 (sm_MetF_ok l D tc ad) sc (m0 := kTop_go) (by decide) (by decide +kernel) (by decide +kernel) (by decide +kernel) hn (sm_oks_c.mpr ⟨Or.inl (by decide +kernel), sm_oks_c.mpr ⟨trivial, sm_oks_c.mpr ⟨trivial, (fun v hv => by cases hv)⟩⟩⟩)
  have hW := wr_go (sc.2 (i + 1)) (bI (!decide (sc.2 (i + 2) = 0))) hX (ex_go h1) h2
  have hk := kk N1 b h3
  refine lw_wrap L hc hs (ls := sm_st0 lv_Law_law [.inr (.inr (99, 0, 1)), .inr (.inr (9, 0, 0)), .inr (.inr (10, 0, 0)), .inr (.inr (30, 0, 1)), .inl (nI i)] 85) (n := 4) (as := [.inr (.inr (9, 0, 0)), .inl (sc.2 (i + 1)), .inl (bI (!decide (sc.2 (i + 2) = 0))), .inr (.inr (30, 0, 1))]) hW gw_go (by decide +kernel) (by decide +kernel) rfl (by decide +kernel) ?_
  obtain ⟨h4, h5⟩ := h4
  have okL6 : sm_oks true [.inr (.inr (99, 0, 1)), .inr (.inr (9, 0, 0)), .inr (.inr (10, 0, 0)), .inr (.inr (30, 0, 1)), .inl (nI i), .inl x2] := sm_oks_c.mpr ⟨Or.inr ⟨rfl, rfl⟩, sm_oks_c.mpr ⟨Or.inl (by decide +kernel), sm_oks_c.mpr ⟨Or.inl (by decide +kernel), sm_oks_c.mpr ⟨Or.inl (by decide +kernel), sm_oks_c.mpr ⟨trivial, okI⟩⟩⟩⟩⟩
  have ok88 : sm_oks true [.inl (bI (!decide (sc.2 (i + 2) = 0))), .inl (sc.2 (i + 1)), .inr (.inr (10, 0, 0))] := sm_oks_c.mpr ⟨trivial, sm_oks_c.mpr ⟨trivial, sm_oks_c.mpr ⟨Or.inl (by decide +kernel), okN0⟩⟩⟩
  refine lw_T L hc hs (b := 85) fitT_85 h4 okL0 okI ?_
  rcases h5 with h5 | ⟨u, h5, h6⟩
  · exact lw_K L hc hs (b := 88) fitL_88 h5 okL6 ok88 hk
  · refine lw_K L hc hs (b := 88) fitL_88 h5 okL6 ok88 ?_
    exact lw_K L hc hs (b := 94) fitL_94 h6 okL0 (sm_oks_c.mpr ⟨trivial, sm_oks_c.mpr ⟨trivial, okN0⟩⟩) hk
theorem lw_loop (L : LX p l s m meth c D tc ad sc b0) (hsc : sc.1 ≤ 2560) {c0 s0 : Nat} (hc : c0 ≤ 1000) (hs : s0 ≤ 100000) : ∀ k i (M : sm_M) (a : Nat → Nat → Int32), sc.1 < i + 5 * k → i < 3000 → GI a M (40 * i) →
    lwSW p l e s m below meth c D tc ad b0 (c0 + i) (s0 + 6 * i) (pc_Law_law 1) ((lv_Law_law 1).zip [.inr (.inr (99, 0, 1)), .inr (.inr (9, 0, 0)), .inr (.inr (10, 0, 0)), .inr (.inr (30, 0, 1)), .inl (nI i)]) [] M := by
  intro k
  induction k with
  | zero =>
    intro i M a h1 h2 g
    exact lw_end L (by omega) (by omega) (b := 1) fitL_1 (fun J => L1_e hsc (by omega) h2 J) okL0 okN0
  | succ k ih =>
    intro i M a h1 h2 g
    by_cases hi : i + 5 ≤ sc.1
    rotate_left
    · exact lw_end L (by omega) (by omega) (b := 1) fitL_1 (fun J => L1_e hsc (by omega) h2 J) okL0 okN0
    have hc1 : c0 + i ≤ 601024 := by omega
    have hs1 : s0 + 6 * i ≤ 7293034 := by omega
    have hc2 : c0 + i + 1 ≤ 601024 := by omega
    have hs2 : s0 + 6 * i + 6 ≤ 7293034 := by omega
    have nx : ∀ N b, GI b N (40 * (i + 5)) → lwSW p l e s m below meth c D tc ad b0 (c0 + i) (s0 + 6 * i) (pc_Law_law 1) ((lv_Law_law 1).zip [.inr (.inr (99, 0, 1)), .inr (.inr (9, 0, 0)), .inr (.inr (10, 0, 0)), .inr (.inr (30, 0, 1)), .inl (nI (i + 5))]) [] N := fun N b gb => lw_wd (by omega) (by omega) (ih (i + 5) N b (by omega) (by omega) gb)
    have nx1 : ∀ N b, GI b N (40 * (i + 5)) → lwSW p l e s m below meth c D tc ad b0 (c0 + i + 1) (s0 + 6 * i + 6) (pc_Law_law 1) ((lv_Law_law 1).zip [.inr (.inr (99, 0, 1)), .inr (.inr (9, 0, 0)), .inr (.inr (10, 0, 0)), .inr (.inr (30, 0, 1)), .inl (nI (i + 5))]) [] N := fun N b gb => lw_wd (by omega) (by omega) (ih (i + 5) N b (by omega) (by omega) gb)
    by_cases k0 : sc.2 i &&& 31 = 0
    · exact lw_K L hc1 hs1 (b := 1) fitL_1 (fun J => L1_step hsc hi M k0 J) okL0 okN0 (lm_step L hc2 hs2 hsc hi g nx1)
    by_cases k1 : sc.2 i &&& 31 = 1
    · exact lw_K L hc1 hs1 (b := 1) fitL_1 (fun J => L1_channel hsc hi M k1 J) okL0 okN0 (lm_channel L hc2 hs2 hsc hi g nx1)
    by_cases k2 : sc.2 i &&& 31 = 2
    · exact lw_K L hc1 hs1 (b := 1) fitL_1 (fun J => L1_op hsc hi M k2 J) okL0 okN0 (lm_op L hc2 hs2 hsc hi g nx1)
    by_cases k3 : sc.2 i &&& 31 = 3
    · exact lw_K L hc1 hs1 (b := 1) fitL_1 (fun J => L1_unop hsc hi M k3 J) okL0 okN0 (lm_unop L hc2 hs2 hsc hi g nx1)
    by_cases k4 : sc.2 i &&& 31 = 4
    · exact lw_K L hc1 hs1 (b := 1) fitL_1 (fun J => L1_check hsc hi M k4 J) okL0 okN0 (lm_check L hc2 hs2 hsc hi g nx1)
    by_cases k5 : sc.2 i &&& 31 = 5
    · exact lw_K L hc1 hs1 (b := 1) fitL_1 (fun J => L1_error hsc hi M k5 J) okL0 okN0 (lm_error L hc2 hs2 hsc hi g nx1)
    by_cases k6 : sc.2 i &&& 31 = 6
    · exact lw_K L hc1 hs1 (b := 1) fitL_1 (fun J => L1_borrower hsc hi M k6 J) okL0 okN0 (lm_borrower L hc2 hs2 hsc hi g nx1)
    by_cases k7 : sc.2 i &&& 31 = 7
    · exact lw_K L hc1 hs1 (b := 1) fitL_1 (fun J => L1_holds hsc hi M k7 J) okL0 okN0 (lm_holds L hc2 hs2 hsc hi g nx1)
    by_cases k8 : sc.2 i &&& 31 = 8
    · exact lw_K L hc1 hs1 (b := 1) fitL_1 (fun J => L1_at hsc hi M k8 J) okL0 okN0 (lm_at L hc2 hs2 hsc hi g nx1)
    by_cases k9 : sc.2 i &&& 31 = 9
    · exact lw_K L hc1 hs1 (b := 1) fitL_1 (fun J => L1_lives hsc hi M k9 J) okL0 okN0 (lm_lives L hc2 hs2 hsc hi g nx1)
    by_cases k10 : sc.2 i &&& 31 = 10
    · exact lw_K L hc1 hs1 (b := 1) fitL_1 (fun J => L1_stuck hsc hi M k10 J) okL0 okN0 (lm_stuck L hc2 hs2 hsc hi g nx1)
    by_cases k11 : sc.2 i &&& 31 = 11
    · obtain ⟨N1, b, h3, h4⟩ := L1_begin hsc hi g k11
      exact lw_K L hc1 hs1 (b := 1) fitL_1 h4 okL0 okN0 (nx N1 b h3)
    by_cases k12 : sc.2 i &&& 31 = 12
    · exact lw_K L hc1 hs1 (b := 1) fitL_1 (fun J => L1_go hsc hi M k12 J) okL0 okN0 (lm_go L hc2 hs2 hsc hi g nx1)
    by_cases k13 : sc.2 i &&& 31 = 13
    · exact lw_K L hc1 hs1 (b := 1) fitL_1 (fun J => L1_run hsc hi M k13 J) okL0 okN0 (lm_run L hc2 hs2 hsc hi g nx1)
    by_cases k14 : sc.2 i &&& 31 = 14
    · exact lw_K L hc1 hs1 (b := 1) fitL_1 (fun J => L1_state hsc hi M k14 J) okL0 okN0 (lm_state L hc2 hs2 hsc hi g nx1)
    by_cases k15 : sc.2 i &&& 31 = 15
    · exact lw_K L hc1 hs1 (b := 1) fitL_1 (fun J => L1_fault hsc hi M k15 J) okL0 okN0 (lm_fault L hc2 hs2 hsc hi g nx1)
    by_cases k16 : sc.2 i &&& 31 = 16
    · exact lw_K L hc1 hs1 (b := 1) fitL_1 (fun J => L1_place hsc hi M k16 J) okL0 okN0 (lm_place L hc2 hs2 hsc hi g nx1)
    by_cases k17 : sc.2 i &&& 31 = 17
    · exact lw_K L hc1 hs1 (b := 1) fitL_1 (fun J => L1_value hsc hi M k17 J) okL0 okN0 (lm_value L hc2 hs2 hsc hi g nx1)
    by_cases k18 : sc.2 i &&& 31 = 18
    · exact lw_K L hc1 hs1 (b := 1) fitL_1 (fun J => L1_waiting hsc hi M k18 J) okL0 okN0 (lm_waiting L hc2 hs2 hsc hi g nx1)
    by_cases k19 : sc.2 i &&& 31 = 19
    · obtain ⟨N1, b, h3, h4⟩ := L1_made hsc hi g k19
      exact lw_K L hc1 hs1 (b := 1) fitL_1 h4 okL0 okN0 (nx N1 b h3)
    by_cases k20 : sc.2 i &&& 31 = 20
    · obtain ⟨N1, b, h3, h4⟩ := L1_drops hsc hi g k20
      exact lw_K L hc1 hs1 (b := 1) fitL_1 h4 okL0 okN0 (nx N1 b h3)
    by_cases k21 : sc.2 i &&& 31 = 21
    · exact lw_K L hc1 hs1 (b := 1) fitL_1 (fun J => L1_dropped hsc hi M k21 J) okL0 okN0 (lm_dropped L hc2 hs2 hsc hi g nx1)
    exact lw_K L hc1 hs1 (b := 1) fitL_1 (fun J => L1_no hsc hi k0 k1 k2 k3 k4 k5 k6 k7 k8 k9 k10 k11 k12 k13 k14 k15 k16 k17 k18 k19 k20 k21 J) okL0 okN0 (nx M a (GI_m g (by omega)))
end LMAIN
