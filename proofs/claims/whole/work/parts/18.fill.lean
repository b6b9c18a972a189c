/-! Arrays.fill over the small machine's cells -/
theorem sm_ib_nI {k n : Nat} (h : k < n) (hn : n < 2 ^ 31) : sm_ib (nI k) n = true := by
  unfold sm_ib
  rw [Bool.and_eq_true]
  have h1 : k < 2 ^ 31 := Nat.lt_trans h hn
  refine ⟨?_, decide_eq_true (by rw [nI_clamp h1]; exact h)⟩
  rw [decide_eq_false (nI_pos h1)]
  rfl
theorem sm_len_le : ∀ r ∈ sm_ids, (lt_al r.1 r.2.2).1 = 0 → (lt_al r.1 r.2.2).2 ≤ 4096 := by decide +kernel
theorem sm_P_eq {D : va_G} {tc : Nat → ClassId} {ad : Nat × Nat × Nat → Nat} {M1 M2 : sm_M} {c p j n : Nat} {H : Heap} (hj : j ≠ 0) (ha : lt_al c j = (0, n)) (h1 : ∀ r : Nat × Nat × Nat, r ≠ (c, p, j) → M2.1 r.1 r.2.1 r.2.2 = M1.1 r.1 r.2.1 r.2.2) (h2 : M2.2 = M1.2) (h3 : ∀ i, i < n → M1.1 c p j i = M2.1 c p j i) (hP : va_P D vwCl (sm_W tc ad M1) H) : va_P D vwCl (sm_W tc ad M2) H := by
  intro k q hq
  unfold sm_W at hq
  rw [List.getElem?_map] at hq
  cases hr : sm_ids[k]? with
  | none => rw [hr] at hq; cases hq
  | some r =>
    rw [hr] at hq
    have hq : (ad r, sm_ce tc ad M2 r) = q := Option.some.inj hq
    subst hq
    have hk : (sm_W tc ad M1)[k]? = some (ad r, sm_ce tc ad M1 r) := by
      unfold sm_W
      rw [List.getElem?_map, hr]
      rfl
    have h := hP k _ hk
    by_cases e : r = (c, p, j)
    · subst e
      rw [sm_ce_i M1 hj ha] at h
      rw [sm_ce_i M2 hj ha]
      have h : H[ad (c, p, j)]? = some (vp_cell (tc 0) (n, .inl (M1.1 c p j))) := h
      show H[ad (c, p, j)]? = some (vp_cell (tc 0) (n, .inl (M2.1 c p j)))
      rw [h, vp_cell_i, vp_cell_i]
      unfold arrV
      congr 3
      funext i
      show Value.int (M1.1 c p j i.val) = Value.int (M2.1 c p j i.val)
      rw [h3 i.val i.isLt]
    · have e2 : sm_ce tc ad M2 r = sm_ce tc ad M1 r := sm_ce_eq (h1 r e) (by rw [h2])
      show va_at D vwCl (ad r, sm_ce tc ad M2 r) H
      rw [e2]
      exact h
theorem dA_0 : decode prog_22_method_103_code 0 = .ok (.iconst 0, 1) := by decide +kernel
theorem dA_1 : decode prog_22_method_103_code 1 = .ok (.istore_n 2, 1) := by decide +kernel
theorem dA_2 : decode prog_22_method_103_code 2 = .ok (.aload_n 0, 1) := by decide +kernel
theorem dA_3 : decode prog_22_method_103_code 3 = .ok (.arraylength, 1) := by decide +kernel
theorem dA_4 : decode prog_22_method_103_code 4 = .ok (.istore_n 3, 1) := by decide +kernel
theorem dA_5 : decode prog_22_method_103_code 5 = .ok (.iload_n 2, 1) := by decide +kernel
theorem dA_6 : decode prog_22_method_103_code 6 = .ok (.iload_n 3, 1) := by decide +kernel
theorem dA_7 : decode prog_22_method_103_code 7 = .ok (.if_icmp .ge 13, 3) := by decide +kernel
theorem dA_10 : decode prog_22_method_103_code 10 = .ok (.aload_n 0, 1) := by decide +kernel
theorem dA_11 : decode prog_22_method_103_code 11 = .ok (.iload_n 2, 1) := by decide +kernel
theorem dA_12 : decode prog_22_method_103_code 12 = .ok (.iload_n 1, 1) := by decide +kernel
theorem dA_13 : decode prog_22_method_103_code 13 = .ok (.iastore, 1) := by decide +kernel
theorem dA_14 : decode prog_22_method_103_code 14 = .ok (.iinc 2 1, 3) := by decide +kernel
theorem dA_17 : decode prog_22_method_103_code 17 = .ok (.goto (-12), 3) := by decide +kernel
theorem dA_20 : decode prog_22_method_103_code 20 = .ok (.return_, 1) := by decide +kernel
theorem sm_MetF_ok (l : Launch) (D : va_G) (tc : Nat → ClassId) (ad : Nat × Nat × Nat → Nat) : sm_MetF l D tc ad := by
  intro c0 p0 j0 n x M sz hr ha
  refine Met.ofW (cc := prog_22_method_103_code) (maxL := 4) (ret := none) (by decide +kernel) rfl ?_
  intro p e s m args below meth c s₁ B hml hv
  obtain ⟨rfl, hsz, hP, hK, hD0, hN⟩ := hv
  have hx := B.exec
  have hb := B.bytes
  have hret := B.returns
  have hts := atoms_spec (ws := Cond.code yA_fill prog_22_method_103_code 4 none :: lw_g) B.pre
  have hown : s.vm.findClass "java/util/Arrays" = some m.cls := findClass_of_methodNamed B.named
  have hlocks := B.notSynchronized
  subst hsz
  have hD := sm_D_all (D := D) (sz := s.heap.size) hD0
  have hj : j0 ≠ 0 := by
    rintro rfl
    have q := lt_al_0 c0
    rw [ha] at q
    cases q
  have hn : n ≤ 4096 := by
    have q := sm_len_le _ hr
    dsimp only at q
    rw [ha] at q
    exact q rfl
  have hn31 : n < 2 ^ 31 := by omega
  have X : sm_Cx p s m [.ref (ad (c0, p0, j0)), .int x].toArray c prog_22_method_103_code 4 "java/util/Arrays" D tc ad (va_A (sm_W tc ad M) s.heap.size) s.heap (0, fun _ => 0) false := ⟨hx, hb, hml, hown, fun w hw => hts w (List.mem_cons_of_mem _ hw), hK, hD, hN, fun q h => Or.inr h, fun h => by cases h⟩
  have hl := lv_entry ([.ref (ad (c0, p0, j0)), .int x]) (n := 4) (Nat.le_of_ble_eq_true rfl)
  rw [lg_entry_eq]
  have okr : sm_ok false (.inr (.inr (c0, p0, j0))) := Or.inl hr
  have loop : ∀ (f k : Nat) (M' : sm_M), n ≤ k + f → k ≤ n → (∀ r : Nat × Nat × Nat, r ≠ (c0, p0, j0) → M'.1 r.1 r.2.1 r.2.2 = M.1 r.1 r.2.1 r.2.2) → M'.2 = M.2 → (∀ i, i < k → M'.1 c0 p0 j0 i = x) →
      sm_SW D tc ad (va_A (sm_W tc ad M) s.heap.size) s.heap 4 (sm_KW p l e (headSpec (Cond.code yA_fill prog_22_method_103_code 4 none :: lw_g) { frames := 0, cells := 0, slots := 0, locals := 0 }).room s m [.ref (ad (c0, p0, j0)), .int x].toArray below meth c 0 0 (MQ below (va_Qv (S := Unit) (fun _ => True) (sm_T D tc ad (sm_fl M c0 p0 j0 x)) (va_A (sm_W tc ad M) s.heap.size)) [.ref (ad (c0, p0, j0)), .int x].toArray s 0 0 (va_A (sm_W tc ad M) s.heap.size))) 5 [(2, .inl (nI k)), (3, .inl (nI n)), (1, .inl x), (0, .inr (.inr (c0, p0, j0)))] [] M' := by
    intro f
    induction f with
    | zero =>
      intro k M' h1 h2 h3 h4 h5
      have e : k = n := by omega
      subst e
      have okl : sm_okl false [(2, .inl (nI k)), (3, .inl (nI k)), (1, .inl x), (0, .inr (.inr (c0, p0, j0)))] := by
        intro q hq
        simp only [List.mem_cons, List.not_mem_nil, or_false] at hq
        rcases hq with rfl | rfl | rfl | rfl
        · trivial
        · trivial
        · trivial
        · exact okr
      refine (sm_s1_ok X (i := (.iload_n 2, [], [])) (len := 1) (ls := [(2, .inl (nI k)), (3, .inl (nI k)), (1, .inl x), (0, .inr (.inr (c0, p0, j0)))]) (st := []) rfl dA_5 rfl okl (fun v hv => by cases hv)).2 ?_
      refine (sm_s1_ok X (i := (.iload_n 3, [], [])) (len := 1) (ls := [(2, .inl (nI k)), (3, .inl (nI k)), (1, .inl x), (0, .inr (.inr (c0, p0, j0)))]) (st := [.inl (nI k)]) rfl dA_6 rfl okl (sm_oks_c.mpr ⟨trivial, fun v hv => by cases hv⟩)).2 ?_
      intro H locs la hP hS hl
      refine lv_icmp_ge (tgt := 20) hx hb dA_7 (by decide) (fun _ => ?_) (fun q => absurd (Int32.le_refl _) q)
      refine W.vret hx hb hret (fun t ht hW => ⟨⟨(), rfl, trivial, ?_⟩, hS.F ht⟩) hS.2.2 dA_20
      show va_P _ _ _ t.heap
      rw [ht]
      refine sm_P_eq (p := p0) (M1 := M') (M2 := sm_fl M c0 p0 j0 x) hj ha (fun r hne => ?_) h4.symm (fun i hi => ?_) hP
      · rw [h3 r hne]
        show (if r.1 = c0 ∧ r.2.1 = p0 ∧ r.2.2 = j0 then fun _ => x else M.1 r.1 r.2.1 r.2.2) = M.1 r.1 r.2.1 r.2.2
        rw [if_neg]
        rintro ⟨q1, q2, q3⟩
        exact hne (by rw [← q1, ← q2, ← q3])
      · rw [h5 i hi]
        show x = (if c0 = c0 ∧ p0 = p0 ∧ j0 = j0 then fun _ => x else M.1 c0 p0 j0) i
        rw [if_pos ⟨rfl, rfl, rfl⟩]
    | succ f ih =>
      intro k M' h1 h2 h3 h4 h5
      have okl : sm_okl false [(2, .inl (nI k)), (3, .inl (nI n)), (1, .inl x), (0, .inr (.inr (c0, p0, j0)))] := by
        intro q hq
        simp only [List.mem_cons, List.not_mem_nil, or_false] at hq
        rcases hq with rfl | rfl | rfl | rfl
        · trivial
        · trivial
        · trivial
        · exact okr
      by_cases hkn : k = n
      · exact ih k M' (by omega) h2 h3 h4 h5
      have hkn : k < n := by omega
      refine (sm_s1_ok X (i := (.iload_n 2, [], [])) (len := 1) (ls := [(2, .inl (nI k)), (3, .inl (nI n)), (1, .inl x), (0, .inr (.inr (c0, p0, j0)))]) (st := []) rfl dA_5 rfl okl (fun v hv => by cases hv)).2 ?_
      refine (sm_s1_ok X (i := (.iload_n 3, [], [])) (len := 1) (ls := [(2, .inl (nI k)), (3, .inl (nI n)), (1, .inl x), (0, .inr (.inr (c0, p0, j0)))]) (st := [.inl (nI k)]) rfl dA_6 rfl okl (sm_oks_c.mpr ⟨trivial, fun v hv => by cases hv⟩)).2 ?_
      intro H locs la hP hS hl
      refine lv_icmp_ge (tgt := 20) hx hb dA_7 (by decide) (fun q => absurd q (nI_ge hkn hn31)) (fun _ => ?_)
      refine (show sm_SW D tc ad (va_A (sm_W tc ad M) s.heap.size) s.heap 4 (sm_KW p l e (headSpec (Cond.code yA_fill prog_22_method_103_code 4 none :: lw_g) { frames := 0, cells := 0, slots := 0, locals := 0 }).room s m [.ref (ad (c0, p0, j0)), .int x].toArray below meth c 0 0 (MQ below (va_Qv (S := Unit) (fun _ => True) (sm_T D tc ad (sm_fl M c0 p0 j0 x)) (va_A (sm_W tc ad M) s.heap.size)) [.ref (ad (c0, p0, j0)), .int x].toArray s 0 0 (va_A (sm_W tc ad M) s.heap.size))) 10 [(2, .inl (nI k)), (3, .inl (nI n)), (1, .inl x), (0, .inr (.inr (c0, p0, j0)))] [] M' from ?_) H locs la hP hS hl
      refine (sm_s1_ok X (i := (.aload_n 0, [], [])) (len := 1) (ls := [(2, .inl (nI k)), (3, .inl (nI n)), (1, .inl x), (0, .inr (.inr (c0, p0, j0)))]) (st := []) rfl dA_10 rfl okl (fun v hv => by cases hv)).2 ?_
      refine (sm_s1_ok X (i := (.iload_n 2, [], [])) (len := 1) (ls := [(2, .inl (nI k)), (3, .inl (nI n)), (1, .inl x), (0, .inr (.inr (c0, p0, j0)))]) (st := [.inr (.inr (c0, p0, j0))]) rfl dA_11 rfl okl (sm_oks_c.mpr ⟨okr, fun v hv => by cases hv⟩)).2 ?_
      refine (sm_s1_ok X (i := (.iload_n 1, [], [])) (len := 1) (ls := [(2, .inl (nI k)), (3, .inl (nI n)), (1, .inl x), (0, .inr (.inr (c0, p0, j0)))]) (st := [.inl (nI k), .inr (.inr (c0, p0, j0))]) rfl dA_12 rfl okl (sm_oks_c.mpr ⟨trivial, sm_oks_c.mpr ⟨okr, fun v hv => by cases hv⟩⟩)).2 ?_
      refine (sm_s1_ok X (i := (.iastore, [], [])) (len := 1) (ls := [(2, .inl (nI k)), (3, .inl (nI n)), (1, .inl x), (0, .inr (.inr (c0, p0, j0)))]) (st := [.inl x, .inl (nI k), .inr (.inr (c0, p0, j0))]) rfl dA_13 (ls' := [(2, .inl (nI k)), (3, .inl (nI n)), (1, .inl x), (0, .inr (.inr (c0, p0, j0)))]) (st' := []) (M' := sm_u M' c0 p0 j0 (nI k).toNatClampNeg x) ?_ okl (sm_oks_c.mpr ⟨trivial, sm_oks_c.mpr ⟨trivial, sm_oks_c.mpr ⟨okr, fun v hv => by cases hv⟩⟩⟩)).2 ?_
      · show sm_ias lt_al _ [.inl x, .inl (nI k), .inr (.inr (c0, p0, j0))] M' = _
        show (match lt_al c0 j0 with | (kd, n) => bif Nat.beq kd 0 then (if sm_ib (nI k) n = true then some (_, _, sm_u M' c0 p0 j0 (nI k).toNatClampNeg x) else none) else none) = _
        rw [ha]
        show (if sm_ib (nI k) n = true then some (_, _, sm_u M' c0 p0 j0 (nI k).toNatClampNeg x) else none) = _
        rw [if_pos (sm_ib_nI hkn hn31)]
      rw [nI_clamp (Nat.lt_trans hkn hn31)]
      refine (sm_s1_ok X (i := (.iinc 2 1, [.inl 1], [])) (len := 3) (ls := [(2, .inl (nI k)), (3, .inl (nI n)), (1, .inl x), (0, .inr (.inr (c0, p0, j0)))]) (st := []) (by decide +kernel) dA_14 rfl okl (fun v hv => by cases hv)).2 ?_
      intro H locs la hP hS hl
      refine lv_goto (tgt := 5) hx hb dA_17 (by decide) ?_
      have hl : lv_has la 4 (sm_tl ad [(2, .inl (nI (k + 1))), (3, .inl (nI n)), (1, .inl x), (0, .inr (.inr (c0, p0, j0)))]) := by rw [← nI_1]; exact hl
      refine ih (k + 1) (sm_u M' c0 p0 j0 k x) (by omega) (by omega) (fun r hne => ?_) h4 (fun i hi => ?_) H locs la hP hS hl
      · rw [sm_u_ne hne]; exact h3 r hne
      · rw [sm_u_at]
        show (if i = k then x else M'.1 c0 p0 j0 i) = x
        by_cases hik : i = k
        · rw [if_pos hik]
        · rw [if_neg hik]
          exact h5 i (by omega)
  have okl0 : sm_okl false [(0, .inr (.inr (c0, p0, j0))), (1, .inl x)] := by
    intro q hq
    simp only [List.mem_cons, List.not_mem_nil, or_false] at hq
    rcases hq with rfl | rfl
    · exact okr
    · trivial
  have okl1 : sm_okl false [(2, .inl 0), (0, .inr (.inr (c0, p0, j0))), (1, .inl x)] := by
    intro q hq
    simp only [List.mem_cons, List.not_mem_nil, or_false] at hq
    rcases hq with rfl | rfl | rfl
    · trivial
    · exact okr
    · trivial
  have start := loop n 0 M (by omega) (by omega) (fun _ _ => rfl) rfl (fun i hi => absurd hi (Nat.not_lt_zero i))
  rw [nI_0] at start
  have start2 := sm_SW_sub (ls := [(3, .inl (nI n)), (2, .inl 0), (0, .inr (.inr (c0, p0, j0))), (1, .inl x)]) (by
    intro q hq
    simp only [List.mem_cons, List.not_mem_nil, or_false] at hq ⊢
    rcases hq with rfl | rfl | rfl | rfl
    · exact Or.inr (Or.inl rfl)
    · exact Or.inl rfl
    · exact Or.inr (Or.inr (Or.inr rfl))
    · exact Or.inr (Or.inr (Or.inl rfl))) start
  have w4 := (sm_s1_ok X (i := (.istore_n 3, [], [])) (len := 1) (pc := 4) (ls := [(2, .inl 0), (0, .inr (.inr (c0, p0, j0))), (1, .inl x)]) (st := [.inl (nI n)]) rfl dA_4 rfl okl1 (sm_oks_c.mpr ⟨trivial, fun v hv => by cases hv⟩)).2 start2
  have w3 := (sm_s1_ok X (i := (.arraylength, [], [])) (len := 1) (pc := 3) (ls := [(2, .inl 0), (0, .inr (.inr (c0, p0, j0))), (1, .inl x)]) (st := [.inr (.inr (c0, p0, j0))]) rfl dA_3 (by
    show sm_len lt_al _ _ [.inr (.inr (c0, p0, j0))] M = _
    show (match lt_al c0 j0 with | (kd, n) => bif Nat.ble kd 2 then some (_, Sum.inl (nI n) :: _, M) else bif Nat.beq kd 100 then some (_, Sum.inl (nI 0) :: _, M) else none) = _
    rw [ha]
    rfl) okl1 (sm_oks_c.mpr ⟨okr, fun v hv => by cases hv⟩)).2 w4
  have w2 := (sm_s1_ok X (i := (.aload_n 0, [], [])) (len := 1) (pc := 2) (ls := [(2, .inl 0), (0, .inr (.inr (c0, p0, j0))), (1, .inl x)]) (st := []) rfl dA_2 rfl okl1 (fun v hv => by cases hv)).2 w3
  have w1 := (sm_s1_ok X (i := (.istore_n 2, [], [])) (len := 1) (pc := 1) (ls := [(0, .inr (.inr (c0, p0, j0))), (1, .inl x)]) (st := [.inl 0]) rfl dA_1 rfl okl0 (sm_oks_c.mpr ⟨trivial, fun v hv => by cases hv⟩)).2 w2
  have w0 := (sm_s1_ok X (i := (.iconst 0, [.inl 0], [])) (len := 1) (pc := 0) (ls := [(0, .inr (.inr (c0, p0, j0))), (1, .inl x)]) (st := []) (by decide +kernel) dA_0 rfl okl0 (fun v hv => by cases hv)).2 w1
  exact w0 s.heap [] _ hP va_S.rf hl
