/-! constructors: worlds that grow -/
theorem arr_one {U : State} {c1 c2 : ClassId} {ty : FieldType} (h1 : va_RA U c1 ty) (h2 : va_RA U c2 ty) : c1 = c2 := by
  cases ty with
  | object C =>
    obtain ⟨_, _, _, _, _, e1⟩ := h1
    obtain ⟨_, _, _, _, _, e2⟩ := h2
    exact Option.some.inj (e1.symm.trans e2)
  | _ => exact Option.some.inj (Eq.trans (Eq.symm h1) h2)
/-- what a constructor finds: its own world -/
def ctB (D : va_G) (tc : Nat → ClassId) (ws : va_W) (sz : Nat) : State → Prop := fun U => U.heap.size = sz ∧ va_P D vwCl ws U.heap ∧ va_K D vwCl (sm_tys tc) U ∧ va_D (fun _ => True) ws
theorem ctB_blind {D : va_G} {tc : Nat → ClassId} {ws : va_W} {sz : Nat} {av : List Value} : FrameBlind (va_Pc av (ctB D tc ws sz)) := by
  intro a U g mk q
  obtain ⟨q0, q1, q2, q3, q4⟩ := q
  exact ⟨q0, q1, q2, va_K.moved (u := U) (U := U.calling g mk a) (Vm.Alike.refl U.vm) q3, q4⟩
theorem ctB_pre {D : va_G} {tc : Nat → ClassId} {ws : va_W} {A : Nat → Prop} {s : State} {H : Heap} (hK : va_K D vwCl (sm_tys tc) s) (hP : va_P D vwCl ws H) (hD : va_D A ws) (av : List Value) : PreS s H (va_Pc av (ctB D tc ws H.size)) av :=
  ⟨ctB_blind, fun U hU hW => ⟨rfl, by rw [hU], by rw [hU]; exact hP, va_K.moved hW.alike hK, hD.weaken (fun _ _ _ _ => trivial)⟩⟩
theorem P_mem {D : va_G} {cl : List vw_C} {ws : va_W} {H : Heap} : va_P D cl ws H ↔ ∀ q ∈ ws, va_at D cl q H := by
  refine ⟨fun h q hq => ?_, fun h k q hk => h q (List.mem_of_getElem? hk)⟩
  obtain ⟨k, hk⟩ := List.getElem?_of_mem hq
  exact h k q hk
theorem D_nil {A : Nat → Prop} : va_D A [] := ⟨fun i j p q h => by (simp at h), fun k q h => by (simp at h)⟩
theorem D_cons {A : Nat → Prop} {x : Nat × va_E} {ws : va_W} : va_D A (x :: ws) ↔ A x.1 ∧ (∀ q ∈ ws, ¬ q.1 = x.1) ∧ va_D A ws := by
  constructor
  · rintro ⟨h1, h2⟩
    refine ⟨h2 0 x rfl, fun q hq e => ?_, fun i j p q hi hj e => ?_, fun k q hk => h2 (k + 1) q hk⟩
    · obtain ⟨k, hk⟩ := List.getElem?_of_mem hq
      have := h1 (k + 1) 0 q x hk rfl e
      omega
    · have := h1 (i + 1) (j + 1) p q hi hj e
      omega
  · rintro ⟨h0, h1, h2⟩
    refine ⟨fun i j p q hi hj e => ?_, fun k q hk => ?_⟩
    · cases i with
      | zero =>
        cases j with
        | zero => rfl
        | succ j =>
          have ep : x = p := Option.some.inj hi
          subst ep
          exact absurd e.symm (h1 q (List.mem_of_getElem? (i := j) hj))
      | succ i =>
        cases j with
        | zero =>
          have ep : x = q := Option.some.inj hj
          subst ep
          exact absurd e (h1 p (List.mem_of_getElem? (i := i) hi))
        | succ j => exact congrArg (· + 1) (h2.1 i j p q hi hj e)
    · cases k with
      | zero =>
        have ep : x = q := Option.some.inj hk
        subst ep
        exact h0
      | succ k => exact h2.2 k q hk
theorem D_app {A : Nat → Prop} {u v : va_W} : va_D A (u ++ v) ↔ va_D A u ∧ va_D A v ∧ ∀ x ∈ u, ∀ y ∈ v, ¬ y.1 = x.1 := by
  induction u with
  | nil => exact ⟨fun h => ⟨D_nil, h, fun x hx => by cases hx⟩, fun h => h.2.1⟩
  | cons x u ih =>
    rw [List.cons_append, D_cons, D_cons, ih]
    constructor
    · rintro ⟨h1, h2, h3, h4, h5⟩
      refine ⟨⟨h1, fun q hq => h2 q (List.mem_append_left _ hq), h3⟩, h4, fun z hz y hy => ?_⟩
      rcases List.mem_cons.mp hz with rfl | hz
      · exact h2 y (List.mem_append_right _ hy)
      · exact h5 z hz y hy
    · rintro ⟨⟨h1, h2, h3⟩, h4, h5⟩
      refine ⟨h1, fun q hq => ?_, h3, h4, fun z hz y hy => h5 z (List.mem_cons_of_mem _ hz) y hy⟩
      rcases List.mem_append.mp hq with hq | hq
      · exact h2 q hq
      · exact h5 x List.mem_cons_self q hq
theorem D_perm {A : Nat → Prop} {u v : va_W} (p : u.Perm v) : va_D A u → va_D A v := by
  induction p with
  | nil => exact id
  | cons x p ih =>
    intro h
    rw [D_cons] at h ⊢
    exact ⟨h.1, fun q hq => h.2.1 q (p.mem_iff.mpr hq), ih h.2.2⟩
  | swap x y w =>
    intro h
    rw [D_cons, D_cons] at h ⊢
    obtain ⟨h1, h2, h3, h4, h5⟩ := h
    refine ⟨h3, fun q hq => ?_, h1, fun q hq => h2 q (List.mem_cons_of_mem _ hq), h5⟩
    rcases List.mem_cons.mp hq with rfl | hq
    · exact fun e => h2 x List.mem_cons_self e.symm
    · exact h4 q hq
  | trans _ _ i1 i2 => exact fun h => i2 (i1 h)
theorem P_perm {D : va_G} {cl : List vw_C} {u v : va_W} {H : Heap} (p : u.Perm v) (h : va_P D cl u H) : va_P D cl v H := P_mem.mpr (fun q hq => P_mem.mp h q (p.mem_iff.mpr hq))
theorem P_app {D : va_G} {cl : List vw_C} {u v : va_W} {H : Heap} : va_P D cl (u ++ v) H ↔ va_P D cl u H ∧ va_P D cl v H := by
  rw [P_mem, P_mem, P_mem]
  exact ⟨fun h => ⟨fun q hq => h q (List.mem_append_left _ hq), fun q hq => h q (List.mem_append_right _ hq)⟩, fun h q hq => (List.mem_append.mp hq).elim (h.1 q) (h.2 q)⟩
/-- behind a call that had a part of the world -/
theorem ct_join {A : Nat → Prop} {D : va_G} {cl : List vw_C} {wc wr w1 : va_W} {H H1 : Heap} (hP : va_P D cl (wc ++ wr) H) (hD : va_D A (wc ++ wr)) (hk1 : ∀ q : Nat, q < H.size → ¬ va_A wc H.size q → H1[q]? = H[q]?) (hF : ∀ q, va_A wc H.size q → A q) (hP1 : va_P D cl w1 H1) (hD1 : va_D (va_A wc H.size) w1) : va_P D cl (w1 ++ wr) H1 ∧ va_D A (w1 ++ wr) := by
  obtain ⟨p1, p2⟩ := P_app.mp hP
  obtain ⟨d1, d2, d3⟩ := D_app.mp hD
  have lt : ∀ y ∈ wr, y.1 < H.size ∧ ¬ va_A wc H.size y.1 := by
    intro y hy
    obtain ⟨k, hk⟩ := List.getElem?_of_mem hy
    have hl := (p2 k y hk).lt
    refine ⟨hl, fun h => ?_⟩
    rcases h with ⟨k', e', h⟩ | h
    · exact d3 _ (List.mem_of_getElem? h) y hy rfl
    · omega
  refine ⟨P_app.mpr ⟨hP1, p2.kept (fun k q hk => ?_)⟩, D_app.mpr ⟨hD1.weaken (fun _ q _ h => hF _ h), d2, fun x hx y hy e => ?_⟩⟩
  · obtain ⟨h1, h2⟩ := lt q (List.mem_of_getElem? hk)
    exact hk1 _ h1 h2
  · obtain ⟨k, hk⟩ := List.getElem?_of_mem hx
    have := hD1.2 k x hk
    rw [← e] at this
    exact (lt y hy).2 this
theorem ct_free {A : Nat → Prop} {wc wr : va_W} {H0 H : Heap} {locs : List Loc} (hD : va_D A (wc ++ wr)) (hS : va_S A H0 H locs) (hA : ∀ q : Nat, H0.size ≤ q → A q) : ∀ q, va_A wc H.size q → A q := by
  intro q h
  rcases h with ⟨k, e1, h⟩ | h
  · exact (D_app.mp hD).1.2 k _ h
  · exact hA q (Nat.le_trans hS.1 h)
set_option maxHeartbeats 4000000 in
set_option maxRecDepth 100000 in
/-- Arrays.fill of one array -/
theorem fill1 (l : Launch) (D : va_G) (tc : Nat → ClassId) (h0 n sz : Nat) (x : Int32) (hn : n ≤ 4096) (f0 : Nat → Int32) : Met l yA_fill (Cond.code yA_fill prog_22_method_103_code 4 none :: lw_g) { frames := 0, cells := 0, slots := 0, locals := 0 } (va_Pc [.ref h0, .int x] (ctB D tc [(h0, .inl (tc 0, n, .inl f0))] sz))
    (va_Qv (S := Unit) (fun _ => True) (fun _ t => va_P D vwCl [(h0, .inl (tc 0, n, .inl (fun _ => x)))] t.heap ∧ va_D (va_A [(h0, .inl (tc 0, n, .inl f0))] sz) [(h0, .inl (tc 0, n, .inl (fun _ => x)))]) (va_A [(h0, .inl (tc 0, n, .inl f0))] sz)) 0 0 (va_A [(h0, .inl (tc 0, n, .inl f0))] sz) := by
  refine Met.ofW (cc := prog_22_method_103_code) (maxL := 4) (ret := none) (by decide +kernel) rfl ?_
  intro p e s m args below meth c s₁ B hml hv
  obtain ⟨rfl, hsz, hP, hK, hD0⟩ := hv
  have hx := B.exec
  have hb := B.bytes
  have hret := B.returns
  have hlocks := B.notSynchronized
  subst hsz
  have hD := hD0.self (sz := s.heap.size)
  generalize hAe : va_A [(h0, .inl (tc 0, n, .inl f0))] s.heap.size = A at hD ⊢
  have hA : ∀ q : Nat, s.heap.size ≤ q → A q := fun q h => by rw [← hAe]; exact Or.inr h
  have hS : va_S A s.heap s.heap [] := va_S.rf
  have hl := lv_entry ([.ref h0, .int x]) (n := 4) (Nat.le_of_ble_eq_true rfl)
  rw [lg_entry_eq]
  generalize (lg_sl ([.ref h0, .int x]) ++ List.replicate (4 - (lg_sl ([.ref h0, .int x])).length) Slot.unset).toArray = ls at hl ⊢
  have hl : lv_has ls 4 [(0, .ref h0), (1, .int x)] := hl
  have hn31 : n < 2 ^ 31 := by omega
  refine lv_iconst (v := 0) hx hb dA_0 (by decide) ?_
  refine lv_istore_n (lv' := [(2, .int 0), (0, .ref h0), (1, .int x)]) hx hb dA_1 rfl hl (by decide) rfl (fun ls hl => ?_)
  refine lv_aload_n hx hb dA_2 rfl (lv_at hl 1 rfl) ?_
  refine va_alen (v := nI n) hx hb hK hP 0 0 rfl rfl rfl dA_3 ?_
  refine lv_istore_n (lv' := [(3, .int (nI n)), (2, .int 0), (0, .ref h0), (1, .int x)]) hx hb dA_4 rfl hl (by decide) rfl (fun ls hl => ?_)
  have loop : ∀ (g k : Nat) (f : Nat → Int32) (H : Heap) (locs : List Loc) (ls : Array Slot), n ≤ k + g → k ≤ n → (∀ i, i < k → f i = x) → va_P D vwCl [(h0, .inl (tc 0, n, .inl f))] H → va_D A [(h0, .inl (tc 0, n, .inl f))] → va_S A s.heap H locs → lv_has ls 4 [(2, .int (nI k)), (3, .int (nI n)), (0, .ref h0), (1, .int x)] →
      W p l e (headSpec (Cond.code yA_fill prog_22_method_103_code 4 none :: lw_g) { frames := 0, cells := 0, slots := 0, locals := 0 }).room s m [.ref h0, .int x].toArray below meth c H locs 0 0 (MQ below (va_Qv (S := Unit) (fun _ => True) (fun _ t => va_P D vwCl [(h0, .inl (tc 0, n, .inl (fun _ => x)))] t.heap ∧ va_D A [(h0, .inl (tc 0, n, .inl (fun _ => x)))]) A) [.ref h0, .int x].toArray s 0 0 A) (F0 m 5 ls []) := by
    intro g
    induction g with
    | zero =>
      intro k f H locs ls h1 h2 h3 hP hD hS hl
      have e : k = n := by omega
      subst e
      refine lv_iload_n hx hb dA_5 rfl (lv_at hl 0 rfl) ?_
      refine lv_iload_n hx hb dA_6 rfl (lv_at hl 1 rfl) ?_
      refine lv_icmp_ge (tgt := 20) hx hb dA_7 (by decide) (fun _ => ?_) (fun q => absurd (Int32.le_refl _) q)
      refine W.vret hx hb hret (fun t ht hW => ⟨⟨(), rfl, trivial, ?_, D_cons.mpr ⟨(D_cons.mp hD).1, fun q hq => by (cases hq), D_nil⟩⟩, hS.F ht⟩) hS.2.2 dA_20
      rw [ht]
      intro i q hi
      cases i with
      | succ i => cases hi
      | zero =>
        cases hi
        have h : H[h0]? = some (vp_cell (tc 0) (k, .inl f)) := hP 0 _ rfl
        show H[h0]? = some (vp_cell (tc 0) (k, .inl (fun _ => x)))
        rw [h, vp_cell_i, vp_cell_i]
        unfold arrV
        congr 3
        funext i
        show Value.int (f i.val) = Value.int x
        rw [h3 i.val i.isLt]
    | succ g ih =>
      intro k f H locs ls h1 h2 h3 hP hD hS hl
      by_cases hkn : k = n
      · exact ih k f H locs ls (by omega) h2 h3 hP hD hS hl
      have hkn : k < n := by omega
      refine lv_iload_n hx hb dA_5 rfl (lv_at hl 0 rfl) ?_
      refine lv_iload_n hx hb dA_6 rfl (lv_at hl 1 rfl) ?_
      refine lv_icmp_ge (tgt := 20) hx hb dA_7 (by decide) (fun q => absurd q (nI_ge hkn hn31)) (fun _ => ?_)
      refine lv_aload_n hx hb dA_10 rfl (lv_at hl 2 rfl) ?_
      refine lv_iload_n hx hb dA_11 rfl (lv_at hl 0 rfl) ?_
      refine lv_iload_n hx hb dA_12 rfl (lv_at hl 3 rfl) ?_
      refine va_iast hx hb hK hP hD hS 0 0 rfl rfl (vp_in_nI hkn hn31) dA_13 (fun H1 locs1 hP1 hD1 hS1 => ?_)
      refine lv_iinc (v := nI (k + 1)) (lv' := [(2, .int (nI (k + 1))), (3, .int (nI n)), (0, .ref h0), (1, .int x)]) hx hb dA_14 hl (k := 0) rfl (nI_1 k) (by decide) rfl (fun ls hl => ?_)
      refine lv_goto (tgt := 5) hx hb dA_17 (by decide) ?_
      refine ih (k + 1) (upd f (nI k).toNatClampNeg x) H1 locs1 ls (by omega) hkn (fun i hi => ?_) hP1 hD1 hS1 hl
      rw [nI_clamp (by omega)]
      unfold upd
      by_cases hi2 : i = k
      · rw [if_pos hi2]
      · rw [if_neg hi2]; exact h3 i (by omega)
  exact loop n 0 f0 s.heap [] ls (by omega) (Nat.zero_le _) (fun i hi => absurd hi (Nat.not_lt_zero _)) hP hD hS (lv_sub hl [1, 0, 2, 3] rfl)
