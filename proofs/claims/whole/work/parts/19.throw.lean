/-! methods of the face: they return, or throw -/
def lt_xs : List String := ["java/lang/RuntimeException", "java/lang/Exception"]
def sm_xw : List Cond := [.declares ⟨"java/lang/RuntimeException", "<init>", "(Ljava/lang/String;)V"⟩, .declares ⟨"java/lang/Exception", "<init>", "(Ljava/lang/String;)V"⟩, .declares ⟨"java/lang/Throwable", "<init>", "(Ljava/lang/String;)V"⟩, .castable "java/lang/IndexOutOfBoundsException" "java/lang/IndexOutOfBoundsException", .castable "java/lang/IllegalArgumentException" "java/lang/IllegalArgumentException", .castable "java/lang/IllegalStateException" "java/lang/IllegalStateException"]
theorem sm_xw_on : ∀ w ∈ sm_xw, w.onTables = true := by decide +kernel
theorem sm_xw_warm {s U : State} (hW : s.WarmedH U.vm) : ∀ w ∈ sm_xw, va_Nw w s → va_Nw w U := by
  intro w hw h
  simp only [sm_xw, List.mem_cons, List.not_mem_nil, or_false] at hw
  rcases hw with rfl | rfl | rfl | rfl | rfl | rfl
  · exact va_Nw.warmD hW h
  · exact va_Nw.warmD hW h
  · exact va_Nw.warmD hW h
  · exact va_Nw.warmC hW h
  · exact va_Nw.warmC hW h
  · exact va_Nw.warmC hW h
/-- what a throw stands on -/
def sm_PT (A : Nat → Prop) (U : State) (H : Heap) : Prop := (∀ w ∈ sm_xw, va_Nw w U) ∧ vx_Zq Bundle.tN "UNASSIGNED_STACK" Bundle.steD A U H ∧ vx_Zq Bundle.tN "SUPPRESSED_SENTINEL" Bundle.listD A U H ∧ ∀ k tx, lt_tx k = some tx → ∃ sa, vk_R RX9 k tx sa U
theorem sm_PT.warm {A : Nat → Prop} {s U : State} {H : Heap} (hW : s.WarmedH U.vm) (h : sm_PT A s H) : sm_PT A U H := by
  obtain ⟨h1, h2, h3, h4⟩ := h
  refine ⟨fun w hw => sm_xw_warm hW w hw (h1 w hw), vx_Zq.moved hW.alike h2, vx_Zq.moved hW.alike h3, fun k tx ht => ?_⟩
  obtain ⟨sa, h⟩ := h4 k tx ht
  exact ⟨sa, vk_R.warm hW h⟩
theorem sm_PT.same {A : Nat → Prop} {u U : State} {H : Heap} (hv : u.vm = U.vm) (h : sm_PT A u H) : sm_PT A U H := by
  obtain ⟨h1, h2, h3, h4⟩ := h
  refine ⟨fun w hw => va_Nw.same (sm_xw_on w hw) hv (h1 w hw), vx_Zq.moved (by rw [← hv]; exact Vm.Alike.refl _) h2, vx_Zq.moved (by rw [← hv]; exact Vm.Alike.refl _) h3, fun k tx ht => ?_⟩
  obtain ⟨sa, h⟩ := h4 k tx ht
  exact ⟨sa, vk_R.same hv.symm h⟩
theorem sm_PT.kept {A : Nat → Prop} {U : State} {H H1 : Heap} (h : sm_PT A U H) (hq : ∀ a : Nat, a < H.size → ¬ A a → H1[a]? = H[a]?) : sm_PT A U H1 := ⟨h.1, vx_Zq.kept h.2.1 hq, vx_Zq.kept h.2.2.1 hq, h.2.2.2⟩
theorem sm_PT.narrow {A B : Nat → Prop} {U : State} {H : Heap} (h : sm_PT A U H) (hAB : ∀ q, B q → A q) : sm_PT B U H := ⟨h.1, vx_Zq.narrow h.2.1 hAB, vx_Zq.narrow h.2.2.1 hAB, h.2.2.2⟩
def sm_BX (D : va_G) (tc : Nat → ClassId) (ad : Nat × Nat × Nat → Nat) (M : sm_M) (sz : Nat) : State → Prop := fun U => sm_B D tc ad M sz U ∧ sm_PT (va_A (sm_W tc ad M) sz) U U.heap
theorem sm_BX_blind {D : va_G} {tc : Nat → ClassId} {ad : Nat × Nat × Nat → Nat} {M : sm_M} {sz : Nat} {av : List Value} : FrameBlind (va_Pc av (sm_BX D tc ad M sz)) := by
  intro a U g mk q
  obtain ⟨q0, q1, q2⟩ := q
  have h1 := sm_B_blind (av := av) a U g mk ⟨q0, q1⟩
  exact ⟨q0, h1.2, sm_PT.same (u := U) (U := U.calling g mk a) rfl q2⟩
def sm_rmX (m : Nat) : Room := { frames := (lt_fl m).1, cells := 1, slots := 6, locals := (lt_fl m).2 }
def sm_QX (D : va_G) (tc : Nat → ClassId) (ad : Nat × Nat × Nat → Nat) (R : sm_R) (A : Nat → Prop) : Array Value → State → Outcome → State → Prop := va_Qi (S := Unit) (fun r _ => R.1 = 0 ∧ R.2.1 = .inl r) (sm_T D tc ad R.2.2) A
def sm_XC (D : va_G) (tc : Nat → ClassId) (ad : Nat × Nat × Nat → Nat) (R : sm_R) (A : Nat → Prop) : String → State → State → Prop := vx_X (S := Unit) (fun _ => True) (fun E _ t => (∃ e, R.1 = e + 1 ∧ E = lt_xn e) ∧ va_P D vwCl (sm_W tc ad R.2.2) t.heap) A
def sm_MetX (l : Launch) (D : va_G) (tc : Nat → ClassId) (ad : Nat × Nat × Nat → Nat) (m : Nat) (a : List sm_v) (M : sm_M) (R : sm_R) : Prop :=
  ∀ sz, vx_Met l (lt_y m) (sm_ws m) (sm_rmX m) (va_Pc (a.map (sm_t ad)) (sm_BX D tc ad M sz)) (sm_QX D tc ad R (va_A (sm_W tc ad M) sz)) (sm_XC D tc ad R (va_A (sm_W tc ad M) sz)) 1 6 (va_A (sm_W tc ad M) sz)
def lt_xkn (e : Nat) : Nat × Nat × String := ((lt_xk e).1, (lt_xk e).2, lt_xn e)
/-- the words of each throw -/
theorem sm_xfacts : ∀ e, e < 3 → Bundle.fit (lt_xn e) = true ∧ (∀ n ∈ lt_xs, Bundle.fit n = true) ∧ Cond.classLink RX9 (lt_xk e).1 (lt_xn e) ∈ lw_g ∧ Cond.initialized (lt_xn e) ∈ lw_g ∧ (∀ w ∈ (vx_atS RX9 (lt_xk e).2 (lt_xn e) lt_xs).filter goodWord, w ∈ lw_g) ∧ (∀ w ∈ (vx_atS RX9 (lt_xk e).2 (lt_xn e) lt_xs).filter (fun w => !goodWord w), w ∈ sm_xw) ∧ (∀ w ∈ Cond.classLink RX9 (lt_xk e).1 (lt_xn e) :: Cond.initialized (lt_xn e) :: vx_atS RX9 (lt_xk e).2 (lt_xn e) lt_xs, vx_ot w = true) := by
  intro e he
  match e, he with
  | 0, _ => decide +kernel
  | 1, _ => decide +kernel
  | 2, _ => decide +kernel
theorem lt_xk_lt (e : Nat) : ∃ e', e' < 3 ∧ lt_xk e' = lt_xk e ∧ lt_xn e' = lt_xn e := by
  match e with
  | 0 => exact ⟨0, by omega, rfl, rfl⟩
  | 1 => exact ⟨1, by omega, rfl, rfl⟩
  | 2 => exact ⟨2, by omega, rfl, rfl⟩
  | e + 3 => exact ⟨2, by omega, rfl, rfl⟩
theorem sm_soundX (hAll : ∀ m, m < 263 → sm_FitM m) {l : Launch} (hlt : l.stackTraces = false) {D : va_G} {tc : Nat → ClassId} {ad : Nat × Nat × Nat → Nat} (hF : sm_MetF l D tc ad) (sc : Nat × (Nat → Int32)) {m0 : Nat} (hm : m0 < 263) (hR9 : lt_R m0 = RX9) (hrk1 : lt_r m0 = some .int ∨ lt_r m0 = some .boolean) (hfl : 6 ≤ (lt_fl m0).1 ∧ 82 ≤ (lt_fl m0).2) {n : Nat} {a : List sm_v} {M : sm_M} {r : sm_R} (hr : sm_run (lt_P sc) n m0 0 a [] M = some r) (oa : sm_oks false a) : sm_MetX l D tc ad m0 a M r := by
  cases n with
  | zero => cases hr
  | succ n =>
    obtain ⟨hml0, -⟩ := sm_run_F hm hr
    have hcats : sm_cats a ≤ lt_n m0 := Nat.le_of_ble_eq_true hml0
    obtain ⟨g1, g2, g3, g4, g5⟩ := sm_mb_spec (sm_mb_all m0 hm)
    intro sz
    refine vx_ofW (cc := lt_b m0) (maxL := lt_n m0) (ret := lt_r m0) g1 rfl ?_
    intro p e s m args below meth c s₁ B hml hex hv
    obtain ⟨rfl, ⟨hsz, hP, hK, hD0, hN⟩, hPT⟩ := hv
    have hx := B.exec
    have hb := B.bytes
    have hret := B.returns
    have hts := atoms_spec (ws := sm_ws m0) B.pre
    have hown : s.vm.findClass (lt_R m0) = some m.cls := by rw [lt_R_cls m0 hm]; exact findClass_of_methodNamed B.named
    have hlocks := B.notSynchronized
    subst hsz
    have hD := sm_D_all (D := D) (sz := s.heap.size) hD0
    have hts2 : ∀ w ∈ lw_g, w.before (a.map (sm_t ad)).toArray s = true := fun w hw => hts w (List.mem_cons_of_mem _ hw)
    have X : sm_Cx p s m (a.map (sm_t ad)).toArray c (lt_b m0) (lt_n m0) (lt_R m0) D tc ad (va_A (sm_W tc ad M) s.heap.size) s.heap sc false := ⟨hx, hb, hml, hown, hts2, hK, hD, hN, fun q h => Or.inr h, fun h => by cases h⟩
    have hl := lv_entry (a.map (sm_t ad)) (n := lt_n m0) (by rw [lg_sl_len]; exact hcats)
    rw [lg_entry_eq]
    rw [lv_args_ent] at hl
    have hE : ∀ pc ls st M', sm_End (lt_r m0) (lt_b m0) pc st M' r → sm_oks false st → sm_SW D tc ad (va_A (sm_W tc ad M) s.heap.size) s.heap (lt_n m0) (sm_KW p l e (headSpec (sm_ws m0) (sm_rmX m0)).room s m (a.map (sm_t ad)).toArray below meth c 0 0 (vx_MQ below (sm_QX D tc ad r (va_A (sm_W tc ad M) s.heap.size)) (sm_XC D tc ad r (va_A (sm_W tc ad M) s.heap.size)) (a.map (sm_t ad)).toArray s 1 6 (va_A (sm_W tc ad M) s.heap.size))) pc ls st M' := by
      intro pc ls st M' hend o2 H locs la hP hS hl
      rcases hend with ⟨x, rfl, rfl, hd, hret1⟩ | ⟨x, rfl, rfl, hd, hret1⟩ | ⟨x, C1, rfl, rfl, hd, hret1⟩ | ⟨rfl, rfl, hd, hret1⟩ | ⟨e1, ix, is1, ic1, tx1, rfl, rfl, hd, d3, d4, d6, d9, hxk, htx⟩
      · refine W.widen (k := 1) (n := 6) (by omega) (by omega) ?_
        rcases hret1 with hret1 | ⟨hret1, hx01⟩
        · rw [hret1] at hret
          exact vx_ret (W.iret hx hb hret (fun t ht hW => ⟨⟨x, (), rfl, ⟨rfl, rfl⟩, by show va_P _ _ _ t.heap; rw [ht]; exact hP⟩, hS.F ht⟩) hS.2.2 hd)
        · rw [hret1] at hret
          refine vx_ret (W.zret (ty := .boolean) hx hb hret ?_ (fun t ht hW => ⟨⟨x, (), rfl, ⟨rfl, rfl⟩, by show va_P _ _ _ t.heap; rw [ht]; exact hP⟩, hS.F ht⟩) hS.2.2 hd)
          rcases hx01 with rfl | rfl <;> rfl
      · rcases hrk1 with q | q <;> rw [q] at hret1 <;> cases hret1
      · rcases hrk1 with q | q <;> rw [q] at hret1 <;> cases hret1
      · rcases hrk1 with q | q <;> rw [q] at hret1 <;> cases hret1
      · obtain ⟨e2, he2, hk2, hn2⟩ := lt_xk_lt e1
        obtain ⟨x1, x2, x3, x4, x5, x6, x7⟩ := sm_xfacts e2 he2
        rw [hk2, hn2] at x3 x5 x6 x7
        rw [hn2] at x1 x4
        rw [hxk] at x3 x5 x6 x7
        obtain ⟨sa, hstr⟩ := hPT.2.2.2 _ _ htx
        have hown9 : s.vm.findClass RX9 = some m.cls := by rw [← hR9]; exact hown
        have hat : ∀ w ∈ vx_atS RX9 ic1 (lt_xn e1) lt_xs, w.before (a.map (sm_t ad)).toArray s = true := vx_hat (fun w hw => hts2 w (x5 w hw)) x6 (fun w hw => va_Nw.use (sm_xw_on w hw) (hPT.1 w hw))
        exact vx_throwS hx hb hlt hown9 x1 x2 (hts2 _ x3) (hts2 _ x4) hstr hat x7 hPT.2.1 hPT.2.2.1 hS (hl.1.trans hml.symm) hd d3 d4 d6 d9 (fun x hx => (hex x hx).elim) (by show 5 < (lt_fl m0).1; omega) (by show 0 + (13 * 3 + 43) ≤ (lt_fl m0).2; omega) (Nat.le_refl _) (Nat.le_refl _) hlocks
          (fun t hva hz hk => ⟨(), trivial, ⟨⟨e1, rfl, rfl⟩, fun k q hq => by
              have hlt := (hP k q hq).lt
              exact (hP k q hq).kept (hk q.1 hlt)⟩, ⟨Nat.le_trans hS.1 hz, fun q hq hnA => by rw [hk q (Nat.lt_of_lt_of_le hq hS.1)]; exact hS.2.1 q hq hnA⟩⟩) hS.2.2 (Nat.le_refl _) (Nat.le_refl _)
    have key := sm_frame hAll hm X hF ⟨Nat.le_refl _, Nat.le_refl _, Nat.zero_le _, Nat.zero_le _⟩ hE (n + 1) (fun k _ => sm_sound hAll hF sc k) 0 a [] M hr oa (fun v hv => by cases hv) s.heap [] _ hP va_S.rf hl
    rw [lt_pc_0 m0 hm] at key
    exact key
