/-! THE SMALL MACHINE IS SOUND: blocks and methods -/
section RUN
variable {p : Program} {l : Launch} {e : Env} {R : Room} {s : State} {m : MethodId} {args : Array Value} {below : List Frame} {meth : Method} {c : Code} {cells slots : Nat} {Q : State → Prop}
variable {cc : ByteArray} {nL : Nat} {own : String} {D : va_G} {tc : Nat → ClassId} {ad : Nat × Nat × Nat → Nat} {A : Nat → Prop} {H0 : Heap} {sc : Nat × (Nat → Int32)} {z : Bool}
/-- what the oracle of calls must keep -/
def sm_CO (l : Launch) (D : va_G) (tc : Nat → ClassId) (ad : Nat × Nat × Nat → Nat) (C : Nat → List sm_v → sm_M → Option sm_R) : Prop := ∀ (m : Nat) (a : List sm_v) (M : sm_M) (r : sm_R), m < 263 → C m a M = some r → r.1 = 0 → sm_oks false a → sm_Met l D tc ad m a M r
theorem sm_cl0_inv {C : Nat → List sm_v → sm_M → Option sm_R} {K : List sm_v → sm_M → Option sm_R} {m n rk rc : Nat} {st : List sm_v} {M : sm_M} {R0 : sm_R} (h : sm_cl0 C K m n rk rc st M = some R0) : ∃ a st1 r, sm_tk n [] st = some (a, st1) ∧ sm_cats st1 ≤ 8 ∧ a.all sm_ns = true ∧ C m a M = some r ∧ r.1 = 0 ∧ sm_rs rc (some r) K st1 rk = some R0 := by
  unfold sm_cl0 at h
  split at h
  · rename_i a st1 ht
    cases hb : (Nat.ble (sm_cats st1) 8 && a.all sm_ns) with
    | false => rw [hb] at h; cases h
    | true =>
      rw [hb] at h
      rw [Bool.and_eq_true] at hb
      cases hr : C m a M with
      | none => rw [hr] at h; rcases rk with _ | _ | _ | rk <;> cases h
      | some r =>
        rw [hr] at h
        refine ⟨a, st1, r, ht, Nat.le_of_ble_eq_true hb.1, hb.2, hr, ?_, h⟩
        obtain ⟨r0, rv, rM⟩ := r
        cases r0 with
        | zero => rfl
        | succ r0 => rcases rk with _ | _ | _ | rk <;> cases h
  · cases h
theorem sm_args_ok {z : Bool} {a a0 st1 st : List sm_v} (ha : st = a.reverse ++ st1) (o2 : sm_oks z st) (hn : a.all sm_ns = true) : sm_oks false a ∧ sm_oks z st1 := by
  subst ha
  refine ⟨fun v hv => ?_, fun v hv => o2 v (List.mem_append_right _ hv)⟩
  have h1 := o2 v (List.mem_append_left _ (List.mem_reverse.mpr hv))
  have h2 := List.all_eq_true.mp hn v hv
  rcases v with x | x | r
  · trivial
  · trivial
  · rcases h1 with h1 | ⟨-, rfl⟩
    · exact Or.inl h1
    · cases h2
theorem sm_mb_spec {m : Nat} (h : sm_mb m = true) : plainName (lt_y m).cls = true ∧ ((lt_y m).cls ≠ "java/lang/invoke/MethodHandle" ∧ (lt_y m).cls ≠ "java/lang/invoke/VarHandle") ∧ Cond.initialized (lt_y m).cls ∈ lw_g ∧ Cond.code (lt_y m) (lt_b m) (lt_n m) (lt_r m) ∈ lw_g ∧
    (((lt_pl m).1 = true ∧ Cond.static (lt_y m) ∈ lw_g ∧ (parseMethodDescriptor (lt_y m).desc).map (fun d => d.parameters.length) = some (lt_na m)) ∨ ((lt_pl m).1 = false ∧ Cond.instanceMethod (lt_y m) ∈ lw_g ∧ Cond.selects (lt_y m).cls (lt_y m) (lt_y m) ∈ lw_g ∧ (parseMethodDescriptor (lt_y m).desc).map (fun d => d.parameters.length + 1) = some (lt_na m))) := by
  unfold sm_mb at h
  rw [Bool.and_eq_true, Bool.and_eq_true, Bool.and_eq_true, Bool.and_eq_true] at h
  obtain ⟨⟨⟨⟨h1, h2⟩, h3⟩, h4⟩, h5⟩ := h
  refine ⟨h1, of_decide_eq_true h2, sm_wd_in h3, sm_wd_in h4, ?_⟩
  cases hs : (lt_pl m).1 with
  | true =>
    rw [hs] at h5
    dsimp only at h5
    rw [Bool.and_eq_true] at h5
    exact Or.inl ⟨rfl, sm_wd_in h5.1, of_decide_eq_true h5.2⟩
  | false =>
    rw [hs] at h5
    dsimp only at h5
    rw [Bool.and_eq_true, Bool.and_eq_true] at h5
    exact Or.inr ⟨rfl, sm_wd_in h5.1.1, sm_wd_in h5.1.2, of_decide_eq_true h5.2⟩
theorem sm_virt (X : sm_Cx p s m args c cc nL own D tc ad A H0 sc z) {C : Nat → List sm_v → sm_M → Option sm_R} (hC : sm_CO l D tc ad C) {K : List sm_v → sm_M → Option sm_R} {R0 : sm_R} {fr lo pc ix : Nat} {xs : List sm_v} {os : List Nat} (hR : fr ≤ R.frames ∧ lo ≤ R.locals ∧ cells ≤ R.cells ∧ slots ≤ R.slots)
    (hf : sm_fc own fr lo (.invokevirtual ix, xs, os) = true) (hdg : decode cc pc = .ok (.invokevirtual ix, 3)) {ls : sm_L} {st : List sm_v} {M : sm_M} (h : sm_iv os st (sm_cl lt_al C K os st M) = some R0) (o2 : sm_oks z st)
    (k : ∀ st M, K st M = some R0 → sm_oks z st → sm_SW D tc ad A H0 nL (sm_KW p l e R s m args below meth c cells slots Q) (pc + 3) ls st M) :
    sm_SW D tc ad A H0 nL (sm_KW p l e R s m args below meth c cells slots Q) pc ls st M := by
  obtain ⟨hx, hb, hml, hown, hts, hK, hD, hN, hA, hscr⟩ := X
  unfold sm_fc at hf
  split at hf
  · rename_i ix' m1 n1 rk1 rc1 w1 t1 os1 e1 e2
    cases e1
    have e2 : os = 0 :: m1 :: n1 :: rk1 :: rc1 :: w1 :: t1 :: os1 := e2
    subst e2
    rw [Bool.and_eq_true, Bool.and_eq_true, Bool.and_eq_true, Bool.and_eq_true, Bool.and_eq_true, Bool.and_eq_true, Bool.and_eq_true] at hf
    obtain ⟨⟨⟨⟨⟨⟨⟨f1, f2⟩, f4⟩, f5⟩, f6⟩, f7⟩, f8⟩, f9⟩ := hf
    have f2 := Nat.blt_eq.mp f2
    obtain ⟨g1, g2, g3, g4, g5⟩ := sm_mb_spec (sm_mb_all m1 f2)
    have f4 := hts _ (sm_wd_in f4)
    have f6 := Nat.eq_of_beq_eq_true f6
    have f7 := of_decide_eq_true f7
    have f8 := Nat.le_of_ble_eq_true f8
    have f9 := Nat.le_of_ble_eq_true f9
    have f5 : (lt_pl m1).1 = false := by
      cases hq : (lt_pl m1).1 with
      | false => rfl
      | true => rw [hq] at f5; cases f5
    rcases g5 with ⟨q, -⟩ | ⟨-, g5, g6, g7⟩
    · rw [f5] at q; cases q
    have h1 : (match sm_tk n1 [] st with
      | some (.inr (.inr (c, _, 0)) :: _, _) => bif Nat.beq c t1 then sm_cl0 C K m1 n1 rk1 rc1 st M else none
      | _ => none) = some R0 := h
    split at h1
    · rename_i c1 p1 a' st2 ht2
      cases hb1 : Nat.beq c1 t1 with
      | false => rw [hb1] at h1; cases h1
      | true =>
        rw [hb1] at h1
        have et := Nat.eq_of_beq_eq_true hb1
        subst et
        obtain ⟨a, st1, r, ht, hcat, hns, hr, hr0, hm⟩ := sm_cl0_inv h1
        rw [ht] at ht2
        cases ht2
        obtain ⟨a2, ea, est, elen⟩ := sm_tk_eq _ _ _ _ _ ht
        rw [List.append_nil] at ea
        subst ea
        obtain ⟨oa, ost⟩ := sm_args_ok (a0 := []) est o2 hns
        have hM := hC m1 _ M r f2 hr hr0 oa
        intro H locs la hP hS hl
        have hcl : ∃ q : vw_C, vwCl[c1]? = some q ∧ q.1 = (lt_y m1).cls := by
          cases hq : vwCl[c1]? with
          | none => rw [hq] at f1; cases f1
          | some q => rw [hq] at f1; exact ⟨q, rfl, of_decide_eq_true f1⟩
        obtain ⟨q, hq1, hq2⟩ := hcl
        have hmem : (c1, p1, 0) ∈ sm_ids := by
          rcases oa _ List.mem_cons_self with h | ⟨h, -⟩
          · exact h
          · cases h
        obtain ⟨q0, hq0, hw0⟩ := sm_W_at (tc := tc) (ad := ad) M hmem
        rw [sm_ce_o] at hw0
        have hrecv := va_recv hK hP hq1 hw0
        rw [hq2] at hrecv
        have hpre := sm_pre hK hD hN hP ((Sum.inr (Sum.inr (c1, p1, 0)) :: a').map (sm_t ad))
        have hn1 : n1 = a'.length + 1 := elen.symm
        have hpd : (parseMethodDescriptor (lt_y m1).desc).map (fun d => d.parameters.length) = some a'.length := by
          rw [f6, hn1] at g7
          cases hd : parseMethodDescriptor (lt_y m1).desc with
          | none => rw [hd] at g7; cases g7
          | some d =>
            rw [hd] at g7
            have g8 : d.parameters.length + 1 = a'.length + 1 := Option.some.inj g7
            show some d.parameters.length = some a'.length
            rw [Nat.add_right_cancel g8]
        have hrun := va_runV (p := p) (l := l) (e := e) (R := R) (below := below) (meth := meth) (locs := locs) (cells := cells) (slots := slots) (As := a'.map (sm_t ad)) (rest := st2.map (sm_t ad)) (b := ad (c1, p1, 0)) (n := a'.length) (index := ix) (C := (lt_y m1).cls) (g := F0 m pc la (st.map (sm_t ad))) ⟨hx, hb, hml, hown, hts⟩ (hM H.size)
          ⟨callB_of a'.length hts (lw_g_in (fun w hw => by rcases List.mem_cons.mp hw with rfl | hw; exact g4; exact hw)) rfl rfl rfl (hts _ g3) f4 ⟨g2.1, g2.2, hpd⟩ ⟨Nat.le_trans f8 hR.1, Nat.le_trans f9 hR.2.1⟩, hts _ g5, hts _ g6⟩
          ⟨hpre.1, hrecv, hpre.2⟩ rfl (by rw [List.length_map]) hl.1 (by rw [est]; simp [sm_t]) (lv_room (by rw [sm_cats_eq]; exact hcat)) hdg ⟨hR.2.2.1, hR.2.2.2⟩
        have hrk : (lt_rk m1).1 = rk1 := by rw [f7]
        rw [hrk] at hrun
        exact sm_after (rc := rc1) (M := M) (a := .inr (.inr (c1, p1, 0)) :: a') hD hA hS hl hrun hm ost k
    · cases h1
  all_goals first | cases hf | (rename_i e1 _; cases e1)
theorem sm_stat (X : sm_Cx p s m args c cc nL own D tc ad A H0 sc z) {C : Nat → List sm_v → sm_M → Option sm_R} (hC : sm_CO l D tc ad C) {K : List sm_v → sm_M → Option sm_R} {R0 : sm_R} {fr lo pc ix m1 n1 rk1 rc1 w1 : Nat} (hR : fr ≤ R.frames ∧ lo ≤ R.locals ∧ cells ≤ R.cells ∧ slots ≤ R.slots)
    (hf : (Nat.blt m1 263 && (sm_wd w1 (.methodLink own ix (lt_y m1)) || decide (Cond.methodLinkNest own ix (lt_y m1) "Lineartide" ∈ sm_nw)) && (lt_pl m1).1 && Nat.beq (lt_na m1) n1 && decide (lt_rk m1 = (rk1, rc1)) && Nat.ble ((lt_fl m1).1 + 1) fr && Nat.ble (8 + (lt_n m1 + 11) + (lt_fl m1).2) lo) = true)
    (hdg : decode cc pc = .ok (.invokestatic ix, 3)) {ls : sm_L} {st : List sm_v} {M : sm_M} (h : sm_cl0 C K m1 n1 rk1 rc1 st M = some R0) (o2 : sm_oks z st)
    (k : ∀ st M, K st M = some R0 → sm_oks z st → sm_SW D tc ad A H0 nL (sm_KW p l e R s m args below meth c cells slots Q) (pc + 3) ls st M) :
    sm_SW D tc ad A H0 nL (sm_KW p l e R s m args below meth c cells slots Q) pc ls st M := by
  obtain ⟨hx, hb, hml, hown, hts, hK, hD, hN, hA, hscr⟩ := X
  rw [Bool.and_eq_true, Bool.and_eq_true, Bool.and_eq_true, Bool.and_eq_true, Bool.and_eq_true, Bool.and_eq_true] at hf
  obtain ⟨⟨⟨⟨⟨⟨f2, f4⟩, f5⟩, f6⟩, f7⟩, f8⟩, f9⟩ := hf
  have f2 := Nat.blt_eq.mp f2
  obtain ⟨g1, g2, g3, g4, g5⟩ := sm_mb_spec (sm_mb_all m1 f2)
  have f6 := Nat.eq_of_beq_eq_true f6
  have f7 := of_decide_eq_true f7
  have f8 := Nat.le_of_ble_eq_true f8
  have f9 := Nat.le_of_ble_eq_true f9
  rcases g5 with ⟨-, g5, g7⟩ | ⟨q, -⟩
  · obtain ⟨a, st1, r, ht, hcat, hns, hr, hr0, hm⟩ := sm_cl0_inv h
    obtain ⟨a2, ea, est, elen⟩ := sm_tk_eq _ _ _ _ _ ht
    rw [List.append_nil] at ea
    subst ea
    obtain ⟨oa, ost⟩ := sm_args_ok (a0 := []) est o2 hns
    have hM := hC m1 _ M r f2 hr hr0 oa
    intro H locs la hP hS hl
    have hpre := sm_pre hK hD hN hP (a.map (sm_t ad))
    rw [f6, ← elen] at g7
    have hst : st.map (sm_t ad) = (a.map (sm_t ad)).reverse ++ st1.map (sm_t ad) := by rw [est]; simp
    have hgood : GoodIn lw_g (sm_ws m1) := lw_g_in (fun w hw => by rcases List.mem_cons.mp hw with rfl | hw; exact g4; exact hw)
    have hrk : (lt_rk m1).1 = rk1 := by rw [f7]
    rw [Bool.or_eq_true] at f4
    rcases f4 with f4 | f4
    · have f4 := hts _ (sm_wd_in f4)
      have hrun := va_runS (p := p) (l := l) (e := e) (R := R) (below := below) (meth := meth) (locs := locs) (cells := cells) (slots := slots) (As := a.map (sm_t ad)) (rest := st1.map (sm_t ad)) (n := a.length) (index := ix) (g := F0 m pc la (st.map (sm_t ad))) ⟨hx, hb, hml, hown, hts⟩ (hM H.size)
        ⟨callB_of a.length hts hgood rfl rfl rfl (hts _ g3) f4 ⟨g2.1, g2.2, g7⟩ ⟨Nat.le_trans f8 hR.1, Nat.le_trans f9 hR.2.1⟩, hts _ g5⟩
        hpre rfl (by rw [List.length_map]) hl.1 hst (lv_room (by rw [sm_cats_eq]; exact hcat)) hdg ⟨hR.2.2.1, hR.2.2.2⟩
      rw [hrk] at hrun
      exact sm_after (rc := rc1) hD hA hS hl hrun hm ost k
    · have f4 := hN _ (of_decide_eq_true f4)
      have hrun := va_runSN (p := p) (l := l) (e := e) (R := R) (below := below) (meth := meth) (locs := locs) (cells := cells) (slots := slots) (As := a.map (sm_t ad)) (rest := st1.map (sm_t ad)) (n := a.length) (index := ix) (host := "Lineartide") (g := F0 m pc la (st.map (sm_t ad))) ⟨hx, hb, hml, hown, hts⟩ (hM H.size)
        ⟨va_cnB a.length hts hgood rfl rfl rfl f4 (hts _ g3) ⟨g2.1, g2.2, g7⟩ ⟨Nat.le_trans f8 hR.1, Nat.le_trans f9 hR.2.1⟩, hts _ g5, trivial⟩
        hpre rfl (by rw [List.length_map]) hl.1 hst (lv_room (by rw [sm_cats_eq]; exact hcat)) hdg ⟨hR.2.2.1, hR.2.2.2⟩
      rw [hrk] at hrun
      exact sm_after (rc := rc1) hD hA hS hl hrun hm ost k
  · rw [q] at f5; cases f5
theorem sm_minw : Cond.static Lib.Math.min.name ∈ lw_g ∧ Cond.initialized "java/lang/Math" ∈ lw_g ∧ Cond.code Lib.Math.min.name Lib.Math.min.code 2 (some .int) ∈ lw_g ∧ Cond.static Lib.Math.max.name ∈ lw_g ∧ Cond.code Lib.Math.max.name Lib.Math.max.code 2 (some .int) ∈ lw_g := by decide +kernel
theorem sm_copyw : Cond.native arraycopyName ∈ lw_g ∧ Cond.static arraycopyName ∈ lw_g ∧ Cond.initialized "java/lang/System" ∈ lw_g := by decide +kernel
theorem sm_fillw : Cond.static yA_fill ∈ lw_g ∧ Cond.initialized "java/util/Arrays" ∈ lw_g ∧ Cond.code yA_fill prog_22_method_103_code 4 none ∈ lw_g := by decide +kernel
end RUN
