/-! the law's walk: segments, jumps, calls and the end -/
theorem lw_cdU {sc : Nat × (Nat → Int32)} {C : Nat → List sm_v → sm_M → Option sm_R} {J : Nat → List sm_v → List sm_v → sm_M → Option sm_R} : ∀ (k b : Nat) (ls : sm_L) (st : List sm_v) (M : sm_M), ct_Law_law b = false → sm_k lt_al sc C ct_Law_law lv_Law_law J cd_Law_law k b ls st M = sm_k lt_al sc C ct_Law_law lv_Law_law J cdU k b ls st M := by
  intro k
  induction k with
  | zero => intro b ls st M _; rfl
  | succ k ih =>
    intro b ls st M hb
    show sm_l lt_al sc C (sm_g ct_Law_law lv_Law_law J (sm_k lt_al sc C ct_Law_law lv_Law_law J cd_Law_law k)) (cd_Law_law b) ls st M = sm_l lt_al sc C (sm_g ct_Law_law lv_Law_law J (sm_k lt_al sc C ct_Law_law lv_Law_law J cdU k)) (cdU b) ls st M
    have eG : sm_g ct_Law_law lv_Law_law J (sm_k lt_al sc C ct_Law_law lv_Law_law J cd_Law_law k) = sm_g ct_Law_law lv_Law_law J (sm_k lt_al sc C ct_Law_law lv_Law_law J cdU k) := by
      funext b ls st M
      unfold sm_g
      cases hb : ct_Law_law b with
      | true => rfl
      | false => exact ih b ls st M hb
    have ec : cdU b = cd_Law_law b := by unfold cdU; rw [hb]; rfl
    rw [eG, ec]
/-- gone on with at one place alone -/
noncomputable def jmp (b' : Nat) (vs' st' : List sm_v) (M' : sm_M) : Nat → List sm_v → List sm_v → sm_M → Option sm_R := fun b vs st M => @ite _ (b = b' ∧ vs = vs' ∧ st = st' ∧ M = M') (Classical.propDecidable _) (some (0, .inl 1, M')) none
theorem jmp_y {b' : Nat} {vs' st' : List sm_v} {M' : sm_M} : jmp b' vs' st' M' b' vs' st' M' = some (0, .inl 1, M') := by
  unfold jmp
  rw [if_pos ⟨rfl, rfl, rfl, rfl⟩]
theorem jmp_i {b' b : Nat} {vs' st' vs st : List sm_v} {M' M : sm_M} {r : sm_R} (h : jmp b' vs' st' M' b vs st M = some r) : b = b' ∧ vs = vs' ∧ st = st' ∧ M = M' := by
  unfold jmp at h
  by_cases z : b = b' ∧ vs = vs' ∧ st = st' ∧ M = M'
  · exact z
  · rw [if_neg z] at h; cases h
section LWALK
variable {p : Program} {l : Launch} {e : Env} {s : State} {m : MethodId} {below : List Frame} {meth : Method} {c : Code} {cells slots : Nat} {b0 : Nat}
variable {D : va_G} {tc : Nat → ClassId} {ad : Nat × Nat × Nat → Nat} {sc : Nat × (Nat → Int32)}
abbrev lwA (s : State) : Nat → Prop := fun q => s.heap.size ≤ q
abbrev lwSW (p : Program) (l : Launch) (e : Env) (s : State) (m : MethodId) (below : List Frame) (meth : Method) (c : Code) (D : va_G) (tc : Nat → ClassId) (ad : Nat × Nat × Nat → Nat) (b0 cells slots pc : Nat) (ls : sm_L) (st : List sm_v) (M : sm_M) : Prop := sm_SW D tc ad (lwA s) s.heap 7 (sm_KW p l e room_1 s m #[Value.ref b0] below meth c cells slots (lw_Z below #[Value.ref b0] s)) pc ls st M
/-- what the walk rests on -/
def LX (p : Program) (l : Launch) (s : State) (m : MethodId) (meth : Method) (c : Code) (D : va_G) (tc : Nat → ClassId) (ad : Nat × Nat × Nat → Nat) (sc : Nat × (Nat → Int32)) (b0 : Nat) : Prop :=
  sm_Cx p s m #[Value.ref b0] c code 7 RL D tc ad (lwA s) s.heap sc true ∧ meth.sig.returnType = ret ∧ meth.locks = false ∧ l.stackTraces = false ∧ sm_PT (lwA s) s s.heap ∧ ∀ x y, x < 3 → y < 3 → x ≠ y → va_Nc (lt_xn x) (lt_xn y) s
theorem lw_wd {k n k' n' : Nat} {pc : Nat} {ls : sm_L} {st : List sm_v} {M : sm_M} (h1 : k ≤ k') (h2 : n ≤ n') (h : lwSW p l e s m below meth c D tc ad b0 k' n' pc ls st M) : lwSW p l e s m below meth c D tc ad b0 k n pc ls st M :=
  fun H locs la hP hS hl => W.widen h1 h2 (h H locs la hP hS hl)
theorem lw_fl : (lt_fl kLaw_law).1 ≤ room_1.frames ∧ (lt_fl kLaw_law).2 ≤ room_1.locals := by decide +kernel
theorem lw_CO (l : Launch) : sm_CO l D tc ad (fun m a M => sm_den (lt_P sc) m 0 a [] M) := by
  intro m a M r hm h h0 o
  obtain ⟨n, hn⟩ := sm_den_run h
  exact sm_sound fa_263 (sm_MetF_ok l D tc ad) sc n m a M r hm hn h0 o
theorem lw_E (L : LX p l s m meth c D tc ad sc b0) (hc : cells ≤ 601024) (hs : slots ≤ 7293034) {M' : sm_M} : ∀ pc ls st M, sm_End (some .boolean) code pc st M (0, .inl 1, M') → sm_oks true st → lwSW p l e s m below meth c D tc ad b0 cells slots pc ls st M := by
  intro pc ls st M h _
  obtain ⟨X, hr, hlk, -, -, -⟩ := L
  rcases h with ⟨x, rfl, hR, hd, -⟩ | ⟨x, rfl, hR, -, h⟩ | ⟨r, C, rfl, hR, -, h⟩ | ⟨rfl, hR, -, h⟩ | ⟨ex, ix, is, ic, tx, rfl, hR, -⟩
  · have e1 : (1 : Int32) = x := Sum.inl.inj (Prod.mk.inj (Prod.mk.inj hR).2).1
    subst e1
    intro H locs la hP hS hl
    refine va_forget (fun q hq => hS.2.2 q hq) (W.widen hc hs ?_)
    exact lw_ret X.1 X.2.1 hr hlk hd
  · cases h
  · cases h
  · cases h
  · exact absurd (Prod.mk.inj hR).1 (by omega)
theorem lw_G (L : LX p l s m meth c D tc ad sc b0) (hc : cells ≤ 601024) (hs : slots ≤ 7293034) {J : Nat → List sm_v → List sm_v → sm_M → Option sm_R} {M' : sm_M}
    (hJ : ∀ b vs st M, J (b + 1) vs st M = some (0, .inl 1, M') → sm_oks true vs → sm_oks true st → lwSW p l e s m below meth c D tc ad b0 cells slots (pc_Law_law (b + 1)) ((lv_Law_law (b + 1)).zip vs) st M) :
    ∀ (k b : Nat) (ls : sm_L) (st : List sm_v) (M : sm_M), sm_g ct_Law_law lv_Law_law J (sm_k lt_al sc (fun m a M => sm_den (lt_P sc) m 0 a [] M) ct_Law_law lv_Law_law J cd_Law_law k) b ls st M = some (0, .inl 1, M') → sm_okl true ls → sm_oks true st → lwSW p l e s m below meth c D tc ad b0 cells slots (pc_Law_law b) ls st M := by
  intro k b ls st M h o1 o2
  unfold sm_g at h
  cases hb : ct_Law_law b with
  | true =>
    rw [hb] at h
    cases b with
    | zero => cases h
    | succ b =>
      dsimp only at h
      cases hp : sm_pk (lv_Law_law (b + 1)) ls with
      | none => rw [hp] at h; cases h
      | some vs =>
        rw [hp] at h
        exact sm_SW_sub (sm_pk_mem _ _ hp) (hJ b vs st M h (sm_pk_ok o1 _ _ hp) o2)
  | false =>
    rw [hb] at h
    dsimp only at h
    rw [lw_cdU k b ls st M hb] at h
    exact sm_kk_ok L.1 (lw_CO l) (sm_MetF_ok l D tc ad) ⟨lw_fl.1, lw_fl.2, hc, hs⟩ (fun b _ => fitU b) hJ (lw_E L hc hs) k b ls st M h o1 o2
/-- a block without a catching call comes to where it jumps -/
theorem lw_K (L : LX p l s m meth c D tc ad sc b0) (hc : cells ≤ 601024) (hs : slots ≤ 7293034) {b b' : Nat} {vs st vs' st' : List sm_v} {M M' : sm_M} (hf : sm_fit RL 7 (lt_fl kLaw_law).1 (lt_fl kLaw_law).2 (some .boolean) code pc_Law_law (pc_Law_law b) (cd_Law_law b) = true)
    (h : ∀ J, LK sc J b vs st M = J b' vs' st' M') (o1 : sm_oks true vs) (o2 : sm_oks true st) (kk : lwSW p l e s m below meth c D tc ad b0 cells slots (pc_Law_law b') ((lv_Law_law b').zip vs') st' M') : lwSW p l e s m below meth c D tc ad b0 cells slots (pc_Law_law b) (sm_st0 lv_Law_law vs b) st M := by
  have h1 := (h (jmp b' vs' st' M')).trans jmp_y
  refine sm_l_ok L.1 (lw_CO l) (sm_MetF_ok l D tc ad) ⟨lw_fl.1, lw_fl.2, hc, hs⟩ (G := sm_g ct_Law_law lv_Law_law (jmp b' vs' st' M') (sm_k lt_al sc (fun m a M => sm_den (lt_P sc) m 0 a [] M) ct_Law_law lv_Law_law (jmp b' vs' st' M') cd_Law_law 39)) (lw_G L hc hs (fun b vs st M hj _ _ => ?_) 39) (lw_E L hc hs) (cd_Law_law b) (pc_Law_law b) _ st M hf h1 (sm_st0_ok o1 b) o2
  obtain ⟨rfl, rfl, rfl, rfl⟩ := jmp_i hj
  exact kk
theorem lw_T (L : LX p l s m meth c D tc ad sc b0) (hc : cells ≤ 601024) (hs : slots ≤ 7293034) {b b' : Nat} {vs st vs' st' : List sm_v} {M M' : sm_M} (hf : sm_fit RL 7 (lt_fl kLaw_law).1 (lt_fl kLaw_law).2 (some .boolean) code pc_Law_law (pc_Law_law b + 3) (cd_Law_law b).tail = true)
    (h : ∀ J, LT2 sc J b vs st M = J b' vs' st' M') (o1 : sm_oks true vs) (o2 : sm_oks true st) (kk : lwSW p l e s m below meth c D tc ad b0 cells slots (pc_Law_law b') ((lv_Law_law b').zip vs') st' M') : lwSW p l e s m below meth c D tc ad b0 cells slots (pc_Law_law b + 3) (sm_st0 lv_Law_law vs b) st M := by
  have h1 := (h (jmp b' vs' st' M')).trans jmp_y
  refine sm_l_ok L.1 (lw_CO l) (sm_MetF_ok l D tc ad) ⟨lw_fl.1, lw_fl.2, hc, hs⟩ (G := sm_g ct_Law_law lv_Law_law (jmp b' vs' st' M') (sm_k lt_al sc (fun m a M => sm_den (lt_P sc) m 0 a [] M) ct_Law_law lv_Law_law (jmp b' vs' st' M') cd_Law_law 39)) (lw_G L hc hs (fun b vs st M hj _ _ => ?_) 39) (lw_E L hc hs) (cd_Law_law b).tail (pc_Law_law b + 3) _ st M hf h1 (sm_st0_ok o1 b) o2
  obtain ⟨rfl, rfl, rfl, rfl⟩ := jmp_i hj
  exact kk
theorem lw_end (L : LX p l s m meth c D tc ad sc b0) (hc : cells ≤ 601024) (hs : slots ≤ 7293034) {b : Nat} {vs st : List sm_v} {M M' : sm_M} (hf : sm_fit RL 7 (lt_fl kLaw_law).1 (lt_fl kLaw_law).2 (some .boolean) code pc_Law_law (pc_Law_law b) (cd_Law_law b) = true)
    (h : ∀ J, LK sc J b vs st M = some (0, .inl 1, M')) (o1 : sm_oks true vs) (o2 : sm_oks true st) : lwSW p l e s m below meth c D tc ad b0 cells slots (pc_Law_law b) (sm_st0 lv_Law_law vs b) st M := by
  exact sm_l_ok L.1 (lw_CO l) (sm_MetF_ok l D tc ad) ⟨lw_fl.1, lw_fl.2, hc, hs⟩ (G := sm_g ct_Law_law lv_Law_law (fun _ _ _ _ => none) (sm_k lt_al sc (fun m a M => sm_den (lt_P sc) m 0 a [] M) ct_Law_law lv_Law_law (fun _ _ _ _ => none) cd_Law_law 39)) (lw_G L hc hs (fun b vs st M hj _ _ => by cases hj) 39) (lw_E L hc hs) (cd_Law_law b) (pc_Law_law b) _ st M hf (h _) (sm_st0_ok o1 b) o2
/-- a catching call -/
theorem lw_wrap (L : LX p l s m meth c D tc ad sc b0) (hc : cells + 1 ≤ 601024) (hs : slots + 6 ≤ 7293034) {kX idx pc n : Nat} {hh : List (Nat × Nat × Nat × Nat)} {as : List sm_v} {ls : sm_L} {M M1 : sm_M} {x2 : Int32} (hM : sm_MetW l D tc ad kX hh as M (0, .inl x2, M1))
    (hg : GoodIn lw_g (va_wsS RL idx (lt_y kX) (Cond.codeWith (lt_y kX) (lt_b kX) (lt_n kX) (some .int) hh :: lw_g))) (hd : (lt_y kX).cls ≠ "java/lang/invoke/MethodHandle" ∧ (lt_y kX).cls ≠ "java/lang/invoke/VarHandle" ∧ (parseMethodDescriptor (lt_y kX).desc).map (fun d => d.parameters.length) = some n)
    (hR : (lt_fl kX).1 + 1 ≤ room_1.frames ∧ 8 + (lt_n kX + 11) + (lt_fl kX).2 ≤ room_1.locals) (hn : as.length = n) (hdg : decode code pc = .ok (.invokestatic idx, 3)) (kk : lwSW p l e s m below meth c D tc ad b0 (cells + 1) (slots + 6) (pc + 3) ls [.inl x2] M1) :
    lwSW p l e s m below meth c D tc ad b0 cells slots pc ls as.reverse M := by
  obtain ⟨⟨hx, hb, hml, hown, hts, hK, hD, hN, hA, hscr⟩, hr, hlk, hlt, hPT, hNc⟩ := L
  intro H locs la hP hS hl
  have h0 := sm_preX hK hD hA hN hPT hS hP (as.map (sm_t ad))
  have hpre : PreS s H (va_Pc (as.map (sm_t ad)) (sm_BW D tc ad M H.size)) (as.map (sm_t ad)) := ⟨sm_BW_blind, fun U hU hW => ⟨rfl, (h0.2 U hU hW).2, fun x y hx hy hne => va_Nc.moved (u := s) (U := U) hW.alike (hNc x y hx hy hne)⟩⟩
  have hrun := vx_runSW (p := p) (l := l) (e := e) (R := room_1) (below := below) (meth := meth) (locs := locs) (cells := cells) (slots := slots) (As := as.map (sm_t ad)) (rest := []) (n := n) (index := idx) (g := F0 m pc la (as.reverse.map (sm_t ad))) ⟨hx, hb, hml, hown, hts⟩ (hM H.size) (vx_cwSW n hts hg rfl rfl rfl hd hR) hpre rfl (by rw [List.length_map]; exact hn) hl.1 (by rw [List.map_reverse, List.append_nil]) (lv_room (Nat.le_of_ble_eq_true rfl)) hdg ⟨hc, hs⟩
  have hF := sm_freeA hD hA hS M
  refine va_calli (S := Unit) (a := (as.map (sm_t ad)).toArray) hrun hS (fun q _ h => hF q h) hF (fun r u t H1 locs1 ht hvm hw hB hz1 hk1 hS1 => ?_)
  have hP1 : va_P D vwCl (sm_W tc ad M1) t.heap := hB
  rw [ht] at hP1
  have hw : x2 = r := Sum.inl.inj hw
  subst hw
  exact kk H1 locs1 la hP1 hS1 hl
end LWALK
theorem gw_step : GoodIn lw_g (va_wsS RL 82 (lt_y kLaw_step) (Cond.codeWith (lt_y kLaw_step) (lt_b kLaw_step) (lt_n kLaw_step) (some .int) [(0, 14, 17, 13), (0, 14, 21, 15), (0, 14, 25, 17)] :: lw_g)) := lw_g_in (fun w hw => by
  unfold va_wsS at hw
  simp only [List.mem_append, List.mem_cons, List.not_mem_nil, or_false] at hw
  have a1 : Cond.initialized (lt_y kLaw_step).cls ∈ lw_g := sm_wd_in (i := 107) (by decide +kernel)
  have a2 : Cond.methodLink RL 82 (lt_y kLaw_step) ∈ lw_g := sm_wd_in (i := 446) (by decide +kernel)
  have a3 : Cond.static (lt_y kLaw_step) ∈ lw_g := sm_wd_in (i := 447) (by decide +kernel)
  have a4 : Cond.codeWith (lt_y kLaw_step) (lt_b kLaw_step) (lt_n kLaw_step) (some .int) [(0, 14, 17, 13), (0, 14, 21, 15), (0, 14, 25, 17)] ∈ lw_g := sm_wd_in (i := 448) (by decide +kernel)
  rcases hw with hw | hw
  · rcases hw with rfl | rfl | rfl <;> assumption
  · rcases hw with rfl | hw
    · exact a4
    · exact hw)
theorem gw_channel : GoodIn lw_g (va_wsS RL 91 (lt_y kLaw_channel) (Cond.codeWith (lt_y kLaw_channel) (lt_b kLaw_channel) (lt_n kLaw_channel) (some .int) [(0, 12, 15, 13), (0, 12, 19, 15), (0, 12, 23, 17)] :: lw_g)) := lw_g_in (fun w hw => by
  unfold va_wsS at hw
  simp only [List.mem_append, List.mem_cons, List.not_mem_nil, or_false] at hw
  have a1 : Cond.initialized (lt_y kLaw_channel).cls ∈ lw_g := sm_wd_in (i := 107) (by decide +kernel)
  have a2 : Cond.methodLink RL 91 (lt_y kLaw_channel) ∈ lw_g := sm_wd_in (i := 576) (by decide +kernel)
  have a3 : Cond.static (lt_y kLaw_channel) ∈ lw_g := sm_wd_in (i := 577) (by decide +kernel)
  have a4 : Cond.codeWith (lt_y kLaw_channel) (lt_b kLaw_channel) (lt_n kLaw_channel) (some .int) [(0, 12, 15, 13), (0, 12, 19, 15), (0, 12, 23, 17)] ∈ lw_g := sm_wd_in (i := 578) (by decide +kernel)
  rcases hw with hw | hw
  · rcases hw with rfl | rfl | rfl <;> assumption
  · rcases hw with rfl | hw
    · exact a4
    · exact hw)
theorem gw_op : GoodIn lw_g (va_wsS RL 95 (lt_y kLaw_op) (Cond.codeWith (lt_y kLaw_op) (lt_b kLaw_op) (lt_n kLaw_op) (some .int) [(0, 14, 17, 13), (0, 14, 21, 15), (0, 14, 25, 17)] :: lw_g)) := lw_g_in (fun w hw => by
  unfold va_wsS at hw
  simp only [List.mem_append, List.mem_cons, List.not_mem_nil, or_false] at hw
  have a1 : Cond.initialized (lt_y kLaw_op).cls ∈ lw_g := sm_wd_in (i := 107) (by decide +kernel)
  have a2 : Cond.methodLink RL 95 (lt_y kLaw_op) ∈ lw_g := sm_wd_in (i := 636) (by decide +kernel)
  have a3 : Cond.static (lt_y kLaw_op) ∈ lw_g := sm_wd_in (i := 637) (by decide +kernel)
  have a4 : Cond.codeWith (lt_y kLaw_op) (lt_b kLaw_op) (lt_n kLaw_op) (some .int) [(0, 14, 17, 13), (0, 14, 21, 15), (0, 14, 25, 17)] ∈ lw_g := sm_wd_in (i := 638) (by decide +kernel)
  rcases hw with hw | hw
  · rcases hw with rfl | rfl | rfl <;> assumption
  · rcases hw with rfl | hw
    · exact a4
    · exact hw)
theorem gw_unop : GoodIn lw_g (va_wsS RL 98 (lt_y kLaw_unop) (Cond.codeWith (lt_y kLaw_unop) (lt_b kLaw_unop) (lt_n kLaw_unop) (some .int) [(0, 9, 12, 13), (0, 9, 15, 17)] :: lw_g)) := lw_g_in (fun w hw => by
  unfold va_wsS at hw
  simp only [List.mem_append, List.mem_cons, List.not_mem_nil, or_false] at hw
  have a1 : Cond.initialized (lt_y kLaw_unop).cls ∈ lw_g := sm_wd_in (i := 107) (by decide +kernel)
  have a2 : Cond.methodLink RL 98 (lt_y kLaw_unop) ∈ lw_g := sm_wd_in (i := 659) (by decide +kernel)
  have a3 : Cond.static (lt_y kLaw_unop) ∈ lw_g := sm_wd_in (i := 660) (by decide +kernel)
  have a4 : Cond.codeWith (lt_y kLaw_unop) (lt_b kLaw_unop) (lt_n kLaw_unop) (some .int) [(0, 9, 12, 13), (0, 9, 15, 17)] ∈ lw_g := sm_wd_in (i := 661) (by decide +kernel)
  rcases hw with hw | hw
  · rcases hw with rfl | rfl | rfl <;> assumption
  · rcases hw with rfl | hw
    · exact a4
    · exact hw)
theorem gw_check : GoodIn lw_g (va_wsS RL 102 (lt_y kLaw_check) (Cond.codeWith (lt_y kLaw_check) (lt_b kLaw_check) (lt_n kLaw_check) (some .int) [(0, 9, 12, 13)] :: lw_g)) := lw_g_in (fun w hw => by
  unfold va_wsS at hw
  simp only [List.mem_append, List.mem_cons, List.not_mem_nil, or_false] at hw
  have a1 : Cond.initialized (lt_y kLaw_check).cls ∈ lw_g := sm_wd_in (i := 107) (by decide +kernel)
  have a2 : Cond.methodLink RL 102 (lt_y kLaw_check) ∈ lw_g := sm_wd_in (i := 675) (by decide +kernel)
  have a3 : Cond.static (lt_y kLaw_check) ∈ lw_g := sm_wd_in (i := 676) (by decide +kernel)
  have a4 : Cond.codeWith (lt_y kLaw_check) (lt_b kLaw_check) (lt_n kLaw_check) (some .int) [(0, 9, 12, 13)] ∈ lw_g := sm_wd_in (i := 677) (by decide +kernel)
  rcases hw with hw | hw
  · rcases hw with rfl | rfl | rfl <;> assumption
  · rcases hw with rfl | hw
    · exact a4
    · exact hw)
theorem gw_error : GoodIn lw_g (va_wsS RL 105 (lt_y kLaw_error) (Cond.codeWith (lt_y kLaw_error) (lt_b kLaw_error) (lt_n kLaw_error) (some .int) [(0, 9, 12, 13)] :: lw_g)) := lw_g_in (fun w hw => by
  unfold va_wsS at hw
  simp only [List.mem_append, List.mem_cons, List.not_mem_nil, or_false] at hw
  have a1 : Cond.initialized (lt_y kLaw_error).cls ∈ lw_g := sm_wd_in (i := 107) (by decide +kernel)
  have a2 : Cond.methodLink RL 105 (lt_y kLaw_error) ∈ lw_g := sm_wd_in (i := 870) (by decide +kernel)
  have a3 : Cond.static (lt_y kLaw_error) ∈ lw_g := sm_wd_in (i := 871) (by decide +kernel)
  have a4 : Cond.codeWith (lt_y kLaw_error) (lt_b kLaw_error) (lt_n kLaw_error) (some .int) [(0, 9, 12, 13)] ∈ lw_g := sm_wd_in (i := 872) (by decide +kernel)
  rcases hw with hw | hw
  · rcases hw with rfl | rfl | rfl <;> assumption
  · rcases hw with rfl | hw
    · exact a4
    · exact hw)
theorem gw_borrower : GoodIn lw_g (va_wsS RL 108 (lt_y kLaw_borrower) (Cond.codeWith (lt_y kLaw_borrower) (lt_b kLaw_borrower) (lt_n kLaw_borrower) (some .int) [(0, 9, 12, 13), (0, 9, 15, 17)] :: lw_g)) := lw_g_in (fun w hw => by
  unfold va_wsS at hw
  simp only [List.mem_append, List.mem_cons, List.not_mem_nil, or_false] at hw
  have a1 : Cond.initialized (lt_y kLaw_borrower).cls ∈ lw_g := sm_wd_in (i := 107) (by decide +kernel)
  have a2 : Cond.methodLink RL 108 (lt_y kLaw_borrower) ∈ lw_g := sm_wd_in (i := 881) (by decide +kernel)
  have a3 : Cond.static (lt_y kLaw_borrower) ∈ lw_g := sm_wd_in (i := 882) (by decide +kernel)
  have a4 : Cond.codeWith (lt_y kLaw_borrower) (lt_b kLaw_borrower) (lt_n kLaw_borrower) (some .int) [(0, 9, 12, 13), (0, 9, 15, 17)] ∈ lw_g := sm_wd_in (i := 883) (by decide +kernel)
  rcases hw with hw | hw
  · rcases hw with rfl | rfl | rfl <;> assumption
  · rcases hw with rfl | hw
    · exact a4
    · exact hw)
theorem gw_holds : GoodIn lw_g (va_wsS RL 111 (lt_y kLaw_holds) (Cond.codeWith (lt_y kLaw_holds) (lt_b kLaw_holds) (lt_n kLaw_holds) (some .int) [(0, 12, 15, 13)] :: lw_g)) := lw_g_in (fun w hw => by
  unfold va_wsS at hw
  simp only [List.mem_append, List.mem_cons, List.not_mem_nil, or_false] at hw
  have a1 : Cond.initialized (lt_y kLaw_holds).cls ∈ lw_g := sm_wd_in (i := 107) (by decide +kernel)
  have a2 : Cond.methodLink RL 111 (lt_y kLaw_holds) ∈ lw_g := sm_wd_in (i := 893) (by decide +kernel)
  have a3 : Cond.static (lt_y kLaw_holds) ∈ lw_g := sm_wd_in (i := 894) (by decide +kernel)
  have a4 : Cond.codeWith (lt_y kLaw_holds) (lt_b kLaw_holds) (lt_n kLaw_holds) (some .int) [(0, 12, 15, 13)] ∈ lw_g := sm_wd_in (i := 895) (by decide +kernel)
  rcases hw with hw | hw
  · rcases hw with rfl | rfl | rfl <;> assumption
  · rcases hw with rfl | hw
    · exact a4
    · exact hw)
theorem gw_at : GoodIn lw_g (va_wsS RL 114 (lt_y kLaw_at) (Cond.codeWith (lt_y kLaw_at) (lt_b kLaw_at) (lt_n kLaw_at) (some .int) [(0, 12, 15, 13)] :: lw_g)) := lw_g_in (fun w hw => by
  unfold va_wsS at hw
  simp only [List.mem_append, List.mem_cons, List.not_mem_nil, or_false] at hw
  have a1 : Cond.initialized (lt_y kLaw_at).cls ∈ lw_g := sm_wd_in (i := 107) (by decide +kernel)
  have a2 : Cond.methodLink RL 114 (lt_y kLaw_at) ∈ lw_g := sm_wd_in (i := 907) (by decide +kernel)
  have a3 : Cond.static (lt_y kLaw_at) ∈ lw_g := sm_wd_in (i := 908) (by decide +kernel)
  have a4 : Cond.codeWith (lt_y kLaw_at) (lt_b kLaw_at) (lt_n kLaw_at) (some .int) [(0, 12, 15, 13)] ∈ lw_g := sm_wd_in (i := 909) (by decide +kernel)
  rcases hw with hw | hw
  · rcases hw with rfl | rfl | rfl <;> assumption
  · rcases hw with rfl | hw
    · exact a4
    · exact hw)
theorem gw_lives : GoodIn lw_g (va_wsS RL 117 (lt_y kLaw_lives) (Cond.codeWith (lt_y kLaw_lives) (lt_b kLaw_lives) (lt_n kLaw_lives) (some .int) [(0, 10, 13, 13)] :: lw_g)) := lw_g_in (fun w hw => by
  unfold va_wsS at hw
  simp only [List.mem_append, List.mem_cons, List.not_mem_nil, or_false] at hw
  have a1 : Cond.initialized (lt_y kLaw_lives).cls ∈ lw_g := sm_wd_in (i := 107) (by decide +kernel)
  have a2 : Cond.methodLink RL 117 (lt_y kLaw_lives) ∈ lw_g := sm_wd_in (i := 920) (by decide +kernel)
  have a3 : Cond.static (lt_y kLaw_lives) ∈ lw_g := sm_wd_in (i := 921) (by decide +kernel)
  have a4 : Cond.codeWith (lt_y kLaw_lives) (lt_b kLaw_lives) (lt_n kLaw_lives) (some .int) [(0, 10, 13, 13)] ∈ lw_g := sm_wd_in (i := 922) (by decide +kernel)
  rcases hw with hw | hw
  · rcases hw with rfl | rfl | rfl <;> assumption
  · rcases hw with rfl | hw
    · exact a4
    · exact hw)
theorem gw_stuck : GoodIn lw_g (va_wsS RL 121 (lt_y kLaw_stuck) (Cond.codeWith (lt_y kLaw_stuck) (lt_b kLaw_stuck) (lt_n kLaw_stuck) (some .int) [(0, 8, 11, 17)] :: lw_g)) := lw_g_in (fun w hw => by
  unfold va_wsS at hw
  simp only [List.mem_append, List.mem_cons, List.not_mem_nil, or_false] at hw
  have a1 : Cond.initialized (lt_y kLaw_stuck).cls ∈ lw_g := sm_wd_in (i := 107) (by decide +kernel)
  have a2 : Cond.methodLink RL 121 (lt_y kLaw_stuck) ∈ lw_g := sm_wd_in (i := 929) (by decide +kernel)
  have a3 : Cond.static (lt_y kLaw_stuck) ∈ lw_g := sm_wd_in (i := 930) (by decide +kernel)
  have a4 : Cond.codeWith (lt_y kLaw_stuck) (lt_b kLaw_stuck) (lt_n kLaw_stuck) (some .int) [(0, 8, 11, 17)] ∈ lw_g := sm_wd_in (i := 931) (by decide +kernel)
  rcases hw with hw | hw
  · rcases hw with rfl | rfl | rfl <;> assumption
  · rcases hw with rfl | hw
    · exact a4
    · exact hw)
theorem gw_run : GoodIn lw_g (va_wsS RL 133 (lt_y kLaw_run) (Cond.codeWith (lt_y kLaw_run) (lt_b kLaw_run) (lt_n kLaw_run) (some .int) [(0, 10, 13, 15), (0, 10, 17, 17)] :: lw_g)) := lw_g_in (fun w hw => by
  unfold va_wsS at hw
  simp only [List.mem_append, List.mem_cons, List.not_mem_nil, or_false] at hw
  have a1 : Cond.initialized (lt_y kLaw_run).cls ∈ lw_g := sm_wd_in (i := 107) (by decide +kernel)
  have a2 : Cond.methodLink RL 133 (lt_y kLaw_run) ∈ lw_g := sm_wd_in (i := 1266) (by decide +kernel)
  have a3 : Cond.static (lt_y kLaw_run) ∈ lw_g := sm_wd_in (i := 1267) (by decide +kernel)
  have a4 : Cond.codeWith (lt_y kLaw_run) (lt_b kLaw_run) (lt_n kLaw_run) (some .int) [(0, 10, 13, 15), (0, 10, 17, 17)] ∈ lw_g := sm_wd_in (i := 1268) (by decide +kernel)
  rcases hw with hw | hw
  · rcases hw with rfl | rfl | rfl <;> assumption
  · rcases hw with rfl | hw
    · exact a4
    · exact hw)
theorem gw_state : GoodIn lw_g (va_wsS RL 136 (lt_y kLaw_state) (Cond.codeWith (lt_y kLaw_state) (lt_b kLaw_state) (lt_n kLaw_state) (some .int) [(0, 9, 12, 13), (0, 9, 15, 17)] :: lw_g)) := lw_g_in (fun w hw => by
  unfold va_wsS at hw
  simp only [List.mem_append, List.mem_cons, List.not_mem_nil, or_false] at hw
  have a1 : Cond.initialized (lt_y kLaw_state).cls ∈ lw_g := sm_wd_in (i := 107) (by decide +kernel)
  have a2 : Cond.methodLink RL 136 (lt_y kLaw_state) ∈ lw_g := sm_wd_in (i := 1293) (by decide +kernel)
  have a3 : Cond.static (lt_y kLaw_state) ∈ lw_g := sm_wd_in (i := 1294) (by decide +kernel)
  have a4 : Cond.codeWith (lt_y kLaw_state) (lt_b kLaw_state) (lt_n kLaw_state) (some .int) [(0, 9, 12, 13), (0, 9, 15, 17)] ∈ lw_g := sm_wd_in (i := 1295) (by decide +kernel)
  rcases hw with hw | hw
  · rcases hw with rfl | rfl | rfl <;> assumption
  · rcases hw with rfl | hw
    · exact a4
    · exact hw)
theorem gw_fault : GoodIn lw_g (va_wsS RL 139 (lt_y kLaw_fault) (Cond.codeWith (lt_y kLaw_fault) (lt_b kLaw_fault) (lt_n kLaw_fault) (some .int) [(0, 9, 12, 13), (0, 9, 15, 17)] :: lw_g)) := lw_g_in (fun w hw => by
  unfold va_wsS at hw
  simp only [List.mem_append, List.mem_cons, List.not_mem_nil, or_false] at hw
  have a1 : Cond.initialized (lt_y kLaw_fault).cls ∈ lw_g := sm_wd_in (i := 107) (by decide +kernel)
  have a2 : Cond.methodLink RL 139 (lt_y kLaw_fault) ∈ lw_g := sm_wd_in (i := 1300) (by decide +kernel)
  have a3 : Cond.static (lt_y kLaw_fault) ∈ lw_g := sm_wd_in (i := 1301) (by decide +kernel)
  have a4 : Cond.codeWith (lt_y kLaw_fault) (lt_b kLaw_fault) (lt_n kLaw_fault) (some .int) [(0, 9, 12, 13), (0, 9, 15, 17)] ∈ lw_g := sm_wd_in (i := 1302) (by decide +kernel)
  rcases hw with hw | hw
  · rcases hw with rfl | rfl | rfl <;> assumption
  · rcases hw with rfl | hw
    · exact a4
    · exact hw)
theorem gw_place : GoodIn lw_g (va_wsS RL 142 (lt_y kLaw_place) (Cond.codeWith (lt_y kLaw_place) (lt_b kLaw_place) (lt_n kLaw_place) (some .int) [(0, 9, 12, 13), (0, 9, 15, 17)] :: lw_g)) := lw_g_in (fun w hw => by
  unfold va_wsS at hw
  simp only [List.mem_append, List.mem_cons, List.not_mem_nil, or_false] at hw
  have a1 : Cond.initialized (lt_y kLaw_place).cls ∈ lw_g := sm_wd_in (i := 107) (by decide +kernel)
  have a2 : Cond.methodLink RL 142 (lt_y kLaw_place) ∈ lw_g := sm_wd_in (i := 1311) (by decide +kernel)
  have a3 : Cond.static (lt_y kLaw_place) ∈ lw_g := sm_wd_in (i := 1312) (by decide +kernel)
  have a4 : Cond.codeWith (lt_y kLaw_place) (lt_b kLaw_place) (lt_n kLaw_place) (some .int) [(0, 9, 12, 13), (0, 9, 15, 17)] ∈ lw_g := sm_wd_in (i := 1313) (by decide +kernel)
  rcases hw with hw | hw
  · rcases hw with rfl | rfl | rfl <;> assumption
  · rcases hw with rfl | hw
    · exact a4
    · exact hw)
theorem gw_value : GoodIn lw_g (va_wsS RL 145 (lt_y kLaw_value) (Cond.codeWith (lt_y kLaw_value) (lt_b kLaw_value) (lt_n kLaw_value) (some .int) [(0, 10, 13, 13), (0, 10, 17, 17)] :: lw_g)) := lw_g_in (fun w hw => by
  unfold va_wsS at hw
  simp only [List.mem_append, List.mem_cons, List.not_mem_nil, or_false] at hw
  have a1 : Cond.initialized (lt_y kLaw_value).cls ∈ lw_g := sm_wd_in (i := 107) (by decide +kernel)
  have a2 : Cond.methodLink RL 145 (lt_y kLaw_value) ∈ lw_g := sm_wd_in (i := 1319) (by decide +kernel)
  have a3 : Cond.static (lt_y kLaw_value) ∈ lw_g := sm_wd_in (i := 1320) (by decide +kernel)
  have a4 : Cond.codeWith (lt_y kLaw_value) (lt_b kLaw_value) (lt_n kLaw_value) (some .int) [(0, 10, 13, 13), (0, 10, 17, 17)] ∈ lw_g := sm_wd_in (i := 1321) (by decide +kernel)
  rcases hw with hw | hw
  · rcases hw with rfl | rfl | rfl <;> assumption
  · rcases hw with rfl | hw
    · exact a4
    · exact hw)
theorem gw_waiting : GoodIn lw_g (va_wsS RL 148 (lt_y kLaw_waiting) (Cond.codeWith (lt_y kLaw_waiting) (lt_b kLaw_waiting) (lt_n kLaw_waiting) (some .int) [(0, 10, 13, 13), (0, 10, 17, 17)] :: lw_g)) := lw_g_in (fun w hw => by
  unfold va_wsS at hw
  simp only [List.mem_append, List.mem_cons, List.not_mem_nil, or_false] at hw
  have a1 : Cond.initialized (lt_y kLaw_waiting).cls ∈ lw_g := sm_wd_in (i := 107) (by decide +kernel)
  have a2 : Cond.methodLink RL 148 (lt_y kLaw_waiting) ∈ lw_g := sm_wd_in (i := 1328) (by decide +kernel)
  have a3 : Cond.static (lt_y kLaw_waiting) ∈ lw_g := sm_wd_in (i := 1329) (by decide +kernel)
  have a4 : Cond.codeWith (lt_y kLaw_waiting) (lt_b kLaw_waiting) (lt_n kLaw_waiting) (some .int) [(0, 10, 13, 13), (0, 10, 17, 17)] ∈ lw_g := sm_wd_in (i := 1330) (by decide +kernel)
  rcases hw with hw | hw
  · rcases hw with rfl | rfl | rfl <;> assumption
  · rcases hw with rfl | hw
    · exact a4
    · exact hw)
theorem gw_dropped : GoodIn lw_g (va_wsS RL 159 (lt_y kLaw_dropped) (Cond.codeWith (lt_y kLaw_dropped) (lt_b kLaw_dropped) (lt_n kLaw_dropped) (some .int) [(0, 9, 12, 13)] :: lw_g)) := lw_g_in (fun w hw => by
  unfold va_wsS at hw
  simp only [List.mem_append, List.mem_cons, List.not_mem_nil, or_false] at hw
  have a1 : Cond.initialized (lt_y kLaw_dropped).cls ∈ lw_g := sm_wd_in (i := 107) (by decide +kernel)
  have a2 : Cond.methodLink RL 159 (lt_y kLaw_dropped) ∈ lw_g := sm_wd_in (i := 1337) (by decide +kernel)
  have a3 : Cond.static (lt_y kLaw_dropped) ∈ lw_g := sm_wd_in (i := 1338) (by decide +kernel)
  have a4 : Cond.codeWith (lt_y kLaw_dropped) (lt_b kLaw_dropped) (lt_n kLaw_dropped) (some .int) [(0, 9, 12, 13)] ∈ lw_g := sm_wd_in (i := 1339) (by decide +kernel)
  rcases hw with hw | hw
  · rcases hw with rfl | rfl | rfl <;> assumption
  · rcases hw with rfl | hw
    · exact a4
    · exact hw)
theorem gw_go : GoodIn lw_g (va_wsS RL 129 (lt_y kLaw_go) (Cond.codeWith (lt_y kLaw_go) (lt_b kLaw_go) (lt_n kLaw_go) (some .int) [(0, 17, 20, 13), (0, 17, 24, 17)] :: lw_g)) := lw_g_in (fun w hw => by
  unfold va_wsS at hw
  simp only [List.mem_append, List.mem_cons, List.not_mem_nil, or_false] at hw
  have a1 : Cond.initialized (lt_y kLaw_go).cls ∈ lw_g := sm_wd_in (i := 107) (by decide +kernel)
  have a2 : Cond.methodLink RL 129 (lt_y kLaw_go) ∈ lw_g := sm_wd_in (i := 1006) (by decide +kernel)
  have a3 : Cond.static (lt_y kLaw_go) ∈ lw_g := sm_wd_in (i := 1007) (by decide +kernel)
  have a4 : Cond.codeWith (lt_y kLaw_go) (lt_b kLaw_go) (lt_n kLaw_go) (some .int) [(0, 17, 20, 13), (0, 17, 24, 17)] ∈ lw_g := sm_wd_in (i := 1008) (by decide +kernel)
  rcases hw with hw | hw
  · rcases hw with rfl | rfl | rfl <;> assumption
  · rcases hw with rfl | hw
    · exact a4
    · exact hw)
