/-! THE SMALL MACHINE IS SOUND: all methods -/
theorem lv_args_ent (ad : Nat × Nat × Nat → Nat) : ∀ (vs : List sm_v) (k : Nat), lv_args k (vs.map (sm_t ad)) = sm_tl ad (sm_ent k vs) := by
  intro vs
  induction vs with
  | nil => intro k; rfl
  | cons v vs ih =>
    intro k
    show (k, sm_t ad v) :: lv_args (if (sm_t ad v).category = 2 then k + 2 else k + 1) (vs.map (sm_t ad)) = (k, sm_t ad v) :: sm_tl ad (sm_ent (k + sm_cat v) vs)
    rw [ih]
    rcases v with x | x | x <;> rfl
theorem lg_sl_len (ad : Nat × Nat × Nat → Nat) (vs : List sm_v) : (lg_sl (vs.map (sm_t ad))).length = sm_cats vs := by
  induction vs with
  | nil => rfl
  | cons v vs ih =>
    show ((if (sm_t ad v).category = 2 then [Slot.val (sm_t ad v), Slot.second] else [Slot.val (sm_t ad v)]) ++ lg_sl (vs.map (sm_t ad))).length = sm_cat v + sm_cats vs
    rw [List.length_append, ih]
    rcases v with x | x | x <;> rfl
theorem sm_pk_mem {ls : sm_L} : ∀ (ks : List Nat) (vs : List sm_v), sm_pk ks ls = some vs → ∀ q ∈ ks.zip vs, q ∈ ls := by
  intro ks
  induction ks with
  | nil => intro vs h q hq; cases hq
  | cons k ks ih =>
    intro vs h q hq
    unfold sm_pk at h
    cases hk : sm_lk k ls with
    | none => rw [hk] at h; cases h
    | some v =>
      rw [hk] at h
      dsimp only at h
      cases hp : sm_pk ks ls with
      | none => rw [hp] at h; cases h
      | some vs' =>
        rw [hp] at h
        cases h
        rcases List.mem_cons.mp hq with rfl | hq
        · exact sm_lk_mem hk
        · exact ih vs' hp q hq
theorem sm_pk_ok {z : Bool} {ls : sm_L} (o : sm_okl z ls) : ∀ (ks : List Nat) (vs : List sm_v), sm_pk ks ls = some vs → sm_oks z vs := by
  intro ks
  induction ks with
  | nil => intro vs h; cases h; intro v hv; cases hv
  | cons k ks ih =>
    intro vs h
    unfold sm_pk at h
    cases hk : sm_lk k ls with
    | none => rw [hk] at h; cases h
    | some v =>
      rw [hk] at h
      dsimp only at h
      cases hp : sm_pk ks ls with
      | none => rw [hp] at h; cases h
      | some vs' =>
        rw [hp] at h
        cases h
        exact sm_oks_c.mpr ⟨sm_lk_ok o hk, ih vs' hp⟩
theorem sm_ent_ok {z : Bool} : ∀ (vs : List sm_v) (k : Nat), sm_oks z vs → sm_okl z (sm_ent k vs) := by
  intro vs
  induction vs with
  | nil => intro k o q hq; cases hq
  | cons v vs ih =>
    intro k o q hq
    rw [sm_oks_c] at o
    rcases List.mem_cons.mp hq with rfl | hq
    · exact o.1
    · exact ih _ o.2 q hq
theorem sm_st0_ok {z : Bool} {lv : Nat → List Nat} {vs : List sm_v} (o : sm_oks z vs) (b : Nat) : sm_okl z (sm_st0 lv vs b) := by
  cases b with
  | zero => exact sm_ent_ok vs 0 o
  | succ b =>
    intro q hq
    exact o q.2 (List.of_mem_zip (show (q.1, q.2) ∈ (lv (b + 1)).zip vs from hq)).2
theorem sm_D_all {D : va_G} {tc : Nat → ClassId} {ad : Nat × Nat × Nat → Nat} {M : sm_M} {sz : Nat} {B : Nat → Prop} (h : va_D B (sm_W tc ad M)) : ∀ M', va_D (va_A (sm_W tc ad M) sz) (sm_W tc ad M') := by
  intro M'
  have key : ∀ (i : Nat) (q : Nat × va_E), (sm_W tc ad M')[i]? = some q → ∃ e, (sm_W tc ad M)[i]? = some (q.1, e) := by
    intro i q hq
    unfold sm_W at hq ⊢
    rw [List.getElem?_map] at hq ⊢
    cases hr : sm_ids[i]? with
    | none => rw [hr] at hq; cases hq
    | some r => rw [hr] at hq; cases hq; exact ⟨_, rfl⟩
  refine ⟨fun i j p q hp hq e => ?_, fun k q hq => ?_⟩
  · obtain ⟨e1, h1⟩ := key i p hp
    obtain ⟨e2, h2⟩ := key j q hq
    exact h.1 i j _ _ h1 h2 e
  · obtain ⟨e1, h1⟩ := key k q hq
    exact Or.inl ⟨k, e1, h1⟩
section SOUND
variable {p : Program} {l : Launch} {e : Env} {R : Room} {s : State} {m : MethodId} {args : Array Value} {below : List Frame} {meth : Method} {c : Code} {cells slots : Nat} {Q : State → Prop}
variable {cc : ByteArray} {nL : Nat} {own : String} {D : va_G} {tc : Nat → ClassId} {ad : Nat × Nat × Nat → Nat} {A : Nat → Prop} {H0 : Heap} {sc : Nat × (Nat → Int32)} {z : Bool}
theorem sm_SW_sub {K : Nat → Array Slot → List Value → Heap → List Loc → Prop} {pc : Nat} {ls ls' : sm_L} {st : List sm_v} {M : sm_M} (h : ∀ q ∈ ls', q ∈ ls) (k : sm_SW D tc ad A H0 nL K pc ls' st M) : sm_SW D tc ad A H0 nL K pc ls st M := by
  intro H locs la hP hS hl
  refine k H locs la hP hS ⟨hl.1, hl.2.1, fun q hq => ?_⟩
  obtain ⟨q', hq', rfl⟩ := List.mem_map.mp hq
  exact hl.2.2 _ (List.mem_map_of_mem (h q' hq'))
theorem sm_kk_ok (X : sm_Cx p s m args c cc nL own D tc ad A H0 sc z) {C : Nat → List sm_v → sm_M → Option sm_R} (hC : sm_CO l D tc ad C) (hF : sm_MetF l D tc ad) {fr lo : Nat} (hR : fr ≤ R.frames ∧ lo ≤ R.locals ∧ cells ≤ R.cells ∧ slots ≤ R.slots) {R0 : sm_R} {ret : Option FieldType} {pcs : Nat → Nat}
    {ct : Nat → Bool} {lv : Nat → List Nat} {J : Nat → List sm_v → List sm_v → sm_M → Option sm_R} {cd : Nat → List sm_I}
    (hfit : ∀ b, ct b = false ∨ True → sm_fit own nL fr lo ret cc pcs (pcs b) (cd b) = true)
    (hJ : ∀ b vs st M, J (b + 1) vs st M = some R0 → sm_oks z vs → sm_oks z st → sm_SW D tc ad A H0 nL (sm_KW p l e R s m args below meth c cells slots Q) (pcs (b + 1)) ((lv (b + 1)).zip vs) st M)
    (hE : ∀ pc ls st M, sm_End ret cc pc st M R0 → sm_oks z st → sm_SW D tc ad A H0 nL (sm_KW p l e R s m args below meth c cells slots Q) pc ls st M) :
    ∀ (k b : Nat) (ls : sm_L) (st : List sm_v) (M : sm_M), sm_k lt_al sc C ct lv J cd k b ls st M = some R0 → sm_okl z ls → sm_oks z st → sm_SW D tc ad A H0 nL (sm_KW p l e R s m args below meth c cells slots Q) (pcs b) ls st M := by
  intro k
  induction k with
  | zero => intro b ls st M h; cases h
  | succ k ih =>
    intro b ls st M h o1 o2
    refine sm_l_ok X hC hF hR (G := sm_g ct lv J (sm_k lt_al sc C ct lv J cd k)) (pcs := pcs) (ret := ret) ?_ hE (cd b) (pcs b) ls st M (hfit b (Or.inr trivial)) h o1 o2
    intro b ls st M h o1 o2
    unfold sm_g at h
    cases hb : ct b with
    | true =>
      rw [hb] at h
      cases b with
      | zero => cases h
      | succ b =>
        dsimp only at h
        cases hp : sm_pk (lv (b + 1)) ls with
        | none => rw [hp] at h; cases h
        | some vs =>
          rw [hp] at h
          exact sm_SW_sub (sm_pk_mem _ _ hp) (hJ b vs st M h (sm_pk_ok o1 _ _ hp) o2)
    | false =>
      rw [hb] at h
      exact ih b ls st M h o1 o2
theorem lt_ex_none : ∀ m, m < 263 → lt_ex m = none := by decide +kernel
theorem lt_R_cls : ∀ m, m < 263 → lt_R m = (lt_y m).cls := by decide +kernel
theorem lt_pc_0 : ∀ m, m < 263 → lt_pc m 0 = 0 := by decide +kernel
def sm_rkb (m : Nat) : Bool := match lt_r m with
  | none => Nat.beq (lt_rk m).1 0
  | some .int => Nat.beq (lt_rk m).1 1
  | some .boolean => Nat.beq (lt_rk m).1 1
  | some .long => Nat.beq (lt_rk m).1 2
  | some (.object _) => Nat.beq (lt_rk m).1 3
  | _ => false
theorem sm_rkb_all : ∀ m, m < 263 → sm_rkb m = true := by decide +kernel
theorem sm_run_F {n m0 b : Nat} {vs st : List sm_v} {M : sm_M} {R0 : sm_R} (hm : m0 < 263) (h : sm_run (lt_P sc) (n + 1) m0 b vs st M = some R0) : sm_mlb (lt_n m0) vs b = true ∧ sm_k lt_al sc (fun m a M => sm_run (lt_P sc) n m 0 a [] M) (lt_ct m0) (lt_lv m0) (fun b vs st M => sm_run (lt_P sc) n m0 b vs st M) (lt_cd m0) 40 b (sm_st0 (lt_lv m0) vs b) st M = some R0 := by
  have h1 : sm_F (lt_P sc) (fun m a M => sm_run (lt_P sc) n m 0 a [] M) (fun m b vs st M => sm_run (lt_P sc) n m b vs st M) m0 b vs st M = some R0 := h
  unfold sm_F at h1
  have h2 : (lt_P sc).2.2.2.2.2.1 m0 = none := lt_ex_none m0 hm
  rw [h2] at h1
  dsimp only at h1
  have h3 : (bif sm_mlb (lt_n m0) vs b then sm_k lt_al sc (fun m a M => sm_run (lt_P sc) n m 0 a [] M) (lt_ct m0) (lt_lv m0) (fun b vs st M => sm_run (lt_P sc) n m0 b vs st M) (lt_cd m0) 40 b (sm_st0 (lt_lv m0) vs b) st M else none) = some R0 := h1
  cases hb : sm_mlb (lt_n m0) vs b with
  | false => rw [hb] at h3; cases h3
  | true => rw [hb] at h3; exact ⟨rfl, h3⟩
theorem sm_frame (hAll : ∀ m, m < 263 → sm_FitM m) {m0 : Nat} (hm : m0 < 263) (X : sm_Cx p s m args c (lt_b m0) (lt_n m0) (lt_R m0) D tc ad A H0 sc z) (hF : sm_MetF l D tc ad) (hR : (lt_fl m0).1 ≤ R.frames ∧ (lt_fl m0).2 ≤ R.locals ∧ cells ≤ R.cells ∧ slots ≤ R.slots) {R0 : sm_R}
    (hE : ∀ pc ls st M, sm_End (lt_r m0) (lt_b m0) pc st M R0 → sm_oks z st → sm_SW D tc ad A H0 (lt_n m0) (sm_KW p l e R s m args below meth c cells slots Q) pc ls st M) :
    ∀ n, (∀ k, k < n → sm_CO l D tc ad (fun m a M => sm_run (lt_P sc) k m 0 a [] M)) → ∀ b vs st M, sm_run (lt_P sc) n m0 b vs st M = some R0 → sm_oks z vs → sm_oks z st → sm_SW D tc ad A H0 (lt_n m0) (sm_KW p l e R s m args below meth c cells slots Q) (lt_pc m0 b) (sm_st0 (lt_lv m0) vs b) st M := by
  intro n
  induction n with
  | zero => intro _ b vs st M h; cases h
  | succ n ih =>
    intro hS b vs st M h o1 o2
    obtain ⟨-, h1⟩ := sm_run_F hm h
    exact sm_kk_ok X (hS n (Nat.lt_succ_self n)) hF hR (fun b _ => hAll m0 hm b) (fun b vs st M h o1 o2 => ih (fun k hk => hS k (Nat.lt_succ_of_lt hk)) (b + 1) vs st M h o1 o2) hE 40 b _ st M h1 (sm_st0_ok o1 b) o2
end SOUND
theorem sm_sound (hAll : ∀ m, m < 263 → sm_FitM m) {l : Launch} {D : va_G} {tc : Nat → ClassId} {ad : Nat × Nat × Nat → Nat} (hF : sm_MetF l D tc ad) (sc : Nat × (Nat → Int32)) : ∀ n, sm_CO l D tc ad (fun m a M => sm_run (lt_P sc) n m 0 a [] M) := by
  intro n
  induction n using Nat.strongRecOn with
  | ind n ih =>
    intro m0 a M r hm hr hr0 oa
    cases n with
    | zero => cases hr
    | succ n =>
      obtain ⟨hml0, -⟩ := sm_run_F hm hr
      have hcats : sm_cats a ≤ lt_n m0 := Nat.le_of_ble_eq_true hml0
      obtain ⟨g1, g2, g3, g4, g5⟩ := sm_mb_spec (sm_mb_all m0 hm)
      intro sz
      refine Met.ofW (cc := lt_b m0) (maxL := lt_n m0) (ret := lt_r m0) g1 rfl ?_
      intro p e s m args below meth c s₁ B hml hv
      obtain ⟨rfl, hsz, hP, hK, hD0, hN⟩ := hv
      have hx := B.exec
      have hb := B.bytes
      have hret := B.returns
      have hts := atoms_spec (ws := sm_ws m0) B.pre
      have hown : s.vm.findClass (lt_R m0) = some m.cls := by rw [lt_R_cls m0 hm]; exact findClass_of_methodNamed B.named
      have hlocks := B.notSynchronized
      subst hsz
      have hD := sm_D_all (D := D) (sz := s.heap.size) hD0
      have X : sm_Cx p s m (a.map (sm_t ad)).toArray c (lt_b m0) (lt_n m0) (lt_R m0) D tc ad (va_A (sm_W tc ad M) s.heap.size) s.heap sc false := ⟨hx, hb, hml, hown, fun w hw => hts w (List.mem_cons_of_mem _ hw), hK, hD, hN, fun q h => Or.inr h, fun h => by cases h⟩
      have hl := lv_entry (a.map (sm_t ad)) (n := lt_n m0) (by rw [lg_sl_len]; exact hcats)
      rw [lg_entry_eq]
      rw [lv_args_ent] at hl
      have hrk := sm_rkb_all m0 hm
      unfold sm_rkb at hrk
      have hE : ∀ pc ls st M', sm_End (lt_r m0) (lt_b m0) pc st M' r → sm_oks false st → sm_SW D tc ad (va_A (sm_W tc ad M) s.heap.size) s.heap (lt_n m0) (sm_KW p l e (headSpec (sm_ws m0) (sm_rm m0)).room s m (a.map (sm_t ad)).toArray below meth c 0 0 (MQ below (sm_Q D tc ad (lt_rk m0).1 r (va_A (sm_W tc ad M) s.heap.size)) (a.map (sm_t ad)).toArray s 0 0 (va_A (sm_W tc ad M) s.heap.size))) pc ls st M' := by
        intro pc ls st M' hend o2 H locs la hP hS hl
        rcases hend with ⟨x, rfl, rfl, hd, hret1⟩ | ⟨x, rfl, rfl, hd, hret1⟩ | ⟨x, C1, rfl, rfl, hd, hret1⟩ | ⟨rfl, rfl, hd, hret1⟩ | ⟨e1, ix, is1, ic1, tx1, rfl, rfl, hd, -⟩
        · rcases hret1 with hret1 | ⟨hret1, hx01⟩
          · rw [hret1] at hret hrk
            have hrk := Nat.eq_of_beq_eq_true hrk
            exact W.iret hx hb hret (fun t ht hW => by rw [hrk]; exact ⟨⟨x, (), rfl, rfl, by show va_P _ _ _ t.heap; rw [ht]; exact hP⟩, hS.F ht⟩) hS.2.2 hd
          · rw [hret1] at hret hrk
            have hrk := Nat.eq_of_beq_eq_true hrk
            refine W.zret (ty := .boolean) hx hb hret ?_ (fun t ht hW => by rw [hrk]; exact ⟨⟨x, (), rfl, rfl, by show va_P _ _ _ t.heap; rw [ht]; exact hP⟩, hS.F ht⟩) hS.2.2 hd
            rcases hx01 with rfl | rfl <;> rfl
        · rw [hret1] at hret hrk
          have hrk := Nat.eq_of_beq_eq_true hrk
          exact W.lret hx hb hret (fun t ht hW => by rw [hrk]; exact ⟨⟨x, (), rfl, rfl, by show va_P _ _ _ t.heap; rw [ht]; exact hP⟩, hS.F ht⟩) hS.2.2 hd
        · rw [hret1] at hret hrk
          have hrk := Nat.eq_of_beq_eq_true hrk
          have hxi : x ∈ sm_ids := by
            rcases o2 _ List.mem_cons_self with h | ⟨h, -⟩
            · exact h
            · cases h
          exact W.aret hx hb hret (Or.inl ⟨C1, rfl⟩) (Or.inr ⟨_, rfl⟩) (fun t ht hW => by rw [hrk]; exact ⟨⟨(), ad x, rfl, trivial, ⟨rfl, hxi⟩, by rw [ht]; exact hP⟩, hS.F ht⟩) hS.2.2 hd
        · rw [hret1] at hret hrk
          have hrk := Nat.eq_of_beq_eq_true hrk
          exact W.vret hx hb hret (fun t ht hW => by rw [hrk]; exact ⟨⟨(), rfl, trivial, by show va_P _ _ _ t.heap; rw [ht]; exact hP⟩, hS.F ht⟩) hS.2.2 hd
        · cases hr0
      have key := sm_frame hAll hm X hF ⟨Nat.le_refl _, Nat.le_refl _, Nat.le_refl _, Nat.le_refl _⟩ hE (n + 1) ih 0 a [] M hr oa (fun v hv => by cases hv) s.heap [] _ hP va_S.rf hl
      rw [lt_pc_0 m0 hm] at key
      exact key
