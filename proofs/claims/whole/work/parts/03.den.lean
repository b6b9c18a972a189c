/-! what a program answers in the end: sm_den, with its equation -/
def sm_E (f : Nat → Option sm_R) (R : sm_R) : Prop := ∃ n, ∀ n', n ≤ n' → f n' = some R
theorem sm_E.const {o : Option sm_R} {R : sm_R} (h : o = some R) : sm_E (fun _ => o) R := ⟨0, fun _ _ => h⟩
theorem sm_r0_c {o : Option sm_R} {on : Nat → Option sm_R} {K : sm_M → Option sm_R} {Kn : Nat → sm_M → Option sm_R} {R : sm_R} (h : sm_r0 o K = some R) (ho : ∀ r, o = some r → sm_E on r) (hK : ∀ M, K M = some R → sm_E (fun n => Kn n M) R) : sm_E (fun n => sm_r0 (on n) (Kn n)) R := by
  match o, h, ho with
  | some (0, v, M), h, ho =>
    obtain ⟨n1, h1⟩ := ho _ rfl
    obtain ⟨n2, h2⟩ := hK M h
    refine ⟨n1 + n2, fun n' hn => ?_⟩
    show sm_r0 (on n') (Kn n') = some R
    rw [h1 n' (by omega)]
    exact h2 n' (by omega)
theorem sm_r1_c {o : Option sm_R} {on : Nat → Option sm_R} {K : Int32 → sm_M → Option sm_R} {Kn : Nat → Int32 → sm_M → Option sm_R} {R : sm_R} (h : sm_r1 o K = some R) (ho : ∀ r, o = some r → sm_E on r) (hK : ∀ x M, K x M = some R → sm_E (fun n => Kn n x M) R) : sm_E (fun n => sm_r1 (on n) (Kn n)) R := by
  match o, h, ho with
  | some (0, .inl x, M), h, ho =>
    obtain ⟨n1, h1⟩ := ho _ rfl
    obtain ⟨n2, h2⟩ := hK x M h
    refine ⟨n1 + n2, fun n' hn => ?_⟩
    show sm_r1 (on n') (Kn n') = some R
    rw [h1 n' (by omega)]
    exact h2 n' (by omega)
theorem sm_r2_c {o : Option sm_R} {on : Nat → Option sm_R} {K : Int64 → sm_M → Option sm_R} {Kn : Nat → Int64 → sm_M → Option sm_R} {R : sm_R} (h : sm_r2 o K = some R) (ho : ∀ r, o = some r → sm_E on r) (hK : ∀ x M, K x M = some R → sm_E (fun n => Kn n x M) R) : sm_E (fun n => sm_r2 (on n) (Kn n)) R := by
  match o, h, ho with
  | some (0, .inr (.inl x), M), h, ho =>
    obtain ⟨n1, h1⟩ := ho _ rfl
    obtain ⟨n2, h2⟩ := hK x M h
    refine ⟨n1 + n2, fun n' hn => ?_⟩
    show sm_r2 (on n') (Kn n') = some R
    rw [h1 n' (by omega)]
    exact h2 n' (by omega)
theorem sm_r3_c {c : Nat} {o : Option sm_R} {on : Nat → Option sm_R} {K : Nat → sm_M → Option sm_R} {Kn : Nat → Nat → sm_M → Option sm_R} {R : sm_R} (h : sm_r3 c o K = some R) (ho : ∀ r, o = some r → sm_E on r) (hK : ∀ x M, K x M = some R → sm_E (fun n => Kn n x M) R) : sm_E (fun n => sm_r3 c (on n) (Kn n)) R := by
  match o, h, ho with
  | some (0, .inr (.inr (c', p, 0)), M), h, ho =>
    obtain ⟨n1, h1⟩ := ho _ rfl
    have h' : (bif Nat.beq c' c then K p M else none) = some R := h
    cases hb : Nat.beq c' c with
    | false => rw [hb] at h'; cases h'
    | true =>
      rw [hb] at h'
      obtain ⟨n2, h2⟩ := hK p M h'
      refine ⟨n1 + n2, fun n' hn => ?_⟩
      show sm_r3 c (on n') (Kn n') = some R
      rw [h1 n' (by omega)]
      show (bif Nat.beq c' c then Kn n' p M else none) = some R
      rw [hb]
      exact h2 n' (by omega)
theorem sm_bif_c {b : Bool} {o : Option sm_R} {on : Nat → Option sm_R} {R : sm_R} (h : (bif b then o else none) = some R) (ho : o = some R → sm_E on R) : sm_E (fun n => bif b then on n else none) R := by
  cases b with
  | false => cases h
  | true => exact ho h
theorem sm_ite_c {c : Prop} {hd : Decidable c} {o o2 : Option sm_R} {on o2n : Nat → Option sm_R} {R : sm_R} (h : (if c then o else o2) = some R) (ho : o = some R → sm_E on R) (ho2 : o2 = some R → sm_E o2n R) : sm_E (fun n => if c then on n else o2n n) R := by
  by_cases q : c
  · rw [if_pos q] at h
    obtain ⟨n, hn⟩ := ho h
    exact ⟨n, fun n' h' => by show (if c then _ else _) = _; rw [if_pos q]; exact hn n' h'⟩
  · rw [if_neg q] at h
    obtain ⟨n, hn⟩ := ho2 h
    exact ⟨n, fun n' h' => by show (if c then _ else _) = _; rw [if_neg q]; exact hn n' h'⟩
theorem sm_E.none {on : Nat → Option sm_R} {R : sm_R} (h : (none : Option sm_R) = some R) : sm_E on R := nomatch h
theorem sm_cl0_c {C : Nat → List sm_v → sm_M → Option sm_R} {Cn : Nat → Nat → List sm_v → sm_M → Option sm_R} {K : List sm_v → sm_M → Option sm_R} {Kn : Nat → List sm_v → sm_M → Option sm_R} {R : sm_R}
    (hC : ∀ m a M r, C m a M = some r → sm_E (fun n => Cn n m a M) r) (hK : ∀ st M, K st M = some R → sm_E (fun n => Kn n st M) R) (m n rk rc : Nat) (st : List sm_v) (M : sm_M) (h : sm_cl0 C K m n rk rc st M = some R) : sm_E (fun z => sm_cl0 (Cn z) (Kn z) m n rk rc st M) R := by
  unfold sm_cl0 at h ⊢
  cases ht : sm_tk n [] st with
  | none => rw [ht] at h; cases h
  | some q =>
    obtain ⟨a, st1⟩ := q
    rw [ht] at h
    dsimp only at h ⊢
    refine sm_bif_c h (fun h => ?_)
    match rk, h with
    | 0, h => exact sm_r0_c h (hC m a M) (fun M => hK _ M)
    | 1, h => exact sm_r1_c h (hC m a M) (fun x M => hK _ M)
    | 2, h => exact sm_r2_c h (hC m a M) (fun x M => hK _ M)
    | k + 3, h => exact sm_r3_c h (hC m a M) (fun x M => hK _ M)
theorem sm_cl_c {al : Nat → Nat → Nat × Nat} {C : Nat → List sm_v → sm_M → Option sm_R} {Cn : Nat → Nat → List sm_v → sm_M → Option sm_R} {K : List sm_v → sm_M → Option sm_R} {Kn : Nat → List sm_v → sm_M → Option sm_R} {R : sm_R}
    (hC : ∀ m a M r, C m a M = some r → sm_E (fun n => Cn n m a M) r) (hK : ∀ st M, K st M = some R → sm_E (fun n => Kn n st M) R) :
    ∀ (os : List Nat) (st : List sm_v) (M : sm_M), sm_cl al C K os st M = some R → sm_E (fun n => sm_cl al (Cn n) (Kn n) os st M) R := by
  intro os st M h
  match os, h with
  | 0 :: m :: n :: rk :: rc :: os', h => exact sm_cl0_c hC hK m n rk rc st M h
  | 1 :: os', h =>
    match st, h with
    | .inl y :: .inl x :: st, h => exact sm_bif_c h (fun h => hK _ M h)
  | 2 :: os', h =>
    match st, h with
    | .inl y :: .inl x :: st, h => exact sm_bif_c h (fun h => hK _ M h)
  | 3 :: os', h =>
    match st, h with
    | .inl n :: .inl dp :: .inr (.inr (c1, p1, j1)) :: .inl sp :: .inr (.inr (c0, p0, j0)) :: st, h =>
      unfold sm_cl at h ⊢
      dsimp only at h ⊢
      exact sm_bif_c h (fun h => sm_ite_c h (fun h => hK _ _ h) (fun h => sm_E.none h))
  | 4 :: os', h =>
    match st, h with
    | .inl x :: .inr (.inr (c1, p1, j1)) :: st, h =>
      unfold sm_cl at h ⊢
      dsimp only at h ⊢
      exact sm_bif_c h (fun h => hK _ _ h)
theorem sm_iv_c {os : List Nat} {st : List sm_v} {o : Option sm_R} {on : Nat → Option sm_R} {R : sm_R} (h : sm_iv os st o = some R) (ho : o = some R → sm_E on R) : sm_E (fun n => sm_iv os st (on n)) R := by
  unfold sm_iv at h ⊢
  split at h
  · split at h
    · exact sm_bif_c h ho
    · cases h
  · cases h
theorem sm_if_c {G : Nat → Option sm_R} {Gn : Nat → Nat → Option sm_R} {R : sm_R} (hG : ∀ t, G t = some R → sm_E (fun n => Gn n t) R) (c : Jvm.ClassFile.Cond) (x y : Int32) (os : List Nat) (h : sm_if G c x y os = some R) : sm_E (fun n => sm_if (Gn n) c x y os) R := by
  match os, h with
  | t :: f :: os', h =>
    cases c
    · exact sm_ite_c h (hG t) (hG f)
    · exact sm_ite_c h (hG f) (hG t)
    · exact sm_ite_c h (hG t) (hG f)
    · exact sm_ite_c h (hG f) (hG t)
    · exact sm_ite_c h (hG t) (hG f)
    · exact sm_ite_c h (hG f) (hG t)
theorem sm_sw_c {G : Nat → Option sm_R} {Gn : Nat → Nat → Option sm_R} {d : Option sm_R} {dn : Nat → Option sm_R} {R : sm_R} (hG : ∀ t, G t = some R → sm_E (fun n => Gn n t) R) (hd : d = some R → sm_E dn R) (x : Int32) :
    ∀ (ks : List sm_v) (ts : List Nat), sm_sw x d G ks ts = some R → sm_E (fun n => sm_sw x (dn n) (Gn n) ks ts) R := by
  intro ks
  induction ks with
  | nil => intro ts h; exact hd (by cases ts <;> exact h)
  | cons k ks ih =>
    intro ts h
    match k, ts, h with
    | .inl k, t :: ts, h => exact sm_ite_c h (hG t) (ih ts)
    | .inl k, [], h => exact hd h
    | .inr (.inl k), [], h => exact hd h
    | .inr (.inr k), [], h => exact hd h
    | .inr (.inl k), t :: ts, h => exact hd h
    | .inr (.inr k), t :: ts, h => exact hd h
theorem sm_bn_if {c : Prop} {hd : Decidable c} {o o2 : Option sm_S} {K : sm_L → List sm_v → sm_M → Option sm_R} : sm_bn (if c then o else o2) K = if c then sm_bn o K else sm_bn o2 K := by
  by_cases q : c
  · rw [if_pos q, if_pos q]
  · rw [if_neg q, if_neg q]
theorem sm_bn_bif {c : Bool} {o o2 : Option sm_S} {K : sm_L → List sm_v → sm_M → Option sm_R} : sm_bn (bif c then o else o2) K = bif c then sm_bn o K else sm_bn o2 K := by
  cases c <;> rfl
theorem sm_bdK_eq (f : Int32 → Int32 → Int32) (K : sm_L → List sm_v → sm_M → Option sm_R) (ls : sm_L) (st : List sm_v) (M : sm_M) : sm_bdK f K ls st M = sm_bn (sm_bd f ls st M) K := by
  unfold sm_bdK sm_bd
  split
  · rw [sm_bn_if]; rfl
  · rfl
theorem sm_pfK_eq (os : List Nat) (K : sm_L → List sm_v → sm_M → Option sm_R) (ls : sm_L) (st : List sm_v) (M : sm_M) : sm_pfK os K ls st M = sm_bn (sm_pf os ls st M) K := by
  unfold sm_pfK sm_pf
  split
  · rw [sm_bn_bif]
    split
    · rfl
    · rw [sm_bn_if, sm_bn_if]; rfl
  · rfl
theorem sm_ialK_eq (al : Nat → Nat → Nat × Nat) (sc : Nat × (Nat → Int32)) (z : Nat) (K : sm_L → List sm_v → sm_M → Option sm_R) (ls : sm_L) (st : List sm_v) (M : sm_M) : sm_ialK al sc z K ls st M = sm_bn (sm_ial al sc z ls st M) K := by
  unfold sm_ialK sm_ial
  split
  · dsimp only
    rw [sm_bn_bif, sm_bn_bif, sm_bn_if, sm_bn_if]; rfl
  · rfl
theorem sm_lalK_eq (al : Nat → Nat → Nat × Nat) (K : sm_L → List sm_v → sm_M → Option sm_R) (ls : sm_L) (st : List sm_v) (M : sm_M) : sm_lalK al K ls st M = sm_bn (sm_lal al ls st M) K := by
  unfold sm_lalK sm_lal
  split
  · dsimp only
    rw [sm_bn_bif, sm_bn_if]; rfl
  · rfl
theorem sm_aalK_eq (al : Nat → Nat → Nat × Nat) (K : sm_L → List sm_v → sm_M → Option sm_R) (ls : sm_L) (st : List sm_v) (M : sm_M) : sm_aalK al K ls st M = sm_bn (sm_aal al ls st M) K := by
  unfold sm_aalK sm_aal
  split
  · dsimp only
    rw [sm_bn_bif, sm_bn_if]; rfl
  · rfl
theorem sm_iasK_eq (al : Nat → Nat → Nat × Nat) (K : sm_L → List sm_v → sm_M → Option sm_R) (ls : sm_L) (st : List sm_v) (M : sm_M) : sm_iasK al K ls st M = sm_bn (sm_ias al ls st M) K := by
  unfold sm_iasK sm_ias
  split
  · dsimp only
    rw [sm_bn_bif, sm_bn_if]; rfl
  · rfl
theorem sm_zasK_eq (al : Nat → Nat → Nat × Nat) (K : sm_L → List sm_v → sm_M → Option sm_R) (ls : sm_L) (st : List sm_v) (M : sm_M) : sm_zasK al K ls st M = sm_bn (sm_zas al ls st M) K := by
  unfold sm_zasK sm_zas
  split
  · dsimp only
    rw [sm_bn_bif, sm_bn_if]; rfl
  · rfl
theorem sm_lasK_eq (al : Nat → Nat → Nat × Nat) (K : sm_L → List sm_v → sm_M → Option sm_R) (ls : sm_L) (st : List sm_v) (M : sm_M) : sm_lasK al K ls st M = sm_bn (sm_las al ls st M) K := by
  unfold sm_lasK sm_las
  split
  · dsimp only
    rw [sm_bn_bif, sm_bn_if]; rfl
  · rfl
theorem sm_bn_c {o : Option sm_S} {K : sm_L → List sm_v → sm_M → Option sm_R} {Kn : Nat → sm_L → List sm_v → sm_M → Option sm_R} {R : sm_R} (hK : ∀ ls st M, K ls st M = some R → sm_E (fun n => Kn n ls st M) R) (h : sm_bn o K = some R) : sm_E (fun n => sm_bn o (Kn n)) R := by
  match o, h with
  | some (ls, st, M), h => exact hK ls st M h
theorem sm_l_c {al : Nat → Nat → Nat × Nat} {sc : Nat × (Nat → Int32)} {C : Nat → List sm_v → sm_M → Option sm_R} {Cn : Nat → Nat → List sm_v → sm_M → Option sm_R} {G : Nat → sm_L → List sm_v → sm_M → Option sm_R} {Gn : Nat → Nat → sm_L → List sm_v → sm_M → Option sm_R} {R : sm_R}
    (hC : ∀ m a M r, C m a M = some r → sm_E (fun n => Cn n m a M) r) (hG : ∀ b ls st M, G b ls st M = some R → sm_E (fun n => Gn n b ls st M) R) :
    ∀ (is : List sm_I) (ls : sm_L) (st : List sm_v) (M : sm_M), sm_l al sc C G is ls st M = some R → sm_E (fun n => sm_l al sc (Cn n) (Gn n) is ls st M) R := by
  intro is
  induction is with
  | nil => intro ls st M h; cases h
  | cons i is ih =>
    intro ls st M h
    unfold sm_l at h ⊢
    split at h
    · split at h
      · exact hG _ _ _ _ h
      · cases h
    · split at h
      · exact hG _ _ _ _ h
      · cases h
    · split at h
      · exact sm_if_c (fun t => hG t _ _ _) _ _ _ _ h
      · cases h
    · split at h
      · exact sm_if_c (fun t => hG t _ _ _) _ _ _ _ h
      · cases h
    · split at h
      · exact sm_sw_c (fun t => hG t _ _ _) (hG _ _ _ _) _ _ _ h
      · cases h
    · exact sm_cl_c hC (fun st M => ih _ st M) _ _ _ h
    · exact sm_iv_c h (fun h => sm_cl_c hC (fun st M => ih _ st M) _ _ _ h)
    · exact sm_E.const h
    · exact sm_E.const h
    · exact sm_E.const h
    · exact sm_E.const h
    · exact sm_E.const h
    · simp only [sm_bdK_eq] at h ⊢
      exact sm_bn_c (fun ls st M => ih ls st M) h
    · simp only [sm_bdK_eq] at h ⊢
      exact sm_bn_c (fun ls st M => ih ls st M) h
    · simp only [sm_pfK_eq] at h ⊢
      exact sm_bn_c (fun ls st M => ih ls st M) h
    · simp only [sm_ialK_eq] at h ⊢
      exact sm_bn_c (fun ls st M => ih ls st M) h
    · simp only [sm_ialK_eq] at h ⊢
      exact sm_bn_c (fun ls st M => ih ls st M) h
    · simp only [sm_lalK_eq] at h ⊢
      exact sm_bn_c (fun ls st M => ih ls st M) h
    · simp only [sm_aalK_eq] at h ⊢
      exact sm_bn_c (fun ls st M => ih ls st M) h
    · simp only [sm_iasK_eq] at h ⊢
      exact sm_bn_c (fun ls st M => ih ls st M) h
    · simp only [sm_zasK_eq] at h ⊢
      exact sm_bn_c (fun ls st M => ih ls st M) h
    · simp only [sm_lasK_eq] at h ⊢
      exact sm_bn_c (fun ls st M => ih ls st M) h
    · exact sm_bn_c (fun ls st M => ih ls st M) h
theorem sm_k_c {al : Nat → Nat → Nat × Nat} {sc : Nat × (Nat → Int32)} {C : Nat → List sm_v → sm_M → Option sm_R} {Cn : Nat → Nat → List sm_v → sm_M → Option sm_R} {ct : Nat → Bool} {lv : Nat → List Nat} {cd : Nat → List sm_I} {J : Nat → List sm_v → List sm_v → sm_M → Option sm_R} {Jn : Nat → Nat → List sm_v → List sm_v → sm_M → Option sm_R} {R : sm_R}
    (hC : ∀ m a M r, C m a M = some r → sm_E (fun n => Cn n m a M) r) (hJ : ∀ b vs st M, J b vs st M = some R → sm_E (fun n => Jn n b vs st M) R) :
    ∀ (k b : Nat) (ls : sm_L) (st : List sm_v) (M : sm_M), sm_k al sc C ct lv J cd k b ls st M = some R → sm_E (fun n => sm_k al sc (Cn n) ct lv (Jn n) cd k b ls st M) R := by
  intro k
  induction k with
  | zero => intro b ls st M h; cases h
  | succ k ih =>
    intro b ls st M h
    refine sm_l_c (G := sm_g ct lv J (sm_k al sc C ct lv J cd k)) (Gn := fun n => sm_g ct lv (Jn n) (sm_k al sc (Cn n) ct lv (Jn n) cd k)) hC ?_ _ _ _ _ h
    intro b ls st M h
    unfold sm_g at h ⊢
    cases hb : ct b with
    | true =>
      rw [hb] at h
      cases b with
      | zero => cases h
      | succ b =>
        dsimp only at h ⊢
        cases hp : sm_pk (lv (b + 1)) ls with
        | none => rw [hp] at h; cases h
        | some vs => rw [hp] at h; exact hJ _ _ _ _ h
    | false =>
      rw [hb] at h
      exact ih _ _ _ _ h
theorem sm_wr1_n (w : Nat × Nat × List Nat) (o : Option sm_v) : sm_wr1 w o none = none := by
  rcases o with _ | (x | x | ⟨c, p, j⟩) <;> rfl
theorem sm_wr_c {w : Nat × Nat × List Nat} {C : Nat → List sm_v → sm_M → Option sm_R} {Cn : Nat → Nat → List sm_v → sm_M → Option sm_R} {a : List sm_v} {M : sm_M} {R : sm_R} (hC : ∀ m a M r, C m a M = some r → sm_E (fun n => Cn n m a M) r) (h : sm_wr w C a M = some R) : sm_E (fun n => sm_wr w (Cn n) a M) R := by
  unfold sm_wr at h ⊢
  cases hr : C w.1 a.dropLast M with
  | none =>
    rw [hr, sm_wr1_n] at h
    cases h
  | some r =>
    obtain ⟨n, hn⟩ := hC _ _ _ _ hr
    rw [hr] at h
    refine ⟨n, fun n' h' => ?_⟩
    have h2 : Cn n' w.1 a.dropLast M = some r := hn n' h'
    show sm_wr1 w a.getLast? (Cn n' w.1 a.dropLast M) = some R
    rw [h2]
    exact h
theorem sm_F_c {P : sm_P} {C : Nat → List sm_v → sm_M → Option sm_R} {Cn : Nat → Nat → List sm_v → sm_M → Option sm_R} {J : Nat → Nat → List sm_v → List sm_v → sm_M → Option sm_R} {Jn : Nat → Nat → Nat → List sm_v → List sm_v → sm_M → Option sm_R}
    (hC : ∀ m a M r, C m a M = some r → sm_E (fun n => Cn n m a M) r) (hJ : ∀ m b vs st M r, J m b vs st M = some r → sm_E (fun n => Jn n m b vs st M) r) {m b : Nat} {vs st : List sm_v} {M : sm_M} {R : sm_R} (h : sm_F P C J m b vs st M = some R) : sm_E (fun n => sm_F P (Cn n) (Jn n) m b vs st M) R := by
  unfold sm_F at h ⊢
  cases hw : P.2.2.2.2.2.1 m with
  | some w => rw [hw] at h; exact sm_wr_c hC h
  | none => rw [hw] at h; exact sm_bif_c h (fun h => sm_k_c hC (fun b vs st M h => hJ m b vs st M R h) _ _ _ _ _ h)
theorem sm_run_up (P : sm_P) : ∀ (n m b : Nat) (vs st : List sm_v) (M : sm_M) (R : sm_R), sm_run P n m b vs st M = some R → sm_run P (n + 1) m b vs st M = some R := by
  intro n
  induction n with
  | zero => intro m b vs st M R h; cases h
  | succ n ih =>
    intro m b vs st M R h
    obtain ⟨k, hk⟩ := sm_F_c (Cn := fun _ m a M => sm_run P (n + 1) m 0 a [] M) (Jn := fun _ m b vs st M => sm_run P (n + 1) m b vs st M) (fun m a M r h => sm_E.const (ih _ _ _ _ _ _ h)) (fun m b vs st M r h => sm_E.const (ih _ _ _ _ _ _ h)) (show sm_F P (fun m a M => sm_run P n m 0 a [] M) (fun m b vs st M => sm_run P n m b vs st M) m b vs st M = some R from h)
    exact hk k (Nat.le_refl k)
theorem sm_run_le (P : sm_P) {n m b : Nat} {vs st : List sm_v} {M : sm_M} {R : sm_R} (h : sm_run P n m b vs st M = some R) : ∀ k, sm_run P (n + k) m b vs st M = some R := by
  intro k
  induction k with
  | zero => exact h
  | succ k ih => exact sm_run_up P _ _ _ _ _ _ _ ih
noncomputable def sm_den (P : sm_P) (m b : Nat) (vs st : List sm_v) (M : sm_M) : Option sm_R := match Classical.propDecidable (∃ R n, sm_run P n m b vs st M = some R) with
  | .isTrue h => some (Classical.choose h)
  | .isFalse _ => none
theorem sm_den_run {P : sm_P} {m b : Nat} {vs st : List sm_v} {M : sm_M} {R : sm_R} (h : sm_den P m b vs st M = some R) : ∃ n, sm_run P n m b vs st M = some R := by
  unfold sm_den at h
  split at h
  · rename_i q _
    cases h
    exact Classical.choose_spec q
  · cases h
theorem sm_run_den {P : sm_P} {n m b : Nat} {vs st : List sm_v} {M : sm_M} {R : sm_R} (h : sm_run P n m b vs st M = some R) : sm_den P m b vs st M = some R := by
  unfold sm_den
  split
  · rename_i q _
    obtain ⟨k, hk⟩ := Classical.choose_spec q
    have h1 := sm_run_le P h k
    have h2 := sm_run_le P hk n
    rw [Nat.add_comm] at h2
    rw [h1] at h2
    rw [Option.some.inj h2]
  · rename_i q _
    exact absurd ⟨R, n, h⟩ q
theorem sm_den_E {P : sm_P} {m b : Nat} {vs st : List sm_v} {M : sm_M} {R : sm_R} (h : sm_den P m b vs st M = some R) : sm_E (fun n => sm_run P n m b vs st M) R := by
  obtain ⟨n, hn⟩ := sm_den_run h
  refine ⟨n, fun n' h' => ?_⟩
  obtain ⟨k, rfl⟩ := Nat.exists_eq_add_of_le h'
  exact sm_run_le P hn k
/-- the equation -/
theorem sm_den_eq (P : sm_P) (m b : Nat) (vs st : List sm_v) (M : sm_M) : sm_den P m b vs st M = sm_F P (fun m a M => sm_den P m 0 a [] M) (fun m b vs st M => sm_den P m b vs st M) m b vs st M := by
  have key : ∀ R, sm_den P m b vs st M = some R ↔ sm_F P (fun m a M => sm_den P m 0 a [] M) (fun m b vs st M => sm_den P m b vs st M) m b vs st M = some R := by
    intro R
    constructor
    · intro h
      obtain ⟨n, hn⟩ := sm_den_run h
      cases n with
      | zero => cases hn
      | succ n =>
        obtain ⟨k, hk⟩ := sm_F_c (Cn := fun _ m a M => sm_den P m 0 a [] M) (Jn := fun _ m b vs st M => sm_den P m b vs st M) (fun m a M r h => sm_E.const (sm_run_den h)) (fun m b vs st M r h => sm_E.const (sm_run_den h)) (show sm_F P (fun m a M => sm_run P n m 0 a [] M) (fun m b vs st M => sm_run P n m b vs st M) m b vs st M = some R from hn)
        exact hk k (Nat.le_refl k)
    · intro h
      obtain ⟨k, hk⟩ := sm_F_c (Cn := fun n m a M => sm_run P n m 0 a [] M) (Jn := fun n m b vs st M => sm_run P n m b vs st M) (fun m a M r h => sm_den_E h) (fun m b vs st M r h => sm_den_E h) h
      exact sm_run_den (n := k + 1) (hk k (Nat.le_refl k))
  cases h1 : sm_den P m b vs st M with
  | some R => exact ((key R).mp h1).symm
  | none =>
    cases h2 : sm_F P (fun m a M => sm_den P m 0 a [] M) (fun m b vs st M => sm_den P m b vs st M) m b vs st M with
    | none => rfl
    | some R => rw [(key R).mpr h2] at h1; cases h1
