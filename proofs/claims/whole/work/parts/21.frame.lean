/-! WHAT A METHOD LEAVES ALONE: cells of tags that it can't come to -/
def fr_v (S : Nat → Bool) : sm_v → Prop
  | .inr (.inr r) => S r.1 = true
  | _ => True
def fr_s (S : Nat → Bool) (st : List sm_v) : Prop := ∀ v ∈ st, fr_v S v
def fr_l (S : Nat → Bool) (ls : sm_L) : Prop := ∀ q ∈ ls, fr_v S q.2
def fr_M (S : Nat → Bool) (M N : sm_M) : Prop := ∀ c, S c = false → N.1 c = M.1 c ∧ N.2 c = M.2 c
def fr_K (S : Nat → Bool) (M : sm_M) (o : Option sm_R) : Prop := ∀ R, o = some R → fr_v S R.2.1 ∧ fr_M S M R.2.2
theorem fr_M_rfl {S : Nat → Bool} {M : sm_M} : fr_M S M M := fun _ _ => ⟨rfl, rfl⟩
theorem fr_M_tr {S : Nat → Bool} {M N O : sm_M} (h : fr_M S M N) (h2 : fr_M S N O) : fr_M S M O := fun c hc => ⟨(h2 c hc).1.trans (h c hc).1, (h2 c hc).2.trans (h c hc).2⟩
theorem fr_K_tr {S : Nat → Bool} {M N : sm_M} {o : Option sm_R} (h : fr_M S M N) (h2 : fr_K S N o) : fr_K S M o := fun R hR => ⟨(h2 R hR).1, fr_M_tr h (h2 R hR).2⟩
theorem fr_K_none {S : Nat → Bool} {M : sm_M} : fr_K S M none := fun _ h => nomatch h
theorem fr_K_some {S : Nat → Bool} {M : sm_M} {e : Nat} {v : sm_v} (h : fr_v S v) : fr_K S M (some (e, v, M)) := fun R hR => by cases hR; exact ⟨h, fr_M_rfl⟩
theorem fr_K_ite {S : Nat → Bool} {M : sm_M} {c : Prop} {hd : Decidable c} {o o2 : Option sm_R} (h : fr_K S M o) (h2 : fr_K S M o2) : fr_K S M (if c then o else o2) := by
  by_cases q : c
  · rw [if_pos q]; exact h
  · rw [if_neg q]; exact h2
theorem fr_K_bif {S : Nat → Bool} {M : sm_M} {c : Bool} {o o2 : Option sm_R} (h : c = true → fr_K S M o) (h2 : fr_K S M o2) : fr_K S M (bif c then o else o2) := by
  cases c with
  | false => exact h2
  | true => exact h rfl
theorem fr_s_cons {S : Nat → Bool} {v : sm_v} {st : List sm_v} : fr_s S (v :: st) ↔ fr_v S v ∧ fr_s S st := by
  unfold fr_s
  rw [List.forall_mem_cons]
theorem fr_v_i {S : Nat → Bool} {x : Int32} : fr_v S (.inl x) ↔ True := Iff.rfl
theorem fr_v_l {S : Nat → Bool} {x : Int64} : fr_v S (.inr (.inl x)) ↔ True := Iff.rfl
theorem fr_v_r {S : Nat → Bool} {c p j : Nat} : fr_v S (.inr (.inr (c, p, j))) ↔ S c = true := Iff.rfl
theorem fr_M_u {S : Nat → Bool} {M : sm_M} {c p j i : Nat} {x : Int32} (h : S c = true) : fr_M S M (sm_u M c p j i x) := by
  intro c' hc
  have hne : c' ≠ c := fun q => by rw [q, h] at hc; cases hc
  refine ⟨?_, rfl⟩
  funext p' j' i'
  show (if c' = c ∧ p' = p ∧ j' = j ∧ i' = i then x else M.1 c' p' j' i') = _
  rw [if_neg (fun q => hne q.1)]
theorem fr_M_w {S : Nat → Bool} {M : sm_M} {c p j i : Nat} {x : Int64} (h : S c = true) : fr_M S M (sm_w M c p j i x) := by
  intro c' hc
  have hne : c' ≠ c := fun q => by rw [q, h] at hc; cases hc
  refine ⟨rfl, ?_⟩
  funext p' j' i'
  show (if c' = c ∧ p' = p ∧ j' = j ∧ i' = i then x else M.2 c' p' j' i') = _
  rw [if_neg (fun q => hne q.1)]
theorem fr_M_cp {S : Nat → Bool} {M : sm_M} {c0 p0 j0 c p j sp dp n : Nat} (h : S c = true) : fr_M S M (sm_cp M c0 p0 j0 c p j sp dp n) := by
  intro c' hc
  have hne : c' ≠ c := fun q => by rw [q, h] at hc; cases hc
  refine ⟨?_, rfl⟩
  funext p' j'
  show (if c' = c ∧ p' = p ∧ j' = j then _ else M.1 c' p' j') = _
  rw [if_neg (fun q => hne q.1)]
theorem fr_M_fl {S : Nat → Bool} {M : sm_M} {c p j : Nat} {x : Int32} (h : S c = true) : fr_M S M (sm_fl M c p j x) := by
  intro c' hc
  have hne : c' ≠ c := fun q => by rw [q, h] at hc; cases hc
  refine ⟨?_, rfl⟩
  funext p' j'
  show (if c' = c ∧ p' = p ∧ j' = j then _ else M.1 c' p' j') = _
  rw [if_neg (fun q => hne q.1)]
theorem fr_lk {S : Nat → Bool} {k : Nat} : ∀ {ls : sm_L} {v : sm_v}, fr_l S ls → sm_lk k ls = some v → fr_v S v := by
  intro ls
  induction ls with
  | nil => intro v _ h; cases h
  | cons q l ih =>
    intro v hl h
    unfold sm_lk at h
    cases hb : Nat.beq q.1 k with
    | true => rw [hb] at h; cases h; exact hl q (List.mem_cons_self ..)
    | false => rw [hb] at h; exact ih (fun q hq => hl q (List.mem_cons_of_mem _ hq)) h
theorem fr_st1 {S : Nat → Bool} {k : Nat} {v : sm_v} {ls : sm_L} (hv : fr_v S v) (hl : fr_l S ls) : fr_l S (sm_st1 k v ls) := by
  intro q hq
  rcases List.mem_cons.mp hq with rfl | hq
  · exact hv
  · exact hl q (List.mem_filter.mp hq).1
theorem fr_st2 {S : Nat → Bool} {k : Nat} {v : sm_v} {ls : sm_L} (hv : fr_v S v) (hl : fr_l S ls) : fr_l S (sm_st2 k v ls) := by
  intro q hq
  rcases List.mem_cons.mp hq with rfl | hq
  · exact hv
  · exact hl q (List.mem_filter.mp hq).1
def fr_o (S : Nat → Bool) (M : sm_M) (o : Option sm_S) : Prop := ∀ ls st N, o = some (ls, st, N) → fr_l S ls ∧ fr_s S st ∧ fr_M S M N
theorem fr_o_none {S : Nat → Bool} {M : sm_M} : fr_o S M none := fun _ _ _ h => nomatch h
theorem fr_o_some {S : Nat → Bool} {M N : sm_M} {ls : sm_L} {st : List sm_v} (hl : fr_l S ls) (hs : fr_s S st) (hM : fr_M S M N) : fr_o S M (some (ls, st, N)) := fun _ _ _ h => by cases h; exact ⟨hl, hs, hM⟩
theorem fr_o_ite {S : Nat → Bool} {M : sm_M} {c : Prop} {hd : Decidable c} {o o2 : Option sm_S} (h : fr_o S M o) (h2 : fr_o S M o2) : fr_o S M (if c then o else o2) := by
  by_cases q : c
  · rw [if_pos q]; exact h
  · rw [if_neg q]; exact h2
theorem fr_o_bif {S : Nat → Bool} {M : sm_M} {c : Bool} {o o2 : Option sm_S} (h : c = true → fr_o S M o) (h2 : fr_o S M o2) : fr_o S M (bif c then o else o2) := by
  cases c with
  | false => exact h2
  | true => exact h rfl
/-- what a line may name -/
def fr_g (S : Nat → Bool) (os : List Nat) : Bool := match os with
  | c :: _ :: kd :: c2 :: _ => !(S c) || (Nat.ble kd 1 || S c2)
  | _ => true
def fr_c (S T : Nat → Bool) (os : List Nat) : Bool := match os with
  | 0 :: m :: _ :: rk :: rc :: _ => T m && (Nat.ble rk 2 || S rc)
  | _ => true
def fr_i (S T : Nat → Bool) (i : sm_I) : Bool := match i.1 with
  | .getfield _ => fr_g S i.2.2
  | .invokestatic _ => fr_c S T i.2.2
  | .invokevirtual _ => fr_c S T i.2.2
  | _ => true
def fr_al (S : Nat → Bool) (al : Nat → Nat → Nat × Nat) : Prop := ∀ c j, S c = true → Nat.ble 3 (al c j).1 = true → Nat.ble (al c j).1 99 = true → S ((al c j).1 - 3) = true
theorem fr_gf {S : Nat → Bool} {os : List Nat} (hg : fr_g S os = true) {ls : sm_L} {st : List sm_v} {M : sm_M} (hl : fr_l S ls) (hs : fr_s S st) : fr_o S M (sm_gf os ls st M) := by
  unfold sm_gf
  split
  · rename_i c k kd c2 s os' c' p st'
    refine fr_o_bif (fun hb => ?_) fr_o_none
    have hcc := Nat.eq_of_beq_eq_true hb
    rw [fr_s_cons, fr_v_r] at hs
    have hc : S c = true := by rw [← hcc]; exact hs.1
    refine fr_o_some hl (fr_s_cons.mpr ⟨?_, hs.2⟩) fr_M_rfl
    have hg' : (!(S c) || (Nat.ble kd 1 || S c2)) = true := hg
    rw [hc] at hg'
    match kd, hg' with
    | 0, _ => trivial
    | 1, _ => exact hc
    | 2, hg' => exact hg'
    | n + 3, hg' => exact hg'
  · exact fr_o_none
theorem fr_pf {S : Nat → Bool} {os : List Nat} {ls : sm_L} {st : List sm_v} {M : sm_M} (hl : fr_l S ls) (hs : fr_s S st) : fr_o S M (sm_pf os ls st M) := by
  unfold sm_pf
  split
  · rename_i c k z os' x c' p st'
    refine fr_o_bif (fun hb => ?_) fr_o_none
    have hcc := Nat.eq_of_beq_eq_true hb
    rw [fr_s_cons, fr_s_cons, fr_v_r] at hs
    have hc : S c = true := by rw [← hcc]; exact hs.2.1
    split
    · exact fr_o_some hl hs.2.2 (fr_M_u hc)
    · exact fr_o_ite (fr_o_some hl hs.2.2 (fr_M_u hc)) (fr_o_ite (fr_o_some hl hs.2.2 (fr_M_u hc)) fr_o_none)
  · exact fr_o_none
theorem fr_aal {S : Nat → Bool} {al : Nat → Nat → Nat × Nat} (hal : fr_al S al) {ls : sm_L} {st : List sm_v} {M : sm_M} (hl : fr_l S ls) (hs : fr_s S st) : fr_o S M (sm_aal al ls st M) := by
  unfold sm_aal
  split
  · rename_i i c p j st'
    rw [fr_s_cons, fr_s_cons, fr_v_r] at hs
    have h := hal c j hs.2.1
    dsimp only
    refine fr_o_bif (fun hb => fr_o_ite (fr_o_some hl (fr_s_cons.mpr ⟨?_, hs.2.2⟩) fr_M_rfl) fr_o_none) fr_o_none
    rw [Bool.and_eq_true] at hb
    exact h hb.1 hb.2
  · exact fr_o_none
theorem fr_s1 {S T : Nat → Bool} {al : Nat → Nat → Nat × Nat} (hal : fr_al S al) {sc : Nat × (Nat → Int32)} {i : sm_I} (hi : fr_i S T i = true) {ls : sm_L} {st : List sm_v} {M : sm_M} (hl : fr_l S ls) (hs : fr_s S st) : fr_o S M (sm_s1 al sc i ls st M) := by
  unfold sm_s1
  split
  all_goals first
    | exact fr_o_none
    | exact fr_pf hl hs
    | exact fr_aal hal hl hs
    | (refine fr_gf ?_ hl hs
       rename_i hq
       unfold fr_i at hi
       rw [hq] at hi
       exact hi)
    | (first
        | unfold sm_pi | unfold sm_pl | unfold sm_li | unfold sm_ll | unfold sm_la | unfold sm_si | unfold sm_sl | unfold sm_sa | unfold sm_ic | unfold sm_b | unfold sm_bd | unfold sm_bl | unfold sm_bs | unfold sm_cmp | unfold sm_i2l | unfold sm_l2i | unfold sm_dup | unfold sm_dup2 | unfold sm_pop | unfold sm_ial | unfold sm_lal | unfold sm_ias | unfold sm_zas | unfold sm_las | unfold sm_len
       split
       all_goals first
         | exact fr_o_none
         | exact fr_o_some hl (fr_s_cons.mpr ⟨trivial, hs⟩) fr_M_rfl
         | (rename_i hq; exact fr_o_some hl (fr_s_cons.mpr ⟨fr_lk hl hq, hs⟩) fr_M_rfl)
         | exact fr_o_some (fr_st1 (fr_s_cons.mp hs).1 hl) (fr_s_cons.mp hs).2 fr_M_rfl
         | exact fr_o_some (fr_st2 (fr_s_cons.mp hs).1 hl) (fr_s_cons.mp hs).2 fr_M_rfl
         | exact fr_o_some (fr_st1 trivial hl) hs fr_M_rfl
         | (simp only [fr_s_cons, fr_v_i, fr_v_l, fr_v_r, true_and] at hs
            first
            | exact fr_o_some hl hs fr_M_rfl
            | exact fr_o_some hl hs.2 fr_M_rfl
            | exact fr_o_some hl (by simp only [fr_s_cons, fr_v_i, fr_v_l, fr_v_r, true_and]; exact hs) fr_M_rfl
            | exact fr_o_some hl (by simp only [fr_s_cons, fr_v_i, fr_v_l, fr_v_r, true_and]; exact ⟨hs.1, hs.1, hs.2⟩) fr_M_rfl
            | exact fr_o_some hl (by simp only [fr_s_cons, fr_v_i, fr_v_l, fr_v_r, true_and]; exact ⟨hs.1, hs.1, hs⟩) fr_M_rfl
            | exact fr_o_some hl (by simp only [fr_s_cons, fr_v_i, fr_v_l, fr_v_r, true_and]; exact ⟨hs.1, hs⟩) fr_M_rfl
            | exact fr_o_some hl (by simp only [fr_s_cons, fr_v_i, fr_v_l, fr_v_r, true_and]; exact hs.2) fr_M_rfl
            | exact fr_o_ite fr_o_none (fr_o_some hl (by simp only [fr_s_cons, fr_v_i, fr_v_l, fr_v_r, true_and]; exact hs) fr_M_rfl)
            | exact fr_o_bif (fun _ => fr_o_ite (fr_o_some hl (fr_s_cons.mpr ⟨trivial, hs.2⟩) fr_M_rfl) fr_o_none) (fr_o_bif (fun _ => fr_o_ite (fr_o_some hl (fr_s_cons.mpr ⟨trivial, hs.2⟩) fr_M_rfl) fr_o_none) fr_o_none)
            | exact fr_o_bif (fun _ => fr_o_some hl (fr_s_cons.mpr ⟨trivial, hs.2⟩) fr_M_rfl) (fr_o_bif (fun _ => fr_o_some hl (fr_s_cons.mpr ⟨trivial, hs.2⟩) fr_M_rfl) fr_o_none)
            | exact fr_o_bif (fun _ => fr_o_ite (fr_o_some hl (fr_s_cons.mpr ⟨trivial, hs.2⟩) fr_M_rfl) fr_o_none) fr_o_none
            | exact fr_o_bif (fun _ => fr_o_ite (fr_o_some hl hs.2 (fr_M_u hs.1)) fr_o_none) fr_o_none
            | exact fr_o_bif (fun _ => fr_o_ite (fr_o_some hl hs.2 (fr_M_w hs.1)) fr_o_none) fr_o_none))

theorem fr_bn {S : Nat → Bool} {M : sm_M} {o : Option sm_S} (ho : fr_o S M o) {K : sm_L → List sm_v → sm_M → Option sm_R} (hK : ∀ ls st M, fr_l S ls → fr_s S st → fr_K S M (K ls st M)) : fr_K S M (sm_bn o K) := by
  rcases o with _ | ⟨ls, st, N⟩
  · exact fr_K_none
  · obtain ⟨h1, h2, h3⟩ := ho ls st N rfl
    exact fr_K_tr h3 (hK ls st N h1 h2)
theorem fr_tk {S : Nat → Bool} : ∀ (n : Nat) (a st : List sm_v) (q : List sm_v × List sm_v), fr_s S a → fr_s S st → sm_tk n a st = some q → fr_s S q.1 ∧ fr_s S q.2 := by
  intro n
  induction n with
  | zero => intro a st q ha hs h; cases h; exact ⟨ha, hs⟩
  | succ n ih =>
    intro a st q ha hs h
    match st, hs, h with
    | v :: st, hs, h => exact ih (v :: a) st q (fr_s_cons.mpr ⟨(fr_s_cons.mp hs).1, ha⟩) (fr_s_cons.mp hs).2 h
theorem fr_s_nil {S : Nat → Bool} : fr_s S [] := fun _ h => nomatch h
theorem fr_cl0 {S T : Nat → Bool} {C : Nat → List sm_v → sm_M → Option sm_R} {K : List sm_v → sm_M → Option sm_R} (hC : ∀ m a M, T m = true → fr_s S a → fr_K S M (C m a M)) (hK : ∀ st M, fr_s S st → fr_K S M (K st M)) {m n rk rc : Nat} {st : List sm_v} {M : sm_M} (hm : T m = true) (hr : (Nat.ble rk 2 || S rc) = true) (hs : fr_s S st) : fr_K S M (sm_cl0 C K m n rk rc st M) := by
  unfold sm_cl0
  split
  · rename_i a st' hq
    obtain ⟨h1, h2⟩ := fr_tk n [] st _ fr_s_nil hs hq
    refine fr_K_bif (fun _ => ?_) fr_K_none
    have hc := hC m a M hm h1
    generalize C m a M = o at hc
    rcases o with _ | ⟨e, v, N⟩
    · intro R hR
      match rk, hR with
      | 0, hR => cases hR
      | 1, hR => cases hR
      | 2, hR => cases hR
      | k + 3, hR => cases hR
    · obtain ⟨hv, hN⟩ := hc _ rfl
      match rk, hr with
      | 0, _ => match e with
        | 0 => exact fr_K_tr hN (hK _ _ h2)
        | e + 1 => exact fr_K_none
      | 1, _ => match e, v with
        | 0, .inl x => exact fr_K_tr hN (hK _ _ (fr_s_cons.mpr ⟨trivial, h2⟩))
        | 0, .inr x => exact fr_K_none
        | e + 1, _ => exact fr_K_none
      | 2, _ => match e, v with
        | 0, .inr (.inl x) => exact fr_K_tr hN (hK _ _ (fr_s_cons.mpr ⟨trivial, h2⟩))
        | 0, .inr (.inr x) => exact fr_K_none
        | 0, .inl x => exact fr_K_none
        | e + 1, _ => exact fr_K_none
      | k + 3, hr => match e, v with
        | 0, .inr (.inr (c, p, 0)) => exact fr_K_bif (fun _ => fr_K_tr hN (hK _ _ (fr_s_cons.mpr ⟨hr, h2⟩))) fr_K_none
        | 0, .inr (.inr (c, p, j + 1)) => exact fr_K_none
        | 0, .inr (.inl x) => exact fr_K_none
        | 0, .inl x => exact fr_K_none
        | e + 1, _ => exact fr_K_none
  · exact fr_K_none
theorem fr_cl {S T : Nat → Bool} {al : Nat → Nat → Nat × Nat} {C : Nat → List sm_v → sm_M → Option sm_R} {K : List sm_v → sm_M → Option sm_R} (hC : ∀ m a M, T m = true → fr_s S a → fr_K S M (C m a M)) (hK : ∀ st M, fr_s S st → fr_K S M (K st M)) {os : List Nat} (ho : fr_c S T os = true) {st : List sm_v} {M : sm_M} (hs : fr_s S st) : fr_K S M (sm_cl al C K os st M) := by
  unfold sm_cl
  split
  · have h : (_ && _) = true := ho
    rw [Bool.and_eq_true] at h
    exact fr_cl0 hC hK h.1 h.2 hs
  · split
    · exact fr_K_bif (fun _ => hK _ _ (fr_s_cons.mpr ⟨trivial, (fr_s_cons.mp (fr_s_cons.mp hs).2).2⟩)) fr_K_none
    · exact fr_K_none
  · split
    · exact fr_K_bif (fun _ => hK _ _ (fr_s_cons.mpr ⟨trivial, (fr_s_cons.mp (fr_s_cons.mp hs).2).2⟩)) fr_K_none
    · exact fr_K_none
  · split
    · simp only [fr_s_cons, fr_v_i, fr_v_l, fr_v_r, true_and] at hs
      exact fr_K_bif (fun _ => fr_K_ite (fr_K_tr (fr_M_cp hs.1) (hK _ _ hs.2.2)) fr_K_none) fr_K_none
    · exact fr_K_none
  · split
    · simp only [fr_s_cons, fr_v_i, fr_v_l, fr_v_r, true_and] at hs
      exact fr_K_bif (fun _ => fr_K_tr (fr_M_fl hs.1) (hK _ _ hs.2)) fr_K_none
    · exact fr_K_none
  · exact fr_K_none
theorem fr_if {S : Nat → Bool} {M : sm_M} {G : Nat → Option sm_R} (hG : ∀ t, fr_K S M (G t)) {c : Jvm.ClassFile.Cond} {x y : Int32} {os : List Nat} : fr_K S M (sm_if G c x y os) := by
  unfold sm_if
  split
  · cases c <;> exact fr_K_ite (hG _) (hG _)
  · exact fr_K_none
theorem fr_sw {S : Nat → Bool} {M : sm_M} {x : Int32} {d : Option sm_R} {G : Nat → Option sm_R} (hd : fr_K S M d) (hG : ∀ t, fr_K S M (G t)) : ∀ (ks : List sm_v) (ts : List Nat), fr_K S M (sm_sw x d G ks ts) := by
  intro ks
  induction ks with
  | nil => intro ts; cases ts <;> exact hd
  | cons k ks ih =>
    intro ts
    match k, ts with
    | .inl k, t :: ts => exact fr_K_ite (hG _) (ih ts)
    | .inl k, [] => exact hd
    | .inr (.inl k), [] => exact hd
    | .inr (.inr k), [] => exact hd
    | .inr (.inl k), t :: ts => exact hd
    | .inr (.inr k), t :: ts => exact hd
theorem fr_sml {S T : Nat → Bool} {al : Nat → Nat → Nat × Nat} (hal : fr_al S al) {sc : Nat × (Nat → Int32)} {C : Nat → List sm_v → sm_M → Option sm_R} {G : Nat → sm_L → List sm_v → sm_M → Option sm_R}
    (hC : ∀ m a M, T m = true → fr_s S a → fr_K S M (C m a M)) (hG : ∀ b ls st M, fr_l S ls → fr_s S st → fr_K S M (G b ls st M)) :
    ∀ (is : List sm_I), is.all (fr_i S T) = true → ∀ (ls : sm_L) (st : List sm_v) (M : sm_M), fr_l S ls → fr_s S st → fr_K S M (sm_l al sc C G is ls st M) := by
  intro is
  induction is with
  | nil => intro _ ls st M _ _; exact fr_K_none
  | cons i is ih =>
    intro ha ls st M hl hs
    rw [List.all_cons, Bool.and_eq_true] at ha
    have hi := ha.1
    have ih := ih ha.2
    have hN : ∀ st M, fr_s S st → fr_K S M (sm_l al sc C G is ls st M) := fun st M h => ih ls st M hl h
    have hB : ∀ {o}, fr_o S M o → fr_K S M (sm_bn o (fun ls st M => sm_l al sc C G is ls st M)) := fun h => fr_bn h (fun ls st M hl hs => ih ls st M hl hs)
    unfold sm_l
    have h1 := fr_s1 hal (sc := sc) hi hl hs (M := M)
    unfold sm_s1 at h1
    unfold fr_i at hi
    split
    · split
      · exact hG _ _ _ _ hl hs
      · exact fr_K_none
    · split
      · exact hG _ _ _ _ hl hs
      · exact fr_K_none
    · split
      · exact fr_if (fun t => hG t _ _ _ hl (fr_s_cons.mp (fr_s_cons.mp hs).2).2)
      · exact fr_K_none
    · split
      · exact fr_if (fun t => hG t _ _ _ hl (fr_s_cons.mp hs).2)
      · exact fr_K_none
    · split
      · exact fr_sw (hG _ _ _ _ hl (fr_s_cons.mp hs).2) (fun t => hG t _ _ _ hl (fr_s_cons.mp hs).2) _ _
      · exact fr_K_none
    · rename_i hq
      rw [hq] at hi
      exact fr_cl hC hN hi hs
    · rename_i hq
      rw [hq] at hi
      unfold sm_iv
      split
      · split
        · exact fr_K_bif (fun _ => fr_cl hC hN hi hs) fr_K_none
        · exact fr_K_none
      · exact fr_K_none
    · split
      · exact fr_K_some trivial
      · exact fr_K_ite (fr_K_some trivial) (fr_K_ite (fr_K_some trivial) fr_K_none)
      · exact fr_K_none
    · split
      · exact fr_K_some trivial
      · exact fr_K_none
    · split
      · exact fr_K_some (fr_s_cons.mp hs).1
      · exact fr_K_none
    · split
      · exact fr_K_some trivial
      · exact fr_K_none
    · split
      · exact fr_K_some trivial
      · exact fr_K_none
    all_goals first
      | (rename_i hq; rw [hq] at h1
         first
         | rw [sm_bdK_eq]; exact hB h1
         | rw [sm_pfK_eq]; exact hB h1
         | rw [sm_ialK_eq]; exact hB h1
         | rw [sm_lalK_eq]; exact hB h1
         | rw [sm_aalK_eq]; exact hB h1
         | rw [sm_iasK_eq]; exact hB h1
         | rw [sm_zasK_eq]; exact hB h1
         | rw [sm_lasK_eq]; exact hB h1)
      | exact hB (fr_s1 hal (by unfold fr_i; exact hi) hl hs)
theorem fr_pk {S : Nat → Bool} {ls : sm_L} (hl : fr_l S ls) : ∀ (ks : List Nat) (vs : List sm_v), sm_pk ks ls = some vs → fr_s S vs := by
  intro ks
  induction ks with
  | nil => intro vs h; cases h; exact fr_s_nil
  | cons k ks ih =>
    intro vs h
    unfold sm_pk at h
    cases hk : sm_lk k ls with
    | none => rw [hk] at h; cases h
    | some v =>
      rw [hk] at h
      dsimp only at h
      cases hp : sm_pk ks ls with
      | none => rw [hp] at h; cases h
      | some vs' =>
        rw [hp] at h
        cases h
        exact fr_s_cons.mpr ⟨fr_lk hl hk, ih vs' hp⟩
theorem fr_smk {S T : Nat → Bool} {al : Nat → Nat → Nat × Nat} (hal : fr_al S al) {sc : Nat × (Nat → Int32)} {C : Nat → List sm_v → sm_M → Option sm_R} {ct : Nat → Bool} {lv : Nat → List Nat} {J : Nat → List sm_v → List sm_v → sm_M → Option sm_R} {cd : Nat → List sm_I}
    (hC : ∀ m a M, T m = true → fr_s S a → fr_K S M (C m a M)) (hJ : ∀ b vs st M, fr_s S vs → fr_s S st → fr_K S M (J b vs st M)) (hcd : ∀ b, (cd b).all (fr_i S T) = true) :
    ∀ (k b : Nat) (ls : sm_L) (st : List sm_v) (M : sm_M), fr_l S ls → fr_s S st → fr_K S M (sm_k al sc C ct lv J cd k b ls st M) := by
  intro k
  induction k with
  | zero => intro b ls st M _ _; exact fr_K_none
  | succ k ih =>
    intro b ls st M hl hs
    refine fr_sml hal hC ?_ (cd b) (hcd b) ls st M hl hs
    intro b ls st M hl hs
    unfold sm_g
    split
    · split
      · exact fr_K_none
      · split
        · rename_i hq; exact hJ _ _ _ _ (fr_pk hl _ _ hq) hs
        · exact fr_K_none
    · exact ih _ _ _ _ hl hs
theorem fr_ent {S : Nat → Bool} : ∀ (vs : List sm_v) (k : Nat), fr_s S vs → fr_l S (sm_ent k vs) := by
  intro vs
  induction vs with
  | nil => intro k _ q hq; cases hq
  | cons v vs ih =>
    intro k h q hq
    rcases List.mem_cons.mp hq with rfl | hq
    · exact (fr_s_cons.mp h).1
    · exact ih _ (fr_s_cons.mp h).2 q hq
theorem fr_st0 {S : Nat → Bool} {lv : Nat → List Nat} {vs : List sm_v} {b : Nat} (h : fr_s S vs) : fr_l S (sm_st0 lv vs b) := by
  cases b with
  | zero => exact fr_ent vs 0 h
  | succ b => intro q hq; exact h _ (List.of_mem_zip hq).2
theorem fr_run {S T : Nat → Bool} {P : sm_P} (hal : fr_al S P.1) (hT : ∀ m, T m = true → P.2.2.2.2.2.1 m = none) (hcd : ∀ m, T m = true → ∀ b, (P.2.2.1 m b).all (fr_i S T) = true) :
    ∀ (n m b : Nat) (vs st : List sm_v) (M : sm_M), T m = true → fr_s S vs → fr_s S st → fr_K S M (sm_run P n m b vs st M) := by
  intro n
  induction n with
  | zero => intro m b vs st M _ _ _; exact fr_K_none
  | succ n ih =>
    intro m b vs st M hm hv hs
    show fr_K S M (sm_F P (fun m a M => sm_run P n m 0 a [] M) (fun m b vs st M => sm_run P n m b vs st M) m b vs st M)
    unfold sm_F
    rw [hT m hm]
    exact fr_K_bif (fun _ => fr_smk hal (fun m a M hm ha => ih m 0 a [] M hm ha fr_s_nil) (fun b vs st M hv hs => ih m b vs st M hm hv hs) (hcd m hm) _ _ _ _ _ (fr_st0 hv) hs) fr_K_none
theorem fr_den {S T : Nat → Bool} {P : sm_P} (hal : fr_al S P.1) (hT : ∀ m, T m = true → P.2.2.2.2.2.1 m = none) (hcd : ∀ m, T m = true → ∀ b, (P.2.2.1 m b).all (fr_i S T) = true) {m b : Nat} {vs st : List sm_v} {M : sm_M} (hm : T m = true) (hv : fr_s S vs) (hs : fr_s S st) : fr_K S M (sm_den P m b vs st M) := by
  intro R hR
  obtain ⟨n, hn⟩ := sm_den_run hR
  exact fr_run hal hT hcd n m b vs st M hm hv hs R hn
/-- the class's tags and the reference's -/
def fr_Sc (c : Nat) : Bool := Nat.ble c 9
def fr_Sm (c : Nat) : Bool := Nat.beq c 10
def fr_Tc (m : Nat) : Bool := Nat.blt m 177
def fr_Tm (m : Nat) : Bool := Nat.ble 177 m && Nat.blt m 263
theorem fr_all {S T : Nat → Bool} {l : List (List sm_I)} (h : (l.all fun is => is.all (fr_i S T)) = true) (b : Nat) : ((l.getD b []).all (fr_i S T)) = true := by
  rw [List.getD_eq_getElem?_getD]
  cases hb : l[b]? with
  | none => rfl
  | some is => exact List.all_eq_true.mp h is (List.mem_of_getElem? hb)
theorem fr_al_L {S : Nat → Bool} (h : (∀ c, c < 11 → ∀ j, j < 44 → S c = true → Nat.ble 3 (((lt_alL.getD c []).getD j (9999, 0)).1) = true → Nat.ble (((lt_alL.getD c []).getD j (9999, 0)).1) 99 = true → S ((((lt_alL.getD c []).getD j (9999, 0)).1) - 3) = true)) : fr_al S lt_al := by
  intro c j hc h1 h2
  revert h1 h2
  unfold lt_al
  split
  · split
    · intro h1 h2; exact absurd h1 (by decide)
    · intro h1 h2; exact absurd h2 (by decide)
  · split
    · intro h1 h2; exact absurd h2 (by decide)
    · intro h1 h2; exact absurd h2 (by decide)
  · intro h1 h2
    by_cases q : c < 11 ∧ j < 44
    · exact h c q.1 j q.2 hc h1 h2
    · have hd : (lt_alL.getD c []).getD j (9999, 0) = (9999, 0) := by
        rw [List.getD_eq_getElem?_getD, List.getElem?_eq_none]
        · rfl
        · by_cases q1 : c < 11
          · have : ∀ c, c < 11 → (lt_alL.getD c []).length ≤ 44 := by decide
            exact Nat.le_trans (this c q1) (by omega)
          · rw [List.getD_eq_getElem?_getD, List.getElem?_eq_none]
            · exact Nat.zero_le _
            · show 11 ≤ c
              omega
      rw [hd] at h2
      exact absurd h2 (by decide)
theorem fr_alc : fr_al fr_Sc lt_al := fr_al_L (by decide +kernel)
theorem fr_alm : fr_al fr_Sm lt_al := fr_al_L (by decide +kernel)
theorem fm_0 : ∀ b, (lt_cd 0 b).all (fr_i fr_Sc fr_Tc) = true := fr_all (l := [i_Body_restart_0]) (by decide +kernel)
theorem fm_1 : ∀ b, (lt_cd 1 b).all (fr_i fr_Sc fr_Tc) = true := fr_all (l := [i_Body_life_0]) (by decide +kernel)
theorem fm_2 : ∀ b, (lt_cd 2 b).all (fr_i fr_Sc fr_Tc) = true := fr_all (l := [i_Body_broken_0]) (by decide +kernel)
theorem fm_3 : ∀ b, (lt_cd 3 b).all (fr_i fr_Sc fr_Tc) = true := fr_all (l := [i_Body_spot_0]) (by decide +kernel)
theorem fm_4 : ∀ b, (lt_cd 4 b).all (fr_i fr_Sc fr_Tc) = true := fr_all (l := [i_Body_goTo_0]) (by decide +kernel)
theorem fm_5 : ∀ b, (lt_cd 5 b).all (fr_i fr_Sc fr_Tc) = true := fr_all (l := [i_Body_stepOf_0, i_Body_stepOf_1, i_Body_stepOf_2, i_Body_stepOf_3]) (by decide +kernel)
theorem fm_6 : ∀ b, (lt_cd 6 b).all (fr_i fr_Sc fr_Tc) = true := fr_all (l := [i_Body_setStep_0, i_Body_setStep_1, i_Body_setStep_2]) (by decide +kernel)
theorem fm_7 : ∀ b, (lt_cd 7 b).all (fr_i fr_Sc fr_Tc) = true := fr_all (l := [i_Body_valueOf_0, i_Body_valueOf_1, i_Body_valueOf_2, i_Body_valueOf_3, i_Body_valueOf_4, i_Body_valueOf_5]) (by decide +kernel)
theorem fm_8 : ∀ b, (lt_cd 8 b).all (fr_i fr_Sc fr_Tc) = true := fr_all (l := [i_Body_kindOf_0, i_Body_kindOf_1, i_Body_kindOf_2, i_Body_kindOf_3, i_Body_kindOf_4]) (by decide +kernel)
theorem fm_9 : ∀ b, (lt_cd 9 b).all (fr_i fr_Sc fr_Tc) = true := fr_all (l := [i_Body_hasNothing_0, i_Body_hasNothing_1, i_Body_hasNothing_2, i_Body_hasNothing_3]) (by decide +kernel)
theorem fm_10 : ∀ b, (lt_cd 10 b).all (fr_i fr_Sc fr_Tc) = true := fr_all (l := [i_Body_owns_0, i_Body_owns_1, i_Body_owns_2, i_Body_owns_3, i_Body_owns_4, i_Body_owns_5]) (by decide +kernel)
theorem fm_11 : ∀ b, (lt_cd 11 b).all (fr_i fr_Sc fr_Tc) = true := fr_all (l := [i_Body_ownsLinear_0, i_Body_ownsLinear_1, i_Body_ownsLinear_2, i_Body_ownsLinear_3, i_Body_ownsLinear_4]) (by decide +kernel)
theorem fm_12 : ∀ b, (lt_cd 12 b).all (fr_i fr_Sc fr_Tc) = true := fr_all (l := [i_Body_shares_0, i_Body_shares_1, i_Body_shares_2, i_Body_shares_3, i_Body_shares_4, i_Body_shares_5]) (by decide +kernel)
theorem fm_13 : ∀ b, (lt_cd 13 b).all (fr_i fr_Sc fr_Tc) = true := fr_all (l := [i_Body_borrows_0, i_Body_borrows_1, i_Body_borrows_2, i_Body_borrows_3, i_Body_borrows_4, i_Body_borrows_5]) (by decide +kernel)
theorem fm_14 : ∀ b, (lt_cd 14 b).all (fr_i fr_Sc fr_Tc) = true := fr_all (l := [i_Body_isLapsed_0, i_Body_isLapsed_1, i_Body_isLapsed_2, i_Body_isLapsed_3, i_Body_isLapsed_4, i_Body_isLapsed_5]) (by decide +kernel)
theorem fm_15 : ∀ b, (lt_cd 15 b).all (fr_i fr_Sc fr_Tc) = true := fr_all (l := [i_Body_own_0, i_Body_own_1, i_Body_own_2]) (by decide +kernel)
theorem fm_16 : ∀ b, (lt_cd 16 b).all (fr_i fr_Sc fr_Tc) = true := fr_all (l := [i_Body_move_0, i_Body_move_1, i_Body_move_2, i_Body_move_3, i_Body_move_4, i_Body_move_5, i_Body_move_6, i_Body_move_7, i_Body_move_8, i_Body_move_9]) (by decide +kernel)
theorem fm_17 : ∀ b, (lt_cd 17 b).all (fr_i fr_Sc fr_Tc) = true := fr_all (l := [i_Body_handOver_0, i_Body_handOver_1, i_Body_handOver_2]) (by decide +kernel)
theorem fm_18 : ∀ b, (lt_cd 18 b).all (fr_i fr_Sc fr_Tc) = true := fr_all (l := [i_Body_free_0]) (by decide +kernel)
theorem fm_19 : ∀ b, (lt_cd 19 b).all (fr_i fr_Sc fr_Tc) = true := fr_all (l := [i_Body_read_0]) (by decide +kernel)
theorem fm_20 : ∀ b, (lt_cd 20 b).all (fr_i fr_Sc fr_Tc) = true := fr_all (l := [i_Body_write_0]) (by decide +kernel)
theorem fm_21 : ∀ b, (lt_cd 21 b).all (fr_i fr_Sc fr_Tc) = true := fr_all (l := [i_Body_share_0, i_Body_share_1, i_Body_share_2]) (by decide +kernel)
theorem fm_22 : ∀ b, (lt_cd 22 b).all (fr_i fr_Sc fr_Tc) = true := fr_all (l := [i_Body_lend_0]) (by decide +kernel)
theorem fm_23 : ∀ b, (lt_cd 23 b).all (fr_i fr_Sc fr_Tc) = true := fr_all (l := [i_Body_borrow_0, i_Body_borrow_1, i_Body_borrow_2, i_Body_borrow_3, i_Body_borrow_4, i_Body_borrow_5, i_Body_borrow_6]) (by decide +kernel)
theorem fm_24 : ∀ b, (lt_cd 24 b).all (fr_i fr_Sc fr_Tc) = true := fr_all (l := [i_Body_vacate_0, i_Body_vacate_1, i_Body_vacate_2, i_Body_vacate_3]) (by decide +kernel)
theorem fm_25 : ∀ b, (lt_cd 25 b).all (fr_i fr_Sc fr_Tc) = true := fr_all (l := [i_Body_clear_0, i_Body_clear_1, i_Body_clear_2, i_Body_clear_3]) (by decide +kernel)
theorem fm_26 : ∀ b, (lt_cd 26 b).all (fr_i fr_Sc fr_Tc) = true := fr_all (l := [i_Body_endAll_0]) (by decide +kernel)
theorem fm_27 : ∀ b, (lt_cd 27 b).all (fr_i fr_Sc fr_Tc) = true := fr_all (l := [i_Body_endShares_0, i_Body_endShares_1, i_Body_endShares_2, i_Body_endShares_3, i_Body_endShares_4, i_Body_endShares_5, i_Body_endShares_6]) (by decide +kernel)
theorem fm_28 : ∀ b, (lt_cd 28 b).all (fr_i fr_Sc fr_Tc) = true := fr_all (l := [i_Body_endLoans_0, i_Body_endLoans_1, i_Body_endLoans_2, i_Body_endLoans_3, i_Body_endLoans_4, i_Body_endLoans_5, i_Body_endLoans_6, i_Body_endLoans_7]) (by decide +kernel)
theorem fm_29 : ∀ b, (lt_cd 29 b).all (fr_i fr_Sc fr_Tc) = true := fr_all (l := [i_Body_die_0]) (by decide +kernel)
theorem fm_30 : ∀ b, (lt_cd 30 b).all (fr_i fr_Sc fr_Tc) = true := fr_all (l := [i_Body_finish_0]) (by decide +kernel)
theorem fm_31 : ∀ b, (lt_cd 31 b).all (fr_i fr_Sc fr_Tc) = true := fr_all (l := [i_Body_dropOwned_0, i_Body_dropOwned_1, i_Body_dropOwned_2, i_Body_dropOwned_3, i_Body_dropOwned_4, i_Body_dropOwned_5]) (by decide +kernel)
theorem fm_32 : ∀ b, (lt_cd 32 b).all (fr_i fr_Sc fr_Tc) = true := fr_all (l := [i_Body_latestOwner_0, i_Body_latestOwner_1, i_Body_latestOwner_2, i_Body_latestOwner_3, i_Body_latestOwner_4, i_Body_latestOwner_5, i_Body_latestOwner_6, i_Body_latestOwner_7, i_Body_latestOwner_8, i_Body_latestOwner_9, i_Body_latestOwner_10, i_Body_latestOwner_11, i_Body_latestOwner_12]) (by decide +kernel)
theorem fm_33 : ∀ b, (lt_cd 33 b).all (fr_i fr_Sc fr_Tc) = true := fr_all (l := [i_Channels_size_0]) (by decide +kernel)
theorem fm_34 : ∀ b, (lt_cd 34 b).all (fr_i fr_Sc fr_Tc) = true := fr_all (l := [i_Channels_isFull_0, i_Channels_isFull_1, i_Channels_isFull_2, i_Channels_isFull_3]) (by decide +kernel)
theorem fm_35 : ∀ b, (lt_cd 35 b).all (fr_i fr_Sc fr_Tc) = true := fr_all (l := [i_Channels_have_0, i_Channels_have_1, i_Channels_have_2, i_Channels_have_3, i_Channels_have_4, i_Channels_have_5]) (by decide +kernel)
theorem fm_36 : ∀ b, (lt_cd 36 b).all (fr_i fr_Sc fr_Tc) = true := fr_all (l := [i_Channels_add_0, i_Channels_add_1, i_Channels_add_2, i_Channels_add_3, i_Channels_add_4, i_Channels_add_5, i_Channels_add_6, i_Channels_add_7, i_Channels_add_8]) (by decide +kernel)
theorem fm_37 : ∀ b, (lt_cd 37 b).all (fr_i fr_Sc fr_Tc) = true := fr_all (l := [i_Channels_turned_0, i_Channels_turned_1, i_Channels_turned_2, i_Channels_turned_3, i_Channels_turned_4, i_Channels_turned_5]) (by decide +kernel)
theorem fm_38 : ∀ b, (lt_cd 38 b).all (fr_i fr_Sc fr_Tc) = true := fr_all (l := [i_Channels_sideOf_0, i_Channels_sideOf_1, i_Channels_sideOf_2, i_Channels_sideOf_3, i_Channels_sideOf_4, i_Channels_sideOf_5, i_Channels_sideOf_6, i_Channels_sideOf_7, i_Channels_sideOf_8]) (by decide +kernel)
theorem fm_39 : ∀ b, (lt_cd 39 b).all (fr_i fr_Sc fr_Tc) = true := fr_all (l := [i_Channels_beyond_0, i_Channels_beyond_1, i_Channels_beyond_2, i_Channels_beyond_3, i_Channels_beyond_4, i_Channels_beyond_5]) (by decide +kernel)
theorem fm_40 : ∀ b, (lt_cd 40 b).all (fr_i fr_Sc fr_Tc) = true := fr_all (l := [i_Channels_askedOf_0, i_Channels_askedOf_1, i_Channels_askedOf_2, i_Channels_askedOf_3, i_Channels_askedOf_4, i_Channels_askedOf_5, i_Channels_askedOf_6, i_Channels_askedOf_7, i_Channels_askedOf_8, i_Channels_askedOf_9, i_Channels_askedOf_10, i_Channels_askedOf_11]) (by decide +kernel)
theorem fm_41 : ∀ b, (lt_cd 41 b).all (fr_i fr_Sc fr_Tc) = true := fr_all (l := [i_Channels_suit_0, i_Channels_suit_1, i_Channels_suit_2, i_Channels_suit_3, i_Channels_suit_4]) (by decide +kernel)
theorem fm_42 : ∀ b, (lt_cd 42 b).all (fr_i fr_Sc fr_Tc) = true := fr_all (l := [i_Channels_kindAt_0, i_Channels_kindAt_1, i_Channels_kindAt_2, i_Channels_kindAt_3, i_Channels_kindAt_4, i_Channels_kindAt_5, i_Channels_kindAt_6]) (by decide +kernel)
theorem fm_43 : ∀ b, (lt_cd 43 b).all (fr_i fr_Sc fr_Tc) = true := fr_all (l := [i_Channels_nextAt_0, i_Channels_nextAt_1, i_Channels_nextAt_2, i_Channels_nextAt_3, i_Channels_nextAt_4, i_Channels_nextAt_5, i_Channels_nextAt_6, i_Channels_nextAt_7, i_Channels_nextAt_8, i_Channels_nextAt_9, i_Channels_nextAt_10, i_Channels_nextAt_11]) (by decide +kernel)
theorem fm_44 : ∀ b, (lt_cd 44 b).all (fr_i fr_Sc fr_Tc) = true := fr_all (l := [i_Code_allows_0, i_Code_allows_1, i_Code_allows_2, i_Code_allows_3, i_Code_allows_4, i_Code_allows_5, i_Code_allows_6, i_Code_allows_7, i_Code_allows_8, i_Code_allows_9, i_Code_allows_10, i_Code_allows_11, i_Code_allows_12, i_Code_allows_13, i_Code_allows_14, i_Code_allows_15, i_Code_allows_16, i_Code_allows_17, i_Code_allows_18, i_Code_allows_19, i_Code_allows_20, i_Code_allows_21, i_Code_allows_22, i_Code_allows_23, i_Code_allows_24, i_Code_allows_25, i_Code_allows_26, i_Code_allows_27, i_Code_allows_28, i_Code_allows_29, i_Code_allows_30, i_Code_allows_31, i_Code_allows_32, i_Code_allows_33, i_Code_allows_34, i_Code_allows_35, i_Code_allows_36, i_Code_allows_37]) (by decide +kernel)
theorem fm_45 : ∀ b, (lt_cd 45 b).all (fr_i fr_Sc fr_Tc) = true := fr_all (l := [i_Code_stepNeeded_0, i_Code_stepNeeded_1, i_Code_stepNeeded_2, i_Code_stepNeeded_3, i_Code_stepNeeded_4, i_Code_stepNeeded_5]) (by decide +kernel)
theorem fm_46 : ∀ b, (lt_cd 46 b).all (fr_i fr_Sc fr_Tc) = true := fr_all (l := [i_Code_wrongWay_0, i_Code_wrongWay_1, i_Code_wrongWay_2, i_Code_wrongWay_3, i_Code_wrongWay_4, i_Code_wrongWay_5, i_Code_wrongWay_6, i_Code_wrongWay_7, i_Code_wrongWay_8]) (by decide +kernel)
theorem fm_47 : ∀ b, (lt_cd 47 b).all (fr_i fr_Sc fr_Tc) = true := fr_all (l := [i_Code_size_0]) (by decide +kernel)
theorem fm_48 : ∀ b, (lt_cd 48 b).all (fr_i fr_Sc fr_Tc) = true := fr_all (l := [i_Code_isFull_0, i_Code_isFull_1, i_Code_isFull_2, i_Code_isFull_3]) (by decide +kernel)
theorem fm_49 : ∀ b, (lt_cd 49 b).all (fr_i fr_Sc fr_Tc) = true := fr_all (l := [i_Code_add_0, i_Code_add_1, i_Code_add_2]) (by decide +kernel)
theorem fm_50 : ∀ b, (lt_cd 50 b).all (fr_i fr_Sc fr_Tc) = true := fr_all (l := [i_Code_removeLast_0, i_Code_removeLast_1, i_Code_removeLast_2]) (by decide +kernel)
theorem fm_51 : ∀ b, (lt_cd 51 b).all (fr_i fr_Sc fr_Tc) = true := fr_all (l := [i_Code_whatAt_0, i_Code_whatAt_1, i_Code_whatAt_2, i_Code_whatAt_3, i_Code_whatAt_4]) (by decide +kernel)
theorem fm_52 : ∀ b, (lt_cd 52 b).all (fr_i fr_Sc fr_Tc) = true := fr_all (l := [i_Code_aAt_0, i_Code_aAt_1, i_Code_aAt_2, i_Code_aAt_3, i_Code_aAt_4]) (by decide +kernel)
theorem fm_53 : ∀ b, (lt_cd 53 b).all (fr_i fr_Sc fr_Tc) = true := fr_all (l := [i_Code_bAt_0, i_Code_bAt_1, i_Code_bAt_2, i_Code_bAt_3, i_Code_bAt_4]) (by decide +kernel)
theorem fm_54 : ∀ b, (lt_cd 54 b).all (fr_i fr_Sc fr_Tc) = true := fr_all (l := [i_Code_targetAt_0, i_Code_targetAt_1, i_Code_targetAt_2, i_Code_targetAt_3]) (by decide +kernel)
theorem fm_55 : ∀ b, (lt_cd 55 b).all (fr_i fr_Sc fr_Tc) = true := fr_all (l := [i_Code_usedAt_0, i_Code_usedAt_1, i_Code_usedAt_2, i_Code_usedAt_3]) (by decide +kernel)
theorem fm_56 : ∀ b, (lt_cd 56 b).all (fr_i fr_Sc fr_Tc) = true := fr_all (l := [i_Code_channelAt_0, i_Code_channelAt_1, i_Code_channelAt_2, i_Code_channelAt_3]) (by decide +kernel)
theorem fm_57 : ∀ b, (lt_cd 57 b).all (fr_i fr_Sc fr_Tc) = true := fr_all (l := [i_Code_after_0]) (by decide +kernel)
theorem fm_58 : ∀ b, (lt_cd 58 b).all (fr_i fr_Sc fr_Tc) = true := fr_all (l := [i_Code_jumpOf_0, i_Code_jumpOf_1, i_Code_jumpOf_2, i_Code_jumpOf_3, i_Code_jumpOf_4]) (by decide +kernel)
theorem fm_59 : ∀ b, (lt_cd 59 b).all (fr_i fr_Sc fr_Tc) = true := fr_all (l := [i_Course_isOn_0]) (by decide +kernel)
theorem fm_60 : ∀ b, (lt_cd 60 b).all (fr_i fr_Sc fr_Tc) = true := fr_all (l := [i_Course_stop_0]) (by decide +kernel)
theorem fm_61 : ∀ b, (lt_cd 61 b).all (fr_i fr_Sc fr_Tc) = true := fr_all (l := [i_Course_restart_0, i_Course_restart_1, i_Course_restart_2, i_Course_restart_3]) (by decide +kernel)
theorem fm_62 : ∀ b, (lt_cd 62 b).all (fr_i fr_Sc fr_Tc) = true := fr_all (l := [i_Course_body_0]) (by decide +kernel)
theorem fm_63 : ∀ b, (lt_cd 63 b).all (fr_i fr_Sc fr_Tc) = true := fr_all (l := [i_Course_ledger_0]) (by decide +kernel)
theorem fm_64 : ∀ b, (lt_cd 64 b).all (fr_i fr_Sc fr_Tc) = true := fr_all (l := [i_Course_countFor_0]) (by decide +kernel)
theorem fm_65 : ∀ b, (lt_cd 65 b).all (fr_i fr_Sc fr_Tc) = true := fr_all (l := [i_Course_queueOf_0, i_Course_queueOf_1, i_Course_queueOf_2, i_Course_queueOf_3]) (by decide +kernel)
theorem fm_66 : ∀ b, (lt_cd 66 b).all (fr_i fr_Sc fr_Tc) = true := fr_all (l := [i_Course_draw_0, i_Course_draw_1, i_Course_draw_2, i_Course_draw_3, i_Course_draw_4, i_Course_draw_5, i_Course_draw_6, i_Course_draw_7, i_Course_draw_8]) (by decide +kernel)
theorem fm_67 : ∀ b, (lt_cd 67 b).all (fr_i fr_Sc fr_Tc) = true := fr_all (l := [i_Course_countReady_0, i_Course_countReady_1, i_Course_countReady_2, i_Course_countReady_3, i_Course_countReady_4, i_Course_countReady_5, i_Course_countReady_6]) (by decide +kernel)
theorem fm_68 : ∀ b, (lt_cd 68 b).all (fr_i fr_Sc fr_Tc) = true := fr_all (l := [i_Course_readyAt_0, i_Course_readyAt_1, i_Course_readyAt_2, i_Course_readyAt_3, i_Course_readyAt_4, i_Course_readyAt_5, i_Course_readyAt_6, i_Course_readyAt_7]) (by decide +kernel)
theorem fm_69 : ∀ b, (lt_cd 69 b).all (fr_i fr_Sc fr_Tc) = true := fr_all (l := [i_Course_isReady_0, i_Course_isReady_1, i_Course_isReady_2, i_Course_isReady_3, i_Course_isReady_4]) (by decide +kernel)
theorem fm_70 : ∀ b, (lt_cd 70 b).all (fr_i fr_Sc fr_Tc) = true := fr_all (l := [i_Course_mustWait_0, i_Course_mustWait_1, i_Course_mustWait_2, i_Course_mustWait_3, i_Course_mustWait_4, i_Course_mustWait_5, i_Course_mustWait_6, i_Course_mustWait_7, i_Course_mustWait_8, i_Course_mustWait_9, i_Course_mustWait_10, i_Course_mustWait_11, i_Course_mustWait_12]) (by decide +kernel)
theorem fm_71 : ∀ b, (lt_cd 71 b).all (fr_i fr_Sc fr_Tc) = true := fr_all (l := [i_Course_suits_0]) (by decide +kernel)
theorem fm_72 : ∀ b, (lt_cd 72 b).all (fr_i fr_Sc fr_Tc) = true := fr_all (l := [i_Course_isBeyondDead_0, i_Course_isBeyondDead_1, i_Course_isBeyondDead_2, i_Course_isBeyondDead_3, i_Course_isBeyondDead_4]) (by decide +kernel)
theorem fm_73 : ∀ b, (lt_cd 73 b).all (fr_i fr_Sc fr_Tc) = true := fr_all (l := [i_Course_advance_0, i_Course_advance_1, i_Course_advance_2, i_Course_advance_3, i_Course_advance_4, i_Course_advance_5, i_Course_advance_6, i_Course_advance_7, i_Course_advance_8, i_Course_advance_9, i_Course_advance_10]) (by decide +kernel)
theorem fm_74 : ∀ b, (lt_cd 74 b).all (fr_i fr_Sc fr_Tc) = true := fr_all (l := [i_Course_endFault_0, i_Course_endFault_1, i_Course_endFault_2, i_Course_endFault_3, i_Course_endFault_4, i_Course_endFault_5, i_Course_endFault_6, i_Course_endFault_7, i_Course_endFault_8, i_Course_endFault_9, i_Course_endFault_10, i_Course_endFault_11]) (by decide +kernel)
theorem fm_75 : ∀ b, (lt_cd 75 b).all (fr_i fr_Sc fr_Tc) = true := fr_all (l := [i_Course_faultAt_0, i_Course_faultAt_1, i_Course_faultAt_2, i_Course_faultAt_3, i_Course_faultAt_4, i_Course_faultAt_5, i_Course_faultAt_6, i_Course_faultAt_7, i_Course_faultAt_8, i_Course_faultAt_9, i_Course_faultAt_10, i_Course_faultAt_11, i_Course_faultAt_12, i_Course_faultAt_13, i_Course_faultAt_14, i_Course_faultAt_15, i_Course_faultAt_16, i_Course_faultAt_17, i_Course_faultAt_18, i_Course_faultAt_19, i_Course_faultAt_20, i_Course_faultAt_21, i_Course_faultAt_22, i_Course_faultAt_23]) (by decide +kernel)
theorem fm_76 : ∀ b, (lt_cd 76 b).all (fr_i fr_Sc fr_Tc) = true := fr_all (l := [i_Course_kindAt_0]) (by decide +kernel)
theorem fm_77 : ∀ b, (lt_cd 77 b).all (fr_i fr_Sc fr_Tc) = true := fr_all (l := [i_Course_messageFault_0, i_Course_messageFault_1, i_Course_messageFault_2, i_Course_messageFault_3, i_Course_messageFault_4, i_Course_messageFault_5, i_Course_messageFault_6, i_Course_messageFault_7, i_Course_messageFault_8, i_Course_messageFault_9, i_Course_messageFault_10, i_Course_messageFault_11, i_Course_messageFault_12, i_Course_messageFault_13, i_Course_messageFault_14, i_Course_messageFault_15]) (by decide +kernel)
theorem fm_78 : ∀ b, (lt_cd 78 b).all (fr_i fr_Sc fr_Tc) = true := fr_all (l := [i_Course_dropWaiting_0, i_Course_dropWaiting_1, i_Course_dropWaiting_2, i_Course_dropWaiting_3, i_Course_dropWaiting_4, i_Course_dropWaiting_5, i_Course_dropWaiting_6, i_Course_dropWaiting_7, i_Course_dropWaiting_8]) (by decide +kernel)
theorem fm_79 : ∀ b, (lt_cd 79 b).all (fr_i fr_Sc fr_Tc) = true := fr_all (l := [i_Course_perform_0, i_Course_perform_1, i_Course_perform_2, i_Course_perform_3, i_Course_perform_4, i_Course_perform_5, i_Course_perform_6, i_Course_perform_7, i_Course_perform_8, i_Course_perform_9, i_Course_perform_10, i_Course_perform_11, i_Course_perform_12, i_Course_perform_13, i_Course_perform_14, i_Course_perform_15, i_Course_perform_16, i_Course_perform_17, i_Course_perform_18, i_Course_perform_19, i_Course_perform_20, i_Course_perform_21, i_Course_perform_22, i_Course_perform_23]) (by decide +kernel)
theorem fm_80 : ∀ b, (lt_cd 80 b).all (fr_i fr_Sc fr_Tc) = true := fr_all (l := [i_Course_post_0, i_Course_post_1, i_Course_post_2, i_Course_post_3, i_Course_post_4, i_Course_post_5, i_Course_post_6, i_Course_post_7]) (by decide +kernel)
theorem fm_81 : ∀ b, (lt_cd 81 b).all (fr_i fr_Sc fr_Tc) = true := fr_all (l := [i_Course_receive_0, i_Course_receive_1, i_Course_receive_2, i_Course_receive_3, i_Course_receive_4, i_Course_receive_5]) (by decide +kernel)
theorem fm_82 : ∀ b, (lt_cd 82 b).all (fr_i fr_Sc fr_Tc) = true := fr_all (l := [i_Flow_forget_0]) (by decide +kernel)
theorem fm_83 : ∀ b, (lt_cd 83 b).all (fr_i fr_Sc fr_Tc) = true := fr_all (l := [i_Flow_find_0, i_Flow_find_1, i_Flow_find_2]) (by decide +kernel)
theorem fm_84 : ∀ b, (lt_cd 84 b).all (fr_i fr_Sc fr_Tc) = true := fr_all (l := [i_Flow_errorOp_0]) (by decide +kernel)
theorem fm_85 : ∀ b, (lt_cd 85 b).all (fr_i fr_Sc fr_Tc) = true := fr_all (l := [i_Flow_firstError_0]) (by decide +kernel)
theorem fm_86 : ∀ b, (lt_cd 86 b).all (fr_i fr_Sc fr_Tc) = true := fr_all (l := [i_Flow_inTheWay_0]) (by decide +kernel)
theorem fm_87 : ∀ b, (lt_cd 87 b).all (fr_i fr_Sc fr_Tc) = true := fr_all (l := [i_Flow_isComeTo_0, i_Flow_isComeTo_1, i_Flow_isComeTo_2, i_Flow_isComeTo_3, i_Flow_isComeTo_4, i_Flow_isComeTo_5]) (by decide +kernel)
theorem fm_88 : ∀ b, (lt_cd 88 b).all (fr_i fr_Sc fr_Tc) = true := fr_all (l := [i_Flow_nameAt_0, i_Flow_nameAt_1, i_Flow_nameAt_2, i_Flow_nameAt_3, i_Flow_nameAt_4, i_Flow_nameAt_5, i_Flow_nameAt_6]) (by decide +kernel)
theorem fm_89 : ∀ b, (lt_cd 89 b).all (fr_i fr_Sc fr_Tc) = true := fr_all (l := [i_Flow_stepAt_0, i_Flow_stepAt_1, i_Flow_stepAt_2, i_Flow_stepAt_3, i_Flow_stepAt_4, i_Flow_stepAt_5, i_Flow_stepAt_6]) (by decide +kernel)
theorem fm_90 : ∀ b, (lt_cd 90 b).all (fr_i fr_Sc fr_Tc) = true := fr_all (l := [i_Flow_livesAt_0, i_Flow_livesAt_1, i_Flow_livesAt_2, i_Flow_livesAt_3, i_Flow_livesAt_4]) (by decide +kernel)
theorem fm_91 : ∀ b, (lt_cd 91 b).all (fr_i fr_Sc fr_Tc) = true := fr_all (l := [i_Flow_followAll_0, i_Flow_followAll_1, i_Flow_followAll_2, i_Flow_followAll_3, i_Flow_followAll_4, i_Flow_followAll_5, i_Flow_followAll_6, i_Flow_followAll_7, i_Flow_followAll_8, i_Flow_followAll_9, i_Flow_followAll_10, i_Flow_followAll_11, i_Flow_followAll_12, i_Flow_followAll_13, i_Flow_followAll_14, i_Flow_followAll_15, i_Flow_followAll_16]) (by decide +kernel)
theorem fm_92 : ∀ b, (lt_cd 92 b).all (fr_i fr_Sc fr_Tc) = true := fr_all (l := [i_Flow_follow_0, i_Flow_follow_1, i_Flow_follow_2, i_Flow_follow_3, i_Flow_follow_4, i_Flow_follow_5, i_Flow_follow_6]) (by decide +kernel)
theorem fm_93 : ∀ b, (lt_cd 93 b).all (fr_i fr_Sc fr_Tc) = true := fr_all (l := [i_Flow_goOn_0, i_Flow_goOn_1, i_Flow_goOn_2, i_Flow_goOn_3]) (by decide +kernel)
theorem fm_94 : ∀ b, (lt_cd 94 b).all (fr_i fr_Sc fr_Tc) = true := fr_all (l := [i_Flow_changeNames_0, i_Flow_changeNames_1, i_Flow_changeNames_2, i_Flow_changeNames_3, i_Flow_changeNames_4, i_Flow_changeNames_5, i_Flow_changeNames_6, i_Flow_changeNames_7, i_Flow_changeNames_8, i_Flow_changeNames_9, i_Flow_changeNames_10, i_Flow_changeNames_11, i_Flow_changeNames_12]) (by decide +kernel)
theorem fm_95 : ∀ b, (lt_cd 95 b).all (fr_i fr_Sc fr_Tc) = true := fr_all (l := [i_Flow_gotten_0, i_Flow_gotten_1, i_Flow_gotten_2, i_Flow_gotten_3, i_Flow_gotten_4, i_Flow_gotten_5, i_Flow_gotten_6, i_Flow_gotten_7, i_Flow_gotten_8, i_Flow_gotten_9, i_Flow_gotten_10, i_Flow_gotten_11, i_Flow_gotten_12, i_Flow_gotten_13]) (by decide +kernel)
theorem fm_96 : ∀ b, (lt_cd 96 b).all (fr_i fr_Sc fr_Tc) = true := fr_all (l := [i_Flow_taken_0, i_Flow_taken_1, i_Flow_taken_2, i_Flow_taken_3, i_Flow_taken_4, i_Flow_taken_5, i_Flow_taken_6, i_Flow_taken_7, i_Flow_taken_8]) (by decide +kernel)
theorem fm_97 : ∀ b, (lt_cd 97 b).all (fr_i fr_Sc fr_Tc) = true := fr_all (l := [i_Flow_reach_0, i_Flow_reach_1, i_Flow_reach_2, i_Flow_reach_3, i_Flow_reach_4, i_Flow_reach_5, i_Flow_reach_6, i_Flow_reach_7, i_Flow_reach_8, i_Flow_reach_9, i_Flow_reach_10, i_Flow_reach_11, i_Flow_reach_12, i_Flow_reach_13, i_Flow_reach_14, i_Flow_reach_15, i_Flow_reach_16, i_Flow_reach_17, i_Flow_reach_18, i_Flow_reach_19, i_Flow_reach_20, i_Flow_reach_21, i_Flow_reach_22, i_Flow_reach_23, i_Flow_reach_24, i_Flow_reach_25, i_Flow_reach_26]) (by decide +kernel)
theorem fm_98 : ∀ b, (lt_cd 98 b).all (fr_i fr_Sc fr_Tc) = true := fr_all (l := [i_Flow_together_0, i_Flow_together_1, i_Flow_together_2, i_Flow_together_3, i_Flow_together_4, i_Flow_together_5, i_Flow_together_6, i_Flow_together_7, i_Flow_together_8, i_Flow_together_9, i_Flow_together_10, i_Flow_together_11]) (by decide +kernel)
theorem fm_99 : ∀ b, (lt_cd 99 b).all (fr_i fr_Sc fr_Tc) = true := fr_all (l := [i_Flow_isMaybeAffine_0, i_Flow_isMaybeAffine_1, i_Flow_isMaybeAffine_2, i_Flow_isMaybeAffine_3, i_Flow_isMaybeAffine_4]) (by decide +kernel)
theorem fm_100 : ∀ b, (lt_cd 100 b).all (fr_i fr_Sc fr_Tc) = true := fr_all (l := [i_Flow_isOwner_0, i_Flow_isOwner_1, i_Flow_isOwner_2, i_Flow_isOwner_3, i_Flow_isOwner_4]) (by decide +kernel)
theorem fm_101 : ∀ b, (lt_cd 101 b).all (fr_i fr_Sc fr_Tc) = true := fr_all (l := [i_Flow_isShared_0, i_Flow_isShared_1, i_Flow_isShared_2, i_Flow_isShared_3, i_Flow_isShared_4]) (by decide +kernel)
theorem fm_102 : ∀ b, (lt_cd 102 b).all (fr_i fr_Sc fr_Tc) = true := fr_all (l := [i_Flow_isLent_0, i_Flow_isLent_1, i_Flow_isLent_2, i_Flow_isLent_3]) (by decide +kernel)
theorem fm_103 : ∀ b, (lt_cd 103 b).all (fr_i fr_Sc fr_Tc) = true := fr_all (l := [i_Flow_isTakenAway_0, i_Flow_isTakenAway_1, i_Flow_isTakenAway_2, i_Flow_isTakenAway_3, i_Flow_isTakenAway_4]) (by decide +kernel)
theorem fm_104 : ∀ b, (lt_cd 104 b).all (fr_i fr_Sc fr_Tc) = true := fr_all (l := [i_Flow_findLives_0, i_Flow_findLives_1, i_Flow_findLives_2, i_Flow_findLives_3, i_Flow_findLives_4, i_Flow_findLives_5, i_Flow_findLives_6, i_Flow_findLives_7, i_Flow_findLives_8, i_Flow_findLives_9, i_Flow_findLives_10]) (by decide +kernel)
theorem fm_105 : ∀ b, (lt_cd 105 b).all (fr_i fr_Sc fr_Tc) = true := fr_all (l := [i_Flow_livesBehind_0, i_Flow_livesBehind_1, i_Flow_livesBehind_2, i_Flow_livesBehind_3, i_Flow_livesBehind_4]) (by decide +kernel)
theorem fm_106 : ∀ b, (lt_cd 106 b).all (fr_i fr_Sc fr_Tc) = true := fr_all (l := [i_Flow_bit_0, i_Flow_bit_1, i_Flow_bit_2, i_Flow_bit_3, i_Flow_bit_4]) (by decide +kernel)
theorem fm_107 : ∀ b, (lt_cd 107 b).all (fr_i fr_Sc fr_Tc) = true := fr_all (l := [i_Flow_findError_0, i_Flow_findError_1, i_Flow_findError_2, i_Flow_findError_3, i_Flow_findError_4, i_Flow_findError_5, i_Flow_findError_6, i_Flow_findError_7, i_Flow_findError_8, i_Flow_findError_9]) (by decide +kernel)
theorem fm_108 : ∀ b, (lt_cd 108 b).all (fr_i fr_Sc fr_Tc) = true := fr_all (l := [i_Flow_errorAt_0, i_Flow_errorAt_1, i_Flow_errorAt_2, i_Flow_errorAt_3, i_Flow_errorAt_4, i_Flow_errorAt_5, i_Flow_errorAt_6, i_Flow_errorAt_7, i_Flow_errorAt_8, i_Flow_errorAt_9, i_Flow_errorAt_10, i_Flow_errorAt_11, i_Flow_errorAt_12, i_Flow_errorAt_13, i_Flow_errorAt_14, i_Flow_errorAt_15, i_Flow_errorAt_16, i_Flow_errorAt_17, i_Flow_errorAt_18]) (by decide +kernel)
theorem fm_109 : ∀ b, (lt_cd 109 b).all (fr_i fr_Sc fr_Tc) = true := fr_all (l := [i_Flow_isUnlike_0, i_Flow_isUnlike_1, i_Flow_isUnlike_2, i_Flow_isUnlike_3, i_Flow_isUnlike_4, i_Flow_isUnlike_5, i_Flow_isUnlike_6, i_Flow_isUnlike_7, i_Flow_isUnlike_8, i_Flow_isUnlike_9, i_Flow_isUnlike_10]) (by decide +kernel)
theorem fm_110 : ∀ b, (lt_cd 110 b).all (fr_i fr_Sc fr_Tc) = true := fr_all (l := [i_Flow_endErrorAt_0, i_Flow_endErrorAt_1, i_Flow_endErrorAt_2, i_Flow_endErrorAt_3, i_Flow_endErrorAt_4, i_Flow_endErrorAt_5, i_Flow_endErrorAt_6, i_Flow_endErrorAt_7, i_Flow_endErrorAt_8, i_Flow_endErrorAt_9, i_Flow_endErrorAt_10, i_Flow_endErrorAt_11]) (by decide +kernel)
theorem fm_111 : ∀ b, (lt_cd 111 b).all (fr_i fr_Sc fr_Tc) = true := fr_all (l := [i_Flow_isWrongKind_0, i_Flow_isWrongKind_1, i_Flow_isWrongKind_2, i_Flow_isWrongKind_3, i_Flow_isWrongKind_4, i_Flow_isWrongKind_5, i_Flow_isWrongKind_6, i_Flow_isWrongKind_7]) (by decide +kernel)
theorem fm_112 : ∀ b, (lt_cd 112 b).all (fr_i fr_Sc fr_Tc) = true := fr_all (l := [i_Flow_isOutOfSession_0, i_Flow_isOutOfSession_1, i_Flow_isOutOfSession_2, i_Flow_isOutOfSession_3, i_Flow_isOutOfSession_4]) (by decide +kernel)
theorem fm_113 : ∀ b, (lt_cd 113 b).all (fr_i fr_Sc fr_Tc) = true := fr_all (l := [i_Flow_borrowerAt_0, i_Flow_borrowerAt_1, i_Flow_borrowerAt_2, i_Flow_borrowerAt_3, i_Flow_borrowerAt_4, i_Flow_borrowerAt_5, i_Flow_borrowerAt_6, i_Flow_borrowerAt_7, i_Flow_borrowerAt_8, i_Flow_borrowerAt_9, i_Flow_borrowerAt_10, i_Flow_borrowerAt_11, i_Flow_borrowerAt_12]) (by decide +kernel)
theorem fm_114 : ∀ b, (lt_cd 114 b).all (fr_i fr_Sc fr_Tc) = true := fr_all (l := [i_Flow_leavesShares_0, i_Flow_leavesShares_1, i_Flow_leavesShares_2, i_Flow_leavesShares_3, i_Flow_leavesShares_4, i_Flow_leavesShares_5, i_Flow_leavesShares_6, i_Flow_leavesShares_7]) (by decide +kernel)
theorem fm_115 : ∀ b, (lt_cd 115 b).all (fr_i fr_Sc fr_Tc) = true := fr_all (l := [i_Flow_lowestBorrower_0, i_Flow_lowestBorrower_1, i_Flow_lowestBorrower_2, i_Flow_lowestBorrower_3, i_Flow_lowestBorrower_4, i_Flow_lowestBorrower_5, i_Flow_lowestBorrower_6, i_Flow_lowestBorrower_7, i_Flow_lowestBorrower_8, i_Flow_lowestBorrower_9, i_Flow_lowestBorrower_10, i_Flow_lowestBorrower_11]) (by decide +kernel)
theorem fm_116 : ∀ b, (lt_cd 116 b).all (fr_i fr_Sc fr_Tc) = true := fr_all (l := [i_Layouts_forget_0]) (by decide +kernel)
theorem fm_117 : ∀ b, (lt_cd 117 b).all (fr_i fr_Sc fr_Tc) = true := fr_all (l := [i_Layouts_answer_0, i_Layouts_answer_1, i_Layouts_answer_2]) (by decide +kernel)
theorem fm_118 : ∀ b, (lt_cd 118 b).all (fr_i fr_Sc fr_Tc) = true := fr_all (l := [i_Layouts_search_0, i_Layouts_search_1, i_Layouts_search_2, i_Layouts_search_3, i_Layouts_search_4, i_Layouts_search_5, i_Layouts_search_6, i_Layouts_search_7, i_Layouts_search_8, i_Layouts_search_9, i_Layouts_search_10, i_Layouts_search_11]) (by decide +kernel)
theorem fm_119 : ∀ b, (lt_cd 119 b).all (fr_i fr_Sc fr_Tc) = true := fr_all (l := [i_Layouts_goOn_0, i_Layouts_goOn_1, i_Layouts_goOn_2, i_Layouts_goOn_3, i_Layouts_goOn_4, i_Layouts_goOn_5, i_Layouts_goOn_6, i_Layouts_goOn_7, i_Layouts_goOn_8]) (by decide +kernel)
theorem fm_120 : ∀ b, (lt_cd 120 b).all (fr_i fr_Sc fr_Tc) = true := fr_all (l := [i_Layouts_reach_0, i_Layouts_reach_1, i_Layouts_reach_2, i_Layouts_reach_3, i_Layouts_reach_4, i_Layouts_reach_5, i_Layouts_reach_6, i_Layouts_reach_7, i_Layouts_reach_8]) (by decide +kernel)
theorem fm_121 : ∀ b, (lt_cd 121 b).all (fr_i fr_Sc fr_Tc) = true := fr_all (l := [i_Layouts_keep_0, i_Layouts_keep_1, i_Layouts_keep_2]) (by decide +kernel)
theorem fm_122 : ∀ b, (lt_cd 122 b).all (fr_i fr_Sc fr_Tc) = true := fr_all (l := [i_Layouts_allEnded_0, i_Layouts_allEnded_1, i_Layouts_allEnded_2, i_Layouts_allEnded_3, i_Layouts_allEnded_4, i_Layouts_allEnded_5]) (by decide +kernel)
theorem fm_123 : ∀ b, (lt_cd 123 b).all (fr_i fr_Sc fr_Tc) = true := fr_all (l := [i_Layouts_hasEnded_0, i_Layouts_hasEnded_1, i_Layouts_hasEnded_2, i_Layouts_hasEnded_3]) (by decide +kernel)
theorem fm_124 : ∀ b, (lt_cd 124 b).all (fr_i fr_Sc fr_Tc) = true := fr_all (l := [i_Layouts_next_0, i_Layouts_next_1, i_Layouts_next_2, i_Layouts_next_3, i_Layouts_next_4, i_Layouts_next_5, i_Layouts_next_6, i_Layouts_next_7, i_Layouts_next_8, i_Layouts_next_9, i_Layouts_next_10, i_Layouts_next_11, i_Layouts_next_12, i_Layouts_next_13]) (by decide +kernel)
theorem fm_125 : ∀ b, (lt_cd 125 b).all (fr_i fr_Sc fr_Tc) = true := fr_all (l := [i_Layouts_moved_0]) (by decide +kernel)
theorem fm_126 : ∀ b, (lt_cd 126 b).all (fr_i fr_Sc fr_Tc) = true := fr_all (l := [i_Layouts_posted_0, i_Layouts_posted_1, i_Layouts_posted_2, i_Layouts_posted_3, i_Layouts_posted_4, i_Layouts_posted_5, i_Layouts_posted_6]) (by decide +kernel)
theorem fm_127 : ∀ b, (lt_cd 127 b).all (fr_i fr_Sc fr_Tc) = true := fr_all (l := [i_Layouts_received_0, i_Layouts_received_1, i_Layouts_received_2, i_Layouts_received_3, i_Layouts_received_4, i_Layouts_received_5, i_Layouts_received_6, i_Layouts_received_7, i_Layouts_received_8, i_Layouts_received_9]) (by decide +kernel)
theorem fm_128 : ∀ b, (lt_cd 128 b).all (fr_i fr_Sc fr_Tc) = true := fr_all (l := [i_Layouts_messageAt_0]) (by decide +kernel)
theorem fm_129 : ∀ b, (lt_cd 129 b).all (fr_i fr_Sc fr_Tc) = true := fr_all (l := [i_Layouts_shiftOf_0]) (by decide +kernel)
theorem fm_130 : ∀ b, (lt_cd 130 b).all (fr_i fr_Sc fr_Tc) = true := fr_all (l := [i_Ledger_clear_0]) (by decide +kernel)
theorem fm_131 : ∀ b, (lt_cd 131 b).all (fr_i fr_Sc fr_Tc) = true := fr_all (l := [i_Ledger_numbered_0]) (by decide +kernel)
theorem fm_132 : ∀ b, (lt_cd 132 b).all (fr_i fr_Sc fr_Tc) = true := fr_all (l := [i_Ledger_told_0]) (by decide +kernel)
theorem fm_133 : ∀ b, (lt_cd 133 b).all (fr_i fr_Sc fr_Tc) = true := fr_all (l := [i_Ledger_droppedAt_0, i_Ledger_droppedAt_1, i_Ledger_droppedAt_2, i_Ledger_droppedAt_3]) (by decide +kernel)
theorem fm_134 : ∀ b, (lt_cd 134 b).all (fr_i fr_Sc fr_Tc) = true := fr_all (l := [i_Ledger_newValue_0]) (by decide +kernel)
theorem fm_135 : ∀ b, (lt_cd 135 b).all (fr_i fr_Sc fr_Tc) = true := fr_all (l := [i_Ledger_newTime_0]) (by decide +kernel)
theorem fm_136 : ∀ b, (lt_cd 136 b).all (fr_i fr_Sc fr_Tc) = true := fr_all (l := [i_Ledger_drop_0, i_Ledger_drop_1, i_Ledger_drop_2]) (by decide +kernel)
theorem fm_137 : ∀ b, (lt_cd 137 b).all (fr_i fr_Sc fr_Tc) = true := fr_all (l := [i_Messages_clear_0]) (by decide +kernel)
theorem fm_138 : ∀ b, (lt_cd 138 b).all (fr_i fr_Sc fr_Tc) = true := fr_all (l := [i_Messages_size_0, i_Messages_size_1, i_Messages_size_2, i_Messages_size_3]) (by decide +kernel)
theorem fm_139 : ∀ b, (lt_cd 139 b).all (fr_i fr_Sc fr_Tc) = true := fr_all (l := [i_Messages_valueAt_0, i_Messages_valueAt_1, i_Messages_valueAt_2, i_Messages_valueAt_3]) (by decide +kernel)
theorem fm_140 : ∀ b, (lt_cd 140 b).all (fr_i fr_Sc fr_Tc) = true := fr_all (l := [i_Messages_firstMark_0, i_Messages_firstMark_1, i_Messages_firstMark_2, i_Messages_firstMark_3]) (by decide +kernel)
theorem fm_141 : ∀ b, (lt_cd 141 b).all (fr_i fr_Sc fr_Tc) = true := fr_all (l := [i_Messages_add_0, i_Messages_add_1, i_Messages_add_2, i_Messages_add_3]) (by decide +kernel)
theorem fm_142 : ∀ b, (lt_cd 142 b).all (fr_i fr_Sc fr_Tc) = true := fr_all (l := [i_Messages_removeFirst_0, i_Messages_removeFirst_1, i_Messages_removeFirst_2, i_Messages_removeFirst_3, i_Messages_removeFirst_4, i_Messages_removeFirst_5, i_Messages_removeFirst_6]) (by decide +kernel)
theorem fm_143 : ∀ b, (lt_cd 143 b).all (fr_i fr_Sc fr_Tc) = true := fr_all (l := [i_Messages_empty_0, i_Messages_empty_1, i_Messages_empty_2]) (by decide +kernel)
theorem fm_144 : ∀ b, (lt_cd 144 b).all (fr_i fr_Sc fr_Tc) = true := fr_all (l := [i_Protocol_allows_0, i_Protocol_allows_1, i_Protocol_allows_2, i_Protocol_allows_3, i_Protocol_allows_4, i_Protocol_allows_5, i_Protocol_allows_6, i_Protocol_allows_7, i_Protocol_allows_8, i_Protocol_allows_9, i_Protocol_allows_10, i_Protocol_allows_11, i_Protocol_allows_12, i_Protocol_allows_13, i_Protocol_allows_14]) (by decide +kernel)
theorem fm_145 : ∀ b, (lt_cd 145 b).all (fr_i fr_Sc fr_Tc) = true := fr_all (l := [i_Protocol_size_0]) (by decide +kernel)
theorem fm_146 : ∀ b, (lt_cd 146 b).all (fr_i fr_Sc fr_Tc) = true := fr_all (l := [i_Protocol_isFull_0, i_Protocol_isFull_1, i_Protocol_isFull_2, i_Protocol_isFull_3]) (by decide +kernel)
theorem fm_147 : ∀ b, (lt_cd 147 b).all (fr_i fr_Sc fr_Tc) = true := fr_all (l := [i_Protocol_add_0, i_Protocol_add_1, i_Protocol_add_2]) (by decide +kernel)
theorem fm_148 : ∀ b, (lt_cd 148 b).all (fr_i fr_Sc fr_Tc) = true := fr_all (l := [i_Protocol_isWhole_0, i_Protocol_isWhole_1, i_Protocol_isWhole_2, i_Protocol_isWhole_3, i_Protocol_isWhole_4, i_Protocol_isWhole_5, i_Protocol_isWhole_6, i_Protocol_isWhole_7, i_Protocol_isWhole_8, i_Protocol_isWhole_9]) (by decide +kernel)
theorem fm_149 : ∀ b, (lt_cd 149 b).all (fr_i fr_Sc fr_Tc) = true := fr_all (l := [i_Protocol_whatAt_0, i_Protocol_whatAt_1, i_Protocol_whatAt_2, i_Protocol_whatAt_3]) (by decide +kernel)
theorem fm_150 : ∀ b, (lt_cd 150 b).all (fr_i fr_Sc fr_Tc) = true := fr_all (l := [i_Protocol_kindAt_0, i_Protocol_kindAt_1, i_Protocol_kindAt_2, i_Protocol_kindAt_3]) (by decide +kernel)
theorem fm_151 : ∀ b, (lt_cd 151 b).all (fr_i fr_Sc fr_Tc) = true := fr_all (l := [i_Protocol_nextAt_0, i_Protocol_nextAt_1, i_Protocol_nextAt_2, i_Protocol_nextAt_3, i_Protocol_nextAt_4, i_Protocol_nextAt_5, i_Protocol_nextAt_6, i_Protocol_nextAt_7, i_Protocol_nextAt_8, i_Protocol_nextAt_9, i_Protocol_nextAt_10, i_Protocol_nextAt_11]) (by decide +kernel)
theorem fm_152 : ∀ b, (lt_cd 152 b).all (fr_i fr_Sc fr_Tc) = true := fr_all (l := [i_Top_step_0, i_Top_step_1, i_Top_step_2, i_Top_step_3, i_Top_step_4, i_Top_step_5, i_Top_step_6, i_Top_step_7]) (by decide +kernel)
theorem fm_153 : ∀ b, (lt_cd 153 b).all (fr_i fr_Sc fr_Tc) = true := fr_all (l := [i_Top_channel_0, i_Top_channel_1, i_Top_channel_2, i_Top_channel_3, i_Top_channel_4, i_Top_channel_5, i_Top_channel_6, i_Top_channel_7, i_Top_channel_8, i_Top_channel_9]) (by decide +kernel)
theorem fm_154 : ∀ b, (lt_cd 154 b).all (fr_i fr_Sc fr_Tc) = true := fr_all (l := [i_Top_op_0, i_Top_op_1, i_Top_op_2, i_Top_op_3, i_Top_op_4, i_Top_op_5, i_Top_op_6]) (by decide +kernel)
theorem fm_155 : ∀ b, (lt_cd 155 b).all (fr_i fr_Sc fr_Tc) = true := fr_all (l := [i_Top_unop_0, i_Top_unop_1, i_Top_unop_2, i_Top_unop_3, i_Top_unop_4]) (by decide +kernel)
theorem fm_156 : ∀ b, (lt_cd 156 b).all (fr_i fr_Sc fr_Tc) = true := fr_all (l := [i_Top_check_0, i_Top_check_1, i_Top_check_2]) (by decide +kernel)
theorem fm_157 : ∀ b, (lt_cd 157 b).all (fr_i fr_Sc fr_Tc) = true := fr_all (l := [i_Top_error_0, i_Top_error_1, i_Top_error_2]) (by decide +kernel)
theorem fm_158 : ∀ b, (lt_cd 158 b).all (fr_i fr_Sc fr_Tc) = true := fr_all (l := [i_Top_borrower_0, i_Top_borrower_1, i_Top_borrower_2, i_Top_borrower_3, i_Top_borrower_4]) (by decide +kernel)
theorem fm_159 : ∀ b, (lt_cd 159 b).all (fr_i fr_Sc fr_Tc) = true := fr_all (l := [i_Top_holds_0, i_Top_holds_1, i_Top_holds_2, i_Top_holds_3, i_Top_holds_4, i_Top_holds_5, i_Top_holds_6]) (by decide +kernel)
theorem fm_160 : ∀ b, (lt_cd 160 b).all (fr_i fr_Sc fr_Tc) = true := fr_all (l := [i_Top_at_0, i_Top_at_1, i_Top_at_2, i_Top_at_3, i_Top_at_4, i_Top_at_5, i_Top_at_6]) (by decide +kernel)
theorem fm_161 : ∀ b, (lt_cd 161 b).all (fr_i fr_Sc fr_Tc) = true := fr_all (l := [i_Top_lives_0, i_Top_lives_1, i_Top_lives_2]) (by decide +kernel)
theorem fm_162 : ∀ b, (lt_cd 162 b).all (fr_i fr_Sc fr_Tc) = true := fr_all (l := [i_Top_stuck_0, i_Top_stuck_1, i_Top_stuck_2, i_Top_stuck_3, i_Top_stuck_4, i_Top_stuck_5]) (by decide +kernel)
theorem fm_163 : ∀ b, (lt_cd 163 b).all (fr_i fr_Sc fr_Tc) = true := fr_all (l := [i_Top_begin_0]) (by decide +kernel)
theorem fm_164 : ∀ b, (lt_cd 164 b).all (fr_i fr_Sc fr_Tc) = true := fr_all (l := [i_Top_go_0, i_Top_go_1, i_Top_go_2, i_Top_go_3, i_Top_go_4, i_Top_go_5]) (by decide +kernel)
theorem fm_165 : ∀ b, (lt_cd 165 b).all (fr_i fr_Sc fr_Tc) = true := fr_all (l := [i_Top_run_0, i_Top_run_1, i_Top_run_2, i_Top_run_3, i_Top_run_4, i_Top_run_5]) (by decide +kernel)
theorem fm_166 : ∀ b, (lt_cd 166 b).all (fr_i fr_Sc fr_Tc) = true := fr_all (l := [i_Top_state_0, i_Top_state_1, i_Top_state_2, i_Top_state_3, i_Top_state_4]) (by decide +kernel)
theorem fm_167 : ∀ b, (lt_cd 167 b).all (fr_i fr_Sc fr_Tc) = true := fr_all (l := [i_Top_fault_0, i_Top_fault_1, i_Top_fault_2, i_Top_fault_3, i_Top_fault_4]) (by decide +kernel)
theorem fm_168 : ∀ b, (lt_cd 168 b).all (fr_i fr_Sc fr_Tc) = true := fr_all (l := [i_Top_place_0, i_Top_place_1, i_Top_place_2, i_Top_place_3, i_Top_place_4]) (by decide +kernel)
theorem fm_169 : ∀ b, (lt_cd 169 b).all (fr_i fr_Sc fr_Tc) = true := fr_all (l := [i_Top_value_0, i_Top_value_1, i_Top_value_2, i_Top_value_3, i_Top_value_4, i_Top_value_5]) (by decide +kernel)
theorem fm_170 : ∀ b, (lt_cd 170 b).all (fr_i fr_Sc fr_Tc) = true := fr_all (l := [i_Top_waiting_0, i_Top_waiting_1, i_Top_waiting_2, i_Top_waiting_3, i_Top_waiting_4, i_Top_waiting_5]) (by decide +kernel)
theorem fm_171 : ∀ b, (lt_cd 171 b).all (fr_i fr_Sc fr_Tc) = true := fr_all (l := [i_Top_made_0]) (by decide +kernel)
theorem fm_172 : ∀ b, (lt_cd 172 b).all (fr_i fr_Sc fr_Tc) = true := fr_all (l := [i_Top_drops_0]) (by decide +kernel)
theorem fm_173 : ∀ b, (lt_cd 173 b).all (fr_i fr_Sc fr_Tc) = true := fr_all (l := [i_Top_dropped_0, i_Top_dropped_1, i_Top_dropped_2]) (by decide +kernel)
theorem fm_174 : ∀ b, (lt_cd 174 b).all (fr_i fr_Sc fr_Tc) = true := fr_all (l := [i_Top_forget_0]) (by decide +kernel)
theorem fm_175 : ∀ b, (lt_cd 175 b).all (fr_i fr_Sc fr_Tc) = true := fr_all (l := [i_Top_isAhead_0, i_Top_isAhead_1, i_Top_isAhead_2, i_Top_isAhead_3, i_Top_isAhead_4]) (by decide +kernel)
theorem fm_176 : ∀ b, (lt_cd 176 b).all (fr_i fr_Sc fr_Tc) = true := fr_all (l := [i_Top_within_0, i_Top_within_1, i_Top_within_2, i_Top_within_3, i_Top_within_4]) (by decide +kernel)
theorem fm_177 : ∀ b, (lt_cd 177 b).all (fr_i fr_Sm fr_Tm) = true := fr_all (l := [i_Model_thrown_0]) (by decide +kernel)
theorem fm_178 : ∀ b, (lt_cd 178 b).all (fr_i fr_Sm fr_Tm) = true := fr_all (l := [i_Model_in_0, i_Model_in_1, i_Model_in_2, i_Model_in_3, i_Model_in_4]) (by decide +kernel)
theorem fm_179 : ∀ b, (lt_cd 179 b).all (fr_i fr_Sm fr_Tm) = true := fr_all (l := [i_Model_isThird_0]) (by decide +kernel)
theorem fm_180 : ∀ b, (lt_cd 180 b).all (fr_i fr_Sm fr_Tm) = true := fr_all (l := [i_Model_step_0, i_Model_step_1, i_Model_step_2, i_Model_step_3, i_Model_step_4, i_Model_step_5, i_Model_step_6, i_Model_step_7, i_Model_step_8, i_Model_step_9, i_Model_step_10, i_Model_step_11, i_Model_step_12, i_Model_step_13, i_Model_step_14, i_Model_step_15, i_Model_step_16, i_Model_step_17, i_Model_step_18, i_Model_step_19, i_Model_step_20, i_Model_step_21, i_Model_step_22, i_Model_step_23, i_Model_step_24, i_Model_step_25, i_Model_step_26]) (by decide +kernel)
theorem fm_181 : ∀ b, (lt_cd 181 b).all (fr_i fr_Sm fr_Tm) = true := fr_all (l := [i_Model_goesBeyond_0, i_Model_goesBeyond_1, i_Model_goesBeyond_2, i_Model_goesBeyond_3, i_Model_goesBeyond_4, i_Model_goesBeyond_5, i_Model_goesBeyond_6, i_Model_goesBeyond_7, i_Model_goesBeyond_8, i_Model_goesBeyond_9, i_Model_goesBeyond_10, i_Model_goesBeyond_11]) (by decide +kernel)
theorem fm_182 : ∀ b, (lt_cd 182 b).all (fr_i fr_Sm fr_Tm) = true := fr_all (l := [i_Model_channel_0, i_Model_channel_1, i_Model_channel_2, i_Model_channel_3, i_Model_channel_4, i_Model_channel_5, i_Model_channel_6, i_Model_channel_7, i_Model_channel_8, i_Model_channel_9, i_Model_channel_10, i_Model_channel_11, i_Model_channel_12, i_Model_channel_13, i_Model_channel_14, i_Model_channel_15, i_Model_channel_16]) (by decide +kernel)
theorem fm_183 : ∀ b, (lt_cd 183 b).all (fr_i fr_Sm fr_Tm) = true := fr_all (l := [i_Model_changed_0]) (by decide +kernel)
theorem fm_184 : ∀ b, (lt_cd 184 b).all (fr_i fr_Sm fr_Tm) = true := fr_all (l := [i_Model_isOp_0, i_Model_isOp_1, i_Model_isOp_2, i_Model_isOp_3, i_Model_isOp_4, i_Model_isOp_5, i_Model_isOp_6, i_Model_isOp_7, i_Model_isOp_8, i_Model_isOp_9, i_Model_isOp_10, i_Model_isOp_11, i_Model_isOp_12, i_Model_isOp_13, i_Model_isOp_14, i_Model_isOp_15, i_Model_isOp_16, i_Model_isOp_17, i_Model_isOp_18, i_Model_isOp_19, i_Model_isOp_20, i_Model_isOp_21, i_Model_isOp_22, i_Model_isOp_23, i_Model_isOp_24]) (by decide +kernel)
theorem fm_185 : ∀ b, (lt_cd 185 b).all (fr_i fr_Sm fr_Tm) = true := fr_all (l := [i_Model_op_0, i_Model_op_1, i_Model_op_2, i_Model_op_3, i_Model_op_4, i_Model_op_5, i_Model_op_6, i_Model_op_7, i_Model_op_8, i_Model_op_9]) (by decide +kernel)
theorem fm_186 : ∀ b, (lt_cd 186 b).all (fr_i fr_Sm fr_Tm) = true := fr_all (l := [i_Model_unop_0, i_Model_unop_1, i_Model_unop_2, i_Model_unop_3, i_Model_unop_4, i_Model_unop_5, i_Model_unop_6, i_Model_unop_7]) (by decide +kernel)
theorem fm_187 : ∀ b, (lt_cd 187 b).all (fr_i fr_Sm fr_Tm) = true := fr_all (l := [i_Model_usedBy_0, i_Model_usedBy_1, i_Model_usedBy_2, i_Model_usedBy_3]) (by decide +kernel)
theorem fm_188 : ∀ b, (lt_cd 188 b).all (fr_i fr_Sm fr_Tm) = true := fr_all (l := [i_Model_targetOf_0, i_Model_targetOf_1, i_Model_targetOf_2, i_Model_targetOf_3]) (by decide +kernel)
theorem fm_189 : ∀ b, (lt_cd 189 b).all (fr_i fr_Sm fr_Tm) = true := fr_all (l := [i_Model_isOf_0, i_Model_isOf_1, i_Model_isOf_2, i_Model_isOf_3, i_Model_isOf_4, i_Model_isOf_5]) (by decide +kernel)
theorem fm_190 : ∀ b, (lt_cd 190 b).all (fr_i fr_Sm fr_Tm) = true := fr_all (l := [i_Model_stepFor_0, i_Model_stepFor_1, i_Model_stepFor_2, i_Model_stepFor_3, i_Model_stepFor_4]) (by decide +kernel)
theorem fm_191 : ∀ b, (lt_cd 191 b).all (fr_i fr_Sm fr_Tm) = true := fr_all (l := [i_Model_stepKind_0]) (by decide +kernel)
theorem fm_192 : ∀ b, (lt_cd 192 b).all (fr_i fr_Sm fr_Tm) = true := fr_all (l := [i_Model_stepThen_0, i_Model_stepThen_1, i_Model_stepThen_2, i_Model_stepThen_3, i_Model_stepThen_4]) (by decide +kernel)
theorem fm_193 : ∀ b, (lt_cd 193 b).all (fr_i fr_Sm fr_Tm) = true := fr_all (l := [i_Model_needs_0, i_Model_needs_1, i_Model_needs_2, i_Model_needs_3, i_Model_needs_4, i_Model_needs_5, i_Model_needs_6, i_Model_needs_7, i_Model_needs_8, i_Model_needs_9]) (by decide +kernel)
theorem fm_194 : ∀ b, (lt_cd 194 b).all (fr_i fr_Sm fr_Tm) = true := fr_all (l := [i_Model_next_0, i_Model_next_1, i_Model_next_2, i_Model_next_3, i_Model_next_4, i_Model_next_5, i_Model_next_6, i_Model_next_7]) (by decide +kernel)
theorem fm_195 : ∀ b, (lt_cd 195 b).all (fr_i fr_Sm fr_Tm) = true := fr_all (l := [i_Model_hasOther_0, i_Model_hasOther_1, i_Model_hasOther_2, i_Model_hasOther_3, i_Model_hasOther_4]) (by decide +kernel)
theorem fm_196 : ∀ b, (lt_cd 196 b).all (fr_i fr_Sm fr_Tm) = true := fr_all (l := [i_Model_isStop_0, i_Model_isStop_1, i_Model_isStop_2, i_Model_isStop_3, i_Model_isStop_4]) (by decide +kernel)
theorem fm_197 : ∀ b, (lt_cd 197 b).all (fr_i fr_Sm fr_Tm) = true := fr_all (l := [i_Model_isOwner_0]) (by decide +kernel)
theorem fm_198 : ∀ b, (lt_cd 198 b).all (fr_i fr_Sm fr_Tm) = true := fr_all (l := [i_Model_together_0, i_Model_together_1, i_Model_together_2, i_Model_together_3, i_Model_together_4, i_Model_together_5, i_Model_together_6, i_Model_together_7, i_Model_together_8, i_Model_together_9, i_Model_together_10, i_Model_together_11, i_Model_together_12, i_Model_together_13]) (by decide +kernel)
theorem fm_199 : ∀ b, (lt_cd 199 b).all (fr_i fr_Sm fr_Tm) = true := fr_all (l := [i_Model_comesTo_0, i_Model_comesTo_1, i_Model_comesTo_2, i_Model_comesTo_3, i_Model_comesTo_4, i_Model_comesTo_5, i_Model_comesTo_6, i_Model_comesTo_7, i_Model_comesTo_8, i_Model_comesTo_9, i_Model_comesTo_10, i_Model_comesTo_11, i_Model_comesTo_12, i_Model_comesTo_13, i_Model_comesTo_14]) (by decide +kernel)
theorem fm_200 : ∀ b, (lt_cd 200 b).all (fr_i fr_Sm fr_Tm) = true := fr_all (l := [i_Model_moves_0, i_Model_moves_1, i_Model_moves_2, i_Model_moves_3, i_Model_moves_4, i_Model_moves_5, i_Model_moves_6]) (by decide +kernel)
theorem fm_201 : ∀ b, (lt_cd 201 b).all (fr_i fr_Sm fr_Tm) = true := fr_all (l := [i_Model_does_0, i_Model_does_1, i_Model_does_2, i_Model_does_3, i_Model_does_4, i_Model_does_5, i_Model_does_6, i_Model_does_7, i_Model_does_8, i_Model_does_9, i_Model_does_10, i_Model_does_11, i_Model_does_12, i_Model_does_13, i_Model_does_14, i_Model_does_15, i_Model_does_16, i_Model_does_17, i_Model_does_18, i_Model_does_19, i_Model_does_20, i_Model_does_21, i_Model_does_22, i_Model_does_23, i_Model_does_24, i_Model_does_25, i_Model_does_26, i_Model_does_27, i_Model_does_28, i_Model_does_29, i_Model_does_30, i_Model_does_31, i_Model_does_32, i_Model_does_33, i_Model_does_34, i_Model_does_35, i_Model_does_36, i_Model_does_37, i_Model_does_38]) (by decide +kernel)
theorem fm_202 : ∀ b, (lt_cd 202 b).all (fr_i fr_Sm fr_Tm) = true := fr_all (l := [i_Model_goesOn_0, i_Model_goesOn_1, i_Model_goesOn_2, i_Model_goesOn_3, i_Model_goesOn_4, i_Model_goesOn_5, i_Model_goesOn_6]) (by decide +kernel)
theorem fm_203 : ∀ b, (lt_cd 203 b).all (fr_i fr_Sm fr_Tm) = true := fr_all (l := [i_Model_livesBehind_0, i_Model_livesBehind_1, i_Model_livesBehind_2, i_Model_livesBehind_3, i_Model_livesBehind_4, i_Model_livesBehind_5]) (by decide +kernel)
theorem fm_204 : ∀ b, (lt_cd 204 b).all (fr_i fr_Sm fr_Tm) = true := fr_all (l := [i_Model_findsLiving_0, i_Model_findsLiving_1, i_Model_findsLiving_2, i_Model_findsLiving_3, i_Model_findsLiving_4, i_Model_findsLiving_5, i_Model_findsLiving_6, i_Model_findsLiving_7, i_Model_findsLiving_8, i_Model_findsLiving_9, i_Model_findsLiving_10, i_Model_findsLiving_11, i_Model_findsLiving_12, i_Model_findsLiving_13, i_Model_findsLiving_14, i_Model_findsLiving_15, i_Model_findsLiving_16, i_Model_findsLiving_17, i_Model_findsLiving_18, i_Model_findsLiving_19]) (by decide +kernel)
theorem fm_205 : ∀ b, (lt_cd 205 b).all (fr_i fr_Sm fr_Tm) = true := fr_all (l := [i_Model_finds_0, i_Model_finds_1, i_Model_finds_2, i_Model_finds_3, i_Model_finds_4, i_Model_finds_5, i_Model_finds_6, i_Model_finds_7, i_Model_finds_8, i_Model_finds_9, i_Model_finds_10, i_Model_finds_11, i_Model_finds_12, i_Model_finds_13, i_Model_finds_14, i_Model_finds_15, i_Model_finds_16, i_Model_finds_17, i_Model_finds_18, i_Model_finds_19, i_Model_finds_20]) (by decide +kernel)
theorem fm_206 : ∀ b, (lt_cd 206 b).all (fr_i fr_Sm fr_Tm) = true := fr_all (l := [i_Model_findsAll_0, i_Model_findsAll_1, i_Model_findsAll_2, i_Model_findsAll_3, i_Model_findsAll_4]) (by decide +kernel)
theorem fm_207 : ∀ b, (lt_cd 207 b).all (fr_i fr_Sm fr_Tm) = true := fr_all (l := [i_Model_foundAt_0]) (by decide +kernel)
theorem fm_208 : ∀ b, (lt_cd 208 b).all (fr_i fr_Sm fr_Tm) = true := fr_all (l := [i_Model_borrowerOf_0, i_Model_borrowerOf_1, i_Model_borrowerOf_2, i_Model_borrowerOf_3, i_Model_borrowerOf_4, i_Model_borrowerOf_5, i_Model_borrowerOf_6, i_Model_borrowerOf_7, i_Model_borrowerOf_8, i_Model_borrowerOf_9, i_Model_borrowerOf_10, i_Model_borrowerOf_11, i_Model_borrowerOf_12]) (by decide +kernel)
theorem fm_209 : ∀ b, (lt_cd 209 b).all (fr_i fr_Sm fr_Tm) = true := fr_all (l := [i_Model_inTheWayOf_0, i_Model_inTheWayOf_1, i_Model_inTheWayOf_2, i_Model_inTheWayOf_3, i_Model_inTheWayOf_4, i_Model_inTheWayOf_5, i_Model_inTheWayOf_6, i_Model_inTheWayOf_7, i_Model_inTheWayOf_8, i_Model_inTheWayOf_9, i_Model_inTheWayOf_10, i_Model_inTheWayOf_11, i_Model_inTheWayOf_12, i_Model_inTheWayOf_13, i_Model_inTheWayOf_14, i_Model_inTheWayOf_15, i_Model_inTheWayOf_16, i_Model_inTheWayOf_17, i_Model_inTheWayOf_18, i_Model_inTheWayOf_19, i_Model_inTheWayOf_20, i_Model_inTheWayOf_21, i_Model_inTheWayOf_22]) (by decide +kernel)
theorem fm_210 : ∀ b, (lt_cd 210 b).all (fr_i fr_Sm fr_Tm) = true := fr_all (l := [i_Model_isWrongUse_0, i_Model_isWrongUse_1, i_Model_isWrongUse_2, i_Model_isWrongUse_3, i_Model_isWrongUse_4, i_Model_isWrongUse_5, i_Model_isWrongUse_6, i_Model_isWrongUse_7, i_Model_isWrongUse_8, i_Model_isWrongUse_9, i_Model_isWrongUse_10, i_Model_isWrongUse_11]) (by decide +kernel)
theorem fm_211 : ∀ b, (lt_cd 211 b).all (fr_i fr_Sm fr_Tm) = true := fr_all (l := [i_Model_errorOfEnd_0, i_Model_errorOfEnd_1, i_Model_errorOfEnd_2, i_Model_errorOfEnd_3, i_Model_errorOfEnd_4, i_Model_errorOfEnd_5, i_Model_errorOfEnd_6, i_Model_errorOfEnd_7, i_Model_errorOfEnd_8, i_Model_errorOfEnd_9, i_Model_errorOfEnd_10, i_Model_errorOfEnd_11]) (by decide +kernel)
theorem fm_212 : ∀ b, (lt_cd 212 b).all (fr_i fr_Sm fr_Tm) = true := fr_all (l := [i_Model_errorOf_0, i_Model_errorOf_1, i_Model_errorOf_2, i_Model_errorOf_3, i_Model_errorOf_4, i_Model_errorOf_5, i_Model_errorOf_6, i_Model_errorOf_7, i_Model_errorOf_8, i_Model_errorOf_9, i_Model_errorOf_10, i_Model_errorOf_11, i_Model_errorOf_12, i_Model_errorOf_13, i_Model_errorOf_14, i_Model_errorOf_15, i_Model_errorOf_16, i_Model_errorOf_17, i_Model_errorOf_18, i_Model_errorOf_19, i_Model_errorOf_20, i_Model_errorOf_21, i_Model_errorOf_22, i_Model_errorOf_23, i_Model_errorOf_24, i_Model_errorOf_25, i_Model_errorOf_26, i_Model_errorOf_27, i_Model_errorOf_28, i_Model_errorOf_29, i_Model_errorOf_30, i_Model_errorOf_31, i_Model_errorOf_32, i_Model_errorOf_33, i_Model_errorOf_34, i_Model_errorOf_35, i_Model_errorOf_36, i_Model_errorOf_37, i_Model_errorOf_38, i_Model_errorOf_39, i_Model_errorOf_40, i_Model_errorOf_41, i_Model_errorOf_42, i_Model_errorOf_43, i_Model_errorOf_44, i_Model_errorOf_45, i_Model_errorOf_46, i_Model_errorOf_47, i_Model_errorOf_48, i_Model_errorOf_49]) (by decide +kernel)
theorem fm_213 : ∀ b, (lt_cd 213 b).all (fr_i fr_Sm fr_Tm) = true := fr_all (l := [i_Model_firstError_0, i_Model_firstError_1, i_Model_firstError_2, i_Model_firstError_3, i_Model_firstError_4, i_Model_firstError_5, i_Model_firstError_6]) (by decide +kernel)
theorem fm_214 : ∀ b, (lt_cd 214 b).all (fr_i fr_Sm fr_Tm) = true := fr_all (l := [i_Model_check_0, i_Model_check_1, i_Model_check_2, i_Model_check_3, i_Model_check_4, i_Model_check_5, i_Model_check_6]) (by decide +kernel)
theorem fm_215 : ∀ b, (lt_cd 215 b).all (fr_i fr_Sm fr_Tm) = true := fr_all (l := [i_Model_error_0, i_Model_error_1, i_Model_error_2, i_Model_error_3, i_Model_error_4, i_Model_error_5, i_Model_error_6, i_Model_error_7, i_Model_error_8, i_Model_error_9]) (by decide +kernel)
theorem fm_216 : ∀ b, (lt_cd 216 b).all (fr_i fr_Sm fr_Tm) = true := fr_all (l := [i_Model_borrower_0, i_Model_borrower_1, i_Model_borrower_2, i_Model_borrower_3, i_Model_borrower_4, i_Model_borrower_5, i_Model_borrower_6, i_Model_borrower_7, i_Model_borrower_8, i_Model_borrower_9, i_Model_borrower_10, i_Model_borrower_11, i_Model_borrower_12]) (by decide +kernel)
theorem fm_217 : ∀ b, (lt_cd 217 b).all (fr_i fr_Sm fr_Tm) = true := fr_all (l := [i_Model_isNode_0, i_Model_isNode_1, i_Model_isNode_2, i_Model_isNode_3, i_Model_isNode_4]) (by decide +kernel)
theorem fm_218 : ∀ b, (lt_cd 218 b).all (fr_i fr_Sm fr_Tm) = true := fr_all (l := [i_Model_holds_0, i_Model_holds_1, i_Model_holds_2, i_Model_holds_3, i_Model_holds_4, i_Model_holds_5, i_Model_holds_6, i_Model_holds_7, i_Model_holds_8, i_Model_holds_9]) (by decide +kernel)
theorem fm_219 : ∀ b, (lt_cd 219 b).all (fr_i fr_Sm fr_Tm) = true := fr_all (l := [i_Model_at_0, i_Model_at_1, i_Model_at_2, i_Model_at_3, i_Model_at_4, i_Model_at_5, i_Model_at_6, i_Model_at_7, i_Model_at_8, i_Model_at_9]) (by decide +kernel)
theorem fm_220 : ∀ b, (lt_cd 220 b).all (fr_i fr_Sm fr_Tm) = true := fr_all (l := [i_Model_lives_0, i_Model_lives_1, i_Model_lives_2, i_Model_lives_3, i_Model_lives_4, i_Model_lives_5]) (by decide +kernel)
theorem fm_221 : ∀ b, (lt_cd 221 b).all (fr_i fr_Sm fr_Tm) = true := fr_all (l := [i_Model_waits_0, i_Model_waits_1, i_Model_waits_2, i_Model_waits_3, i_Model_waits_4, i_Model_waits_5]) (by decide +kernel)
theorem fm_222 : ∀ b, (lt_cd 222 b).all (fr_i fr_Sm fr_Tm) = true := fr_all (l := [i_Model_reads_0, i_Model_reads_1, i_Model_reads_2, i_Model_reads_3, i_Model_reads_4, i_Model_reads_5, i_Model_reads_6, i_Model_reads_7, i_Model_reads_8, i_Model_reads_9]) (by decide +kernel)
theorem fm_223 : ∀ b, (lt_cd 223 b).all (fr_i fr_Sm fr_Tm) = true := fr_all (l := [i_Model_keeps_0, i_Model_keeps_1, i_Model_keeps_2, i_Model_keeps_3, i_Model_keeps_4, i_Model_keeps_5, i_Model_keeps_6, i_Model_keeps_7, i_Model_keeps_8, i_Model_keeps_9, i_Model_keeps_10, i_Model_keeps_11, i_Model_keeps_12, i_Model_keeps_13, i_Model_keeps_14, i_Model_keeps_15, i_Model_keeps_16, i_Model_keeps_17]) (by decide +kernel)
theorem fm_224 : ∀ b, (lt_cd 224 b).all (fr_i fr_Sm fr_Tm) = true := fr_all (l := [i_Model_sideOf_0, i_Model_sideOf_1, i_Model_sideOf_2, i_Model_sideOf_3, i_Model_sideOf_4, i_Model_sideOf_5, i_Model_sideOf_6]) (by decide +kernel)
theorem fm_225 : ∀ b, (lt_cd 225 b).all (fr_i fr_Sm fr_Tm) = true := fr_all (l := [i_Model_stepsOn_0, i_Model_stepsOn_1, i_Model_stepsOn_2, i_Model_stepsOn_3, i_Model_stepsOn_4, i_Model_stepsOn_5, i_Model_stepsOn_6, i_Model_stepsOn_7, i_Model_stepsOn_8, i_Model_stepsOn_9, i_Model_stepsOn_10, i_Model_stepsOn_11, i_Model_stepsOn_12, i_Model_stepsOn_13, i_Model_stepsOn_14, i_Model_stepsOn_15, i_Model_stepsOn_16, i_Model_stepsOn_17, i_Model_stepsOn_18, i_Model_stepsOn_19, i_Model_stepsOn_20, i_Model_stepsOn_21, i_Model_stepsOn_22, i_Model_stepsOn_23, i_Model_stepsOn_24, i_Model_stepsOn_25, i_Model_stepsOn_26, i_Model_stepsOn_27, i_Model_stepsOn_28, i_Model_stepsOn_29]) (by decide +kernel)
theorem fm_226 : ∀ b, (lt_cd 226 b).all (fr_i fr_Sm fr_Tm) = true := fr_all (l := [i_Model_stuck_0, i_Model_stuck_1, i_Model_stuck_2, i_Model_stuck_3, i_Model_stuck_4, i_Model_stuck_5, i_Model_stuck_6, i_Model_stuck_7, i_Model_stuck_8, i_Model_stuck_9, i_Model_stuck_10, i_Model_stuck_11, i_Model_stuck_12, i_Model_stuck_13, i_Model_stuck_14, i_Model_stuck_15, i_Model_stuck_16, i_Model_stuck_17, i_Model_stuck_18, i_Model_stuck_19, i_Model_stuck_20, i_Model_stuck_21, i_Model_stuck_22, i_Model_stuck_23, i_Model_stuck_24, i_Model_stuck_25, i_Model_stuck_26, i_Model_stuck_27, i_Model_stuck_28, i_Model_stuck_29, i_Model_stuck_30, i_Model_stuck_31, i_Model_stuck_32, i_Model_stuck_33, i_Model_stuck_34, i_Model_stuck_35]) (by decide +kernel)
theorem fm_227 : ∀ b, (lt_cd 227 b).all (fr_i fr_Sm fr_Tm) = true := fr_all (l := [i_Model_begin_0, i_Model_begin_1, i_Model_begin_2, i_Model_begin_3, i_Model_begin_4, i_Model_begin_5, i_Model_begin_6, i_Model_begin_7, i_Model_begin_8, i_Model_begin_9]) (by decide +kernel)
theorem fm_228 : ∀ b, (lt_cd 228 b).all (fr_i fr_Sm fr_Tm) = true := fr_all (l := [i_Model_goesAway_0, i_Model_goesAway_1, i_Model_goesAway_2]) (by decide +kernel)
theorem fm_229 : ∀ b, (lt_cd 229 b).all (fr_i fr_Sm fr_Tm) = true := fr_all (l := [i_Model_ownerOf_0, i_Model_ownerOf_1, i_Model_ownerOf_2, i_Model_ownerOf_3, i_Model_ownerOf_4, i_Model_ownerOf_5, i_Model_ownerOf_6]) (by decide +kernel)
theorem fm_230 : ∀ b, (lt_cd 230 b).all (fr_i fr_Sm fr_Tm) = true := fr_all (l := [i_Model_holdsStill_0, i_Model_holdsStill_1, i_Model_holdsStill_2, i_Model_holdsStill_3, i_Model_holdsStill_4, i_Model_holdsStill_5, i_Model_holdsStill_6, i_Model_holdsStill_7]) (by decide +kernel)
theorem fm_231 : ∀ b, (lt_cd 231 b).all (fr_i fr_Sm fr_Tm) = true := fr_all (l := [i_Model_leaves_0, i_Model_leaves_1, i_Model_leaves_2, i_Model_leaves_3]) (by decide +kernel)
theorem fm_232 : ∀ b, (lt_cd 232 b).all (fr_i fr_Sm fr_Tm) = true := fr_all (l := [i_Model_owns_0]) (by decide +kernel)
theorem fm_233 : ∀ b, (lt_cd 233 b).all (fr_i fr_Sm fr_Tm) = true := fr_all (l := [i_Model_uses_0, i_Model_uses_1, i_Model_uses_2, i_Model_uses_3, i_Model_uses_4, i_Model_uses_5, i_Model_uses_6]) (by decide +kernel)
theorem fm_234 : ∀ b, (lt_cd 234 b).all (fr_i fr_Sm fr_Tm) = true := fr_all (l := [i_Model_isAtNeeded_0, i_Model_isAtNeeded_1, i_Model_isAtNeeded_2, i_Model_isAtNeeded_3, i_Model_isAtNeeded_4, i_Model_isAtNeeded_5]) (by decide +kernel)
theorem fm_235 : ∀ b, (lt_cd 235 b).all (fr_i fr_Sm fr_Tm) = true := fr_all (l := [i_Model_otherOf_0, i_Model_otherOf_1, i_Model_otherOf_2, i_Model_otherOf_3]) (by decide +kernel)
theorem fm_236 : ∀ b, (lt_cd 236 b).all (fr_i fr_Sm fr_Tm) = true := fr_all (l := [i_Model_isWaiting_0, i_Model_isWaiting_1, i_Model_isWaiting_2, i_Model_isWaiting_3, i_Model_isWaiting_4, i_Model_isWaiting_5, i_Model_isWaiting_6, i_Model_isWaiting_7, i_Model_isWaiting_8, i_Model_isWaiting_9, i_Model_isWaiting_10, i_Model_isWaiting_11, i_Model_isWaiting_12, i_Model_isWaiting_13, i_Model_isWaiting_14]) (by decide +kernel)
theorem fm_237 : ∀ b, (lt_cd 237 b).all (fr_i fr_Sm fr_Tm) = true := fr_all (l := [i_Model_broken_0, i_Model_broken_1, i_Model_broken_2, i_Model_broken_3, i_Model_broken_4, i_Model_broken_5, i_Model_broken_6, i_Model_broken_7, i_Model_broken_8, i_Model_broken_9, i_Model_broken_10, i_Model_broken_11, i_Model_broken_12, i_Model_broken_13, i_Model_broken_14, i_Model_broken_15, i_Model_broken_16, i_Model_broken_17, i_Model_broken_18, i_Model_broken_19, i_Model_broken_20, i_Model_broken_21, i_Model_broken_22, i_Model_broken_23, i_Model_broken_24, i_Model_broken_25, i_Model_broken_26, i_Model_broken_27, i_Model_broken_28, i_Model_broken_29, i_Model_broken_30, i_Model_broken_31, i_Model_broken_32, i_Model_broken_33, i_Model_broken_34, i_Model_broken_35, i_Model_broken_36, i_Model_broken_37, i_Model_broken_38, i_Model_broken_39]) (by decide +kernel)
theorem fm_238 : ∀ b, (lt_cd 238 b).all (fr_i fr_Sm fr_Tm) = true := fr_all (l := [i_Model_brokenByMessage_0, i_Model_brokenByMessage_1, i_Model_brokenByMessage_2, i_Model_brokenByMessage_3, i_Model_brokenByMessage_4, i_Model_brokenByMessage_5, i_Model_brokenByMessage_6, i_Model_brokenByMessage_7, i_Model_brokenByMessage_8, i_Model_brokenByMessage_9, i_Model_brokenByMessage_10, i_Model_brokenByMessage_11, i_Model_brokenByMessage_12]) (by decide +kernel)
theorem fm_239 : ∀ b, (lt_cd 239 b).all (fr_i fr_Sm fr_Tm) = true := fr_all (l := [i_Model_dropsOwned_0, i_Model_dropsOwned_1, i_Model_dropsOwned_2, i_Model_dropsOwned_3, i_Model_dropsOwned_4, i_Model_dropsOwned_5, i_Model_dropsOwned_6, i_Model_dropsOwned_7, i_Model_dropsOwned_8, i_Model_dropsOwned_9, i_Model_dropsOwned_10, i_Model_dropsOwned_11, i_Model_dropsOwned_12, i_Model_dropsOwned_13, i_Model_dropsOwned_14, i_Model_dropsOwned_15, i_Model_dropsOwned_16, i_Model_dropsOwned_17]) (by decide +kernel)
theorem fm_240 : ∀ b, (lt_cd 240 b).all (fr_i fr_Sm fr_Tm) = true := fr_all (l := [i_Model_dies_0, i_Model_dies_1, i_Model_dies_2, i_Model_dies_3, i_Model_dies_4, i_Model_dies_5, i_Model_dies_6, i_Model_dies_7, i_Model_dies_8, i_Model_dies_9, i_Model_dies_10]) (by decide +kernel)
theorem fm_241 : ∀ b, (lt_cd 241 b).all (fr_i fr_Sm fr_Tm) = true := fr_all (l := [i_Model_ends_0, i_Model_ends_1, i_Model_ends_2, i_Model_ends_3, i_Model_ends_4, i_Model_ends_5, i_Model_ends_6, i_Model_ends_7, i_Model_ends_8, i_Model_ends_9, i_Model_ends_10, i_Model_ends_11, i_Model_ends_12, i_Model_ends_13, i_Model_ends_14, i_Model_ends_15, i_Model_ends_16, i_Model_ends_17, i_Model_ends_18]) (by decide +kernel)
theorem fm_242 : ∀ b, (lt_cd 242 b).all (fr_i fr_Sm fr_Tm) = true := fr_all (l := [i_Model_goesOver_0, i_Model_goesOver_1, i_Model_goesOver_2, i_Model_goesOver_3, i_Model_goesOver_4]) (by decide +kernel)
theorem fm_243 : ∀ b, (lt_cd 243 b).all (fr_i fr_Sm fr_Tm) = true := fr_all (l := [i_Model_takes_0]) (by decide +kernel)
theorem fm_244 : ∀ b, (lt_cd 244 b).all (fr_i fr_Sm fr_Tm) = true := fr_all (l := [i_Model_copied_0]) (by decide +kernel)
theorem fm_245 : ∀ b, (lt_cd 245 b).all (fr_i fr_Sm fr_Tm) = true := fr_all (l := [i_Model_movesOver_0, i_Model_movesOver_1, i_Model_movesOver_2, i_Model_movesOver_3, i_Model_movesOver_4, i_Model_movesOver_5, i_Model_movesOver_6, i_Model_movesOver_7, i_Model_movesOver_8, i_Model_movesOver_9]) (by decide +kernel)
theorem fm_246 : ∀ b, (lt_cd 246 b).all (fr_i fr_Sm fr_Tm) = true := fr_all (l := [i_Model_sharesOn_0, i_Model_sharesOn_1, i_Model_sharesOn_2, i_Model_sharesOn_3, i_Model_sharesOn_4, i_Model_sharesOn_5]) (by decide +kernel)
theorem fm_247 : ∀ b, (lt_cd 247 b).all (fr_i fr_Sm fr_Tm) = true := fr_all (l := [i_Model_sends_0, i_Model_sends_1, i_Model_sends_2, i_Model_sends_3]) (by decide +kernel)
theorem fm_248 : ∀ b, (lt_cd 248 b).all (fr_i fr_Sm fr_Tm) = true := fr_all (l := [i_Model_carriesOut_0, i_Model_carriesOut_1, i_Model_carriesOut_2, i_Model_carriesOut_3, i_Model_carriesOut_4, i_Model_carriesOut_5, i_Model_carriesOut_6, i_Model_carriesOut_7, i_Model_carriesOut_8, i_Model_carriesOut_9, i_Model_carriesOut_10, i_Model_carriesOut_11, i_Model_carriesOut_12, i_Model_carriesOut_13, i_Model_carriesOut_14, i_Model_carriesOut_15, i_Model_carriesOut_16, i_Model_carriesOut_17, i_Model_carriesOut_18, i_Model_carriesOut_19, i_Model_carriesOut_20, i_Model_carriesOut_21, i_Model_carriesOut_22, i_Model_carriesOut_23, i_Model_carriesOut_24, i_Model_carriesOut_25]) (by decide +kernel)
theorem fm_249 : ∀ b, (lt_cd 249 b).all (fr_i fr_Sm fr_Tm) = true := fr_all (l := [i_Model_goesFurther_0, i_Model_goesFurther_1, i_Model_goesFurther_2, i_Model_goesFurther_3, i_Model_goesFurther_4, i_Model_goesFurther_5, i_Model_goesFurther_6]) (by decide +kernel)
theorem fm_250 : ∀ b, (lt_cd 250 b).all (fr_i fr_Sm fr_Tm) = true := fr_all (l := [i_Model_go_0, i_Model_go_1, i_Model_go_2, i_Model_go_3, i_Model_go_4, i_Model_go_5, i_Model_go_6, i_Model_go_7, i_Model_go_8, i_Model_go_9]) (by decide +kernel)
theorem fm_251 : ∀ b, (lt_cd 251 b).all (fr_i fr_Sm fr_Tm) = true := fr_all (l := [i_Model_canGo_0, i_Model_canGo_1, i_Model_canGo_2, i_Model_canGo_3, i_Model_canGo_4]) (by decide +kernel)
theorem fm_252 : ∀ b, (lt_cd 252 b).all (fr_i fr_Sm fr_Tm) = true := fr_all (l := [i_Model_run_0, i_Model_run_1, i_Model_run_2, i_Model_run_3, i_Model_run_4, i_Model_run_5, i_Model_run_6, i_Model_run_7, i_Model_run_8, i_Model_run_9, i_Model_run_10, i_Model_run_11, i_Model_run_12, i_Model_run_13, i_Model_run_14, i_Model_run_15, i_Model_run_16, i_Model_run_17, i_Model_run_18, i_Model_run_19, i_Model_run_20, i_Model_run_21]) (by decide +kernel)
theorem fm_253 : ∀ b, (lt_cd 253 b).all (fr_i fr_Sm fr_Tm) = true := fr_all (l := [i_Model_canRun_0, i_Model_canRun_1, i_Model_canRun_2, i_Model_canRun_3, i_Model_canRun_4, i_Model_canRun_5, i_Model_canRun_6, i_Model_canRun_7, i_Model_canRun_8, i_Model_canRun_9]) (by decide +kernel)
theorem fm_254 : ∀ b, (lt_cd 254 b).all (fr_i fr_Sm fr_Tm) = true := fr_all (l := [i_Model_isAsked_0, i_Model_isAsked_1, i_Model_isAsked_2, i_Model_isAsked_3, i_Model_isAsked_4, i_Model_isAsked_5, i_Model_isAsked_6, i_Model_isAsked_7, i_Model_isAsked_8]) (by decide +kernel)
theorem fm_255 : ∀ b, (lt_cd 255 b).all (fr_i fr_Sm fr_Tm) = true := fr_all (l := [i_Model_state_0, i_Model_state_1, i_Model_state_2, i_Model_state_3]) (by decide +kernel)
theorem fm_256 : ∀ b, (lt_cd 256 b).all (fr_i fr_Sm fr_Tm) = true := fr_all (l := [i_Model_fault_0, i_Model_fault_1, i_Model_fault_2, i_Model_fault_3]) (by decide +kernel)
theorem fm_257 : ∀ b, (lt_cd 257 b).all (fr_i fr_Sm fr_Tm) = true := fr_all (l := [i_Model_place_0, i_Model_place_1, i_Model_place_2, i_Model_place_3]) (by decide +kernel)
theorem fm_258 : ∀ b, (lt_cd 258 b).all (fr_i fr_Sm fr_Tm) = true := fr_all (l := [i_Model_value_0, i_Model_value_1, i_Model_value_2, i_Model_value_3, i_Model_value_4, i_Model_value_5, i_Model_value_6, i_Model_value_7, i_Model_value_8]) (by decide +kernel)
theorem fm_259 : ∀ b, (lt_cd 259 b).all (fr_i fr_Sm fr_Tm) = true := fr_all (l := [i_Model_waiting_0, i_Model_waiting_1, i_Model_waiting_2, i_Model_waiting_3, i_Model_waiting_4, i_Model_waiting_5, i_Model_waiting_6, i_Model_waiting_7]) (by decide +kernel)
theorem fm_260 : ∀ b, (lt_cd 260 b).all (fr_i fr_Sm fr_Tm) = true := fr_all (l := [i_Model_made_0]) (by decide +kernel)
theorem fm_261 : ∀ b, (lt_cd 261 b).all (fr_i fr_Sm fr_Tm) = true := fr_all (l := [i_Model_drops_0]) (by decide +kernel)
theorem fm_262 : ∀ b, (lt_cd 262 b).all (fr_i fr_Sm fr_Tm) = true := fr_all (l := [i_Model_dropped_0, i_Model_dropped_1, i_Model_dropped_2, i_Model_dropped_3, i_Model_dropped_4, i_Model_dropped_5, i_Model_dropped_6]) (by decide +kernel)
theorem fc_0 : ∀ a, a < 0 → ∀ b, (lt_cd a b).all (fr_i fr_Sc fr_Tc) = true := fun a h => absurd h (Nat.not_lt_zero a)
theorem fc_1 : ∀ a, a < 1 → ∀ b, (lt_cd a b).all (fr_i fr_Sc fr_Tc) = true := lt_s (p := fun a => ∀ b, (lt_cd a b).all (fr_i fr_Sc fr_Tc) = true) fc_0 fm_0
theorem fc_2 : ∀ a, a < 2 → ∀ b, (lt_cd a b).all (fr_i fr_Sc fr_Tc) = true := lt_s (p := fun a => ∀ b, (lt_cd a b).all (fr_i fr_Sc fr_Tc) = true) fc_1 fm_1
theorem fc_3 : ∀ a, a < 3 → ∀ b, (lt_cd a b).all (fr_i fr_Sc fr_Tc) = true := lt_s (p := fun a => ∀ b, (lt_cd a b).all (fr_i fr_Sc fr_Tc) = true) fc_2 fm_2
theorem fc_4 : ∀ a, a < 4 → ∀ b, (lt_cd a b).all (fr_i fr_Sc fr_Tc) = true := lt_s (p := fun a => ∀ b, (lt_cd a b).all (fr_i fr_Sc fr_Tc) = true) fc_3 fm_3
theorem fc_5 : ∀ a, a < 5 → ∀ b, (lt_cd a b).all (fr_i fr_Sc fr_Tc) = true := lt_s (p := fun a => ∀ b, (lt_cd a b).all (fr_i fr_Sc fr_Tc) = true) fc_4 fm_4
theorem fc_6 : ∀ a, a < 6 → ∀ b, (lt_cd a b).all (fr_i fr_Sc fr_Tc) = true := lt_s (p := fun a => ∀ b, (lt_cd a b).all (fr_i fr_Sc fr_Tc) = true) fc_5 fm_5
theorem fc_7 : ∀ a, a < 7 → ∀ b, (lt_cd a b).all (fr_i fr_Sc fr_Tc) = true := lt_s (p := fun a => ∀ b, (lt_cd a b).all (fr_i fr_Sc fr_Tc) = true) fc_6 fm_6
theorem fc_8 : ∀ a, a < 8 → ∀ b, (lt_cd a b).all (fr_i fr_Sc fr_Tc) = true := lt_s (p := fun a => ∀ b, (lt_cd a b).all (fr_i fr_Sc fr_Tc) = true) fc_7 fm_7
theorem fc_9 : ∀ a, a < 9 → ∀ b, (lt_cd a b).all (fr_i fr_Sc fr_Tc) = true := lt_s (p := fun a => ∀ b, (lt_cd a b).all (fr_i fr_Sc fr_Tc) = true) fc_8 fm_8
theorem fc_10 : ∀ a, a < 10 → ∀ b, (lt_cd a b).all (fr_i fr_Sc fr_Tc) = true := lt_s (p := fun a => ∀ b, (lt_cd a b).all (fr_i fr_Sc fr_Tc) = true) fc_9 fm_9
theorem fc_11 : ∀ a, a < 11 → ∀ b, (lt_cd a b).all (fr_i fr_Sc fr_Tc) = true := lt_s (p := fun a => ∀ b, (lt_cd a b).all (fr_i fr_Sc fr_Tc) = true) fc_10 fm_10
theorem fc_12 : ∀ a, a < 12 → ∀ b, (lt_cd a b).all (fr_i fr_Sc fr_Tc) = true := lt_s (p := fun a => ∀ b, (lt_cd a b).all (fr_i fr_Sc fr_Tc) = true) fc_11 fm_11
theorem fc_13 : ∀ a, a < 13 → ∀ b, (lt_cd a b).all (fr_i fr_Sc fr_Tc) = true := lt_s (p := fun a => ∀ b, (lt_cd a b).all (fr_i fr_Sc fr_Tc) = true) fc_12 fm_12
theorem fc_14 : ∀ a, a < 14 → ∀ b, (lt_cd a b).all (fr_i fr_Sc fr_Tc) = true := lt_s (p := fun a => ∀ b, (lt_cd a b).all (fr_i fr_Sc fr_Tc) = true) fc_13 fm_13
theorem fc_15 : ∀ a, a < 15 → ∀ b, (lt_cd a b).all (fr_i fr_Sc fr_Tc) = true := lt_s (p := fun a => ∀ b, (lt_cd a b).all (fr_i fr_Sc fr_Tc) = true) fc_14 fm_14
theorem fc_16 : ∀ a, a < 16 → ∀ b, (lt_cd a b).all (fr_i fr_Sc fr_Tc) = true := lt_s (p := fun a => ∀ b, (lt_cd a b).all (fr_i fr_Sc fr_Tc) = true) fc_15 fm_15
theorem fc_17 : ∀ a, a < 17 → ∀ b, (lt_cd a b).all (fr_i fr_Sc fr_Tc) = true := lt_s (p := fun a => ∀ b, (lt_cd a b).all (fr_i fr_Sc fr_Tc) = true) fc_16 fm_16
theorem fc_18 : ∀ a, a < 18 → ∀ b, (lt_cd a b).all (fr_i fr_Sc fr_Tc) = true := lt_s (p := fun a => ∀ b, (lt_cd a b).all (fr_i fr_Sc fr_Tc) = true) fc_17 fm_17
theorem fc_19 : ∀ a, a < 19 → ∀ b, (lt_cd a b).all (fr_i fr_Sc fr_Tc) = true := lt_s (p := fun a => ∀ b, (lt_cd a b).all (fr_i fr_Sc fr_Tc) = true) fc_18 fm_18
theorem fc_20 : ∀ a, a < 20 → ∀ b, (lt_cd a b).all (fr_i fr_Sc fr_Tc) = true := lt_s (p := fun a => ∀ b, (lt_cd a b).all (fr_i fr_Sc fr_Tc) = true) fc_19 fm_19
theorem fc_21 : ∀ a, a < 21 → ∀ b, (lt_cd a b).all (fr_i fr_Sc fr_Tc) = true := lt_s (p := fun a => ∀ b, (lt_cd a b).all (fr_i fr_Sc fr_Tc) = true) fc_20 fm_20
theorem fc_22 : ∀ a, a < 22 → ∀ b, (lt_cd a b).all (fr_i fr_Sc fr_Tc) = true := lt_s (p := fun a => ∀ b, (lt_cd a b).all (fr_i fr_Sc fr_Tc) = true) fc_21 fm_21
theorem fc_23 : ∀ a, a < 23 → ∀ b, (lt_cd a b).all (fr_i fr_Sc fr_Tc) = true := lt_s (p := fun a => ∀ b, (lt_cd a b).all (fr_i fr_Sc fr_Tc) = true) fc_22 fm_22
theorem fc_24 : ∀ a, a < 24 → ∀ b, (lt_cd a b).all (fr_i fr_Sc fr_Tc) = true := lt_s (p := fun a => ∀ b, (lt_cd a b).all (fr_i fr_Sc fr_Tc) = true) fc_23 fm_23
theorem fc_25 : ∀ a, a < 25 → ∀ b, (lt_cd a b).all (fr_i fr_Sc fr_Tc) = true := lt_s (p := fun a => ∀ b, (lt_cd a b).all (fr_i fr_Sc fr_Tc) = true) fc_24 fm_24
theorem fc_26 : ∀ a, a < 26 → ∀ b, (lt_cd a b).all (fr_i fr_Sc fr_Tc) = true := lt_s (p := fun a => ∀ b, (lt_cd a b).all (fr_i fr_Sc fr_Tc) = true) fc_25 fm_25
theorem fc_27 : ∀ a, a < 27 → ∀ b, (lt_cd a b).all (fr_i fr_Sc fr_Tc) = true := lt_s (p := fun a => ∀ b, (lt_cd a b).all (fr_i fr_Sc fr_Tc) = true) fc_26 fm_26
theorem fc_28 : ∀ a, a < 28 → ∀ b, (lt_cd a b).all (fr_i fr_Sc fr_Tc) = true := lt_s (p := fun a => ∀ b, (lt_cd a b).all (fr_i fr_Sc fr_Tc) = true) fc_27 fm_27
theorem fc_29 : ∀ a, a < 29 → ∀ b, (lt_cd a b).all (fr_i fr_Sc fr_Tc) = true := lt_s (p := fun a => ∀ b, (lt_cd a b).all (fr_i fr_Sc fr_Tc) = true) fc_28 fm_28
theorem fc_30 : ∀ a, a < 30 → ∀ b, (lt_cd a b).all (fr_i fr_Sc fr_Tc) = true := lt_s (p := fun a => ∀ b, (lt_cd a b).all (fr_i fr_Sc fr_Tc) = true) fc_29 fm_29
theorem fc_31 : ∀ a, a < 31 → ∀ b, (lt_cd a b).all (fr_i fr_Sc fr_Tc) = true := lt_s (p := fun a => ∀ b, (lt_cd a b).all (fr_i fr_Sc fr_Tc) = true) fc_30 fm_30
theorem fc_32 : ∀ a, a < 32 → ∀ b, (lt_cd a b).all (fr_i fr_Sc fr_Tc) = true := lt_s (p := fun a => ∀ b, (lt_cd a b).all (fr_i fr_Sc fr_Tc) = true) fc_31 fm_31
theorem fc_33 : ∀ a, a < 33 → ∀ b, (lt_cd a b).all (fr_i fr_Sc fr_Tc) = true := lt_s (p := fun a => ∀ b, (lt_cd a b).all (fr_i fr_Sc fr_Tc) = true) fc_32 fm_32
theorem fc_34 : ∀ a, a < 34 → ∀ b, (lt_cd a b).all (fr_i fr_Sc fr_Tc) = true := lt_s (p := fun a => ∀ b, (lt_cd a b).all (fr_i fr_Sc fr_Tc) = true) fc_33 fm_33
theorem fc_35 : ∀ a, a < 35 → ∀ b, (lt_cd a b).all (fr_i fr_Sc fr_Tc) = true := lt_s (p := fun a => ∀ b, (lt_cd a b).all (fr_i fr_Sc fr_Tc) = true) fc_34 fm_34
theorem fc_36 : ∀ a, a < 36 → ∀ b, (lt_cd a b).all (fr_i fr_Sc fr_Tc) = true := lt_s (p := fun a => ∀ b, (lt_cd a b).all (fr_i fr_Sc fr_Tc) = true) fc_35 fm_35
theorem fc_37 : ∀ a, a < 37 → ∀ b, (lt_cd a b).all (fr_i fr_Sc fr_Tc) = true := lt_s (p := fun a => ∀ b, (lt_cd a b).all (fr_i fr_Sc fr_Tc) = true) fc_36 fm_36
theorem fc_38 : ∀ a, a < 38 → ∀ b, (lt_cd a b).all (fr_i fr_Sc fr_Tc) = true := lt_s (p := fun a => ∀ b, (lt_cd a b).all (fr_i fr_Sc fr_Tc) = true) fc_37 fm_37
theorem fc_39 : ∀ a, a < 39 → ∀ b, (lt_cd a b).all (fr_i fr_Sc fr_Tc) = true := lt_s (p := fun a => ∀ b, (lt_cd a b).all (fr_i fr_Sc fr_Tc) = true) fc_38 fm_38
theorem fc_40 : ∀ a, a < 40 → ∀ b, (lt_cd a b).all (fr_i fr_Sc fr_Tc) = true := lt_s (p := fun a => ∀ b, (lt_cd a b).all (fr_i fr_Sc fr_Tc) = true) fc_39 fm_39
theorem fc_41 : ∀ a, a < 41 → ∀ b, (lt_cd a b).all (fr_i fr_Sc fr_Tc) = true := lt_s (p := fun a => ∀ b, (lt_cd a b).all (fr_i fr_Sc fr_Tc) = true) fc_40 fm_40
theorem fc_42 : ∀ a, a < 42 → ∀ b, (lt_cd a b).all (fr_i fr_Sc fr_Tc) = true := lt_s (p := fun a => ∀ b, (lt_cd a b).all (fr_i fr_Sc fr_Tc) = true) fc_41 fm_41
theorem fc_43 : ∀ a, a < 43 → ∀ b, (lt_cd a b).all (fr_i fr_Sc fr_Tc) = true := lt_s (p := fun a => ∀ b, (lt_cd a b).all (fr_i fr_Sc fr_Tc) = true) fc_42 fm_42
theorem fc_44 : ∀ a, a < 44 → ∀ b, (lt_cd a b).all (fr_i fr_Sc fr_Tc) = true := lt_s (p := fun a => ∀ b, (lt_cd a b).all (fr_i fr_Sc fr_Tc) = true) fc_43 fm_43
theorem fc_45 : ∀ a, a < 45 → ∀ b, (lt_cd a b).all (fr_i fr_Sc fr_Tc) = true := lt_s (p := fun a => ∀ b, (lt_cd a b).all (fr_i fr_Sc fr_Tc) = true) fc_44 fm_44
theorem fc_46 : ∀ a, a < 46 → ∀ b, (lt_cd a b).all (fr_i fr_Sc fr_Tc) = true := lt_s (p := fun a => ∀ b, (lt_cd a b).all (fr_i fr_Sc fr_Tc) = true) fc_45 fm_45
theorem fc_47 : ∀ a, a < 47 → ∀ b, (lt_cd a b).all (fr_i fr_Sc fr_Tc) = true := lt_s (p := fun a => ∀ b, (lt_cd a b).all (fr_i fr_Sc fr_Tc) = true) fc_46 fm_46
theorem fc_48 : ∀ a, a < 48 → ∀ b, (lt_cd a b).all (fr_i fr_Sc fr_Tc) = true := lt_s (p := fun a => ∀ b, (lt_cd a b).all (fr_i fr_Sc fr_Tc) = true) fc_47 fm_47
theorem fc_49 : ∀ a, a < 49 → ∀ b, (lt_cd a b).all (fr_i fr_Sc fr_Tc) = true := lt_s (p := fun a => ∀ b, (lt_cd a b).all (fr_i fr_Sc fr_Tc) = true) fc_48 fm_48
theorem fc_50 : ∀ a, a < 50 → ∀ b, (lt_cd a b).all (fr_i fr_Sc fr_Tc) = true := lt_s (p := fun a => ∀ b, (lt_cd a b).all (fr_i fr_Sc fr_Tc) = true) fc_49 fm_49
theorem fc_51 : ∀ a, a < 51 → ∀ b, (lt_cd a b).all (fr_i fr_Sc fr_Tc) = true := lt_s (p := fun a => ∀ b, (lt_cd a b).all (fr_i fr_Sc fr_Tc) = true) fc_50 fm_50
theorem fc_52 : ∀ a, a < 52 → ∀ b, (lt_cd a b).all (fr_i fr_Sc fr_Tc) = true := lt_s (p := fun a => ∀ b, (lt_cd a b).all (fr_i fr_Sc fr_Tc) = true) fc_51 fm_51
theorem fc_53 : ∀ a, a < 53 → ∀ b, (lt_cd a b).all (fr_i fr_Sc fr_Tc) = true := lt_s (p := fun a => ∀ b, (lt_cd a b).all (fr_i fr_Sc fr_Tc) = true) fc_52 fm_52
theorem fc_54 : ∀ a, a < 54 → ∀ b, (lt_cd a b).all (fr_i fr_Sc fr_Tc) = true := lt_s (p := fun a => ∀ b, (lt_cd a b).all (fr_i fr_Sc fr_Tc) = true) fc_53 fm_53
theorem fc_55 : ∀ a, a < 55 → ∀ b, (lt_cd a b).all (fr_i fr_Sc fr_Tc) = true := lt_s (p := fun a => ∀ b, (lt_cd a b).all (fr_i fr_Sc fr_Tc) = true) fc_54 fm_54
theorem fc_56 : ∀ a, a < 56 → ∀ b, (lt_cd a b).all (fr_i fr_Sc fr_Tc) = true := lt_s (p := fun a => ∀ b, (lt_cd a b).all (fr_i fr_Sc fr_Tc) = true) fc_55 fm_55
theorem fc_57 : ∀ a, a < 57 → ∀ b, (lt_cd a b).all (fr_i fr_Sc fr_Tc) = true := lt_s (p := fun a => ∀ b, (lt_cd a b).all (fr_i fr_Sc fr_Tc) = true) fc_56 fm_56
theorem fc_58 : ∀ a, a < 58 → ∀ b, (lt_cd a b).all (fr_i fr_Sc fr_Tc) = true := lt_s (p := fun a => ∀ b, (lt_cd a b).all (fr_i fr_Sc fr_Tc) = true) fc_57 fm_57
theorem fc_59 : ∀ a, a < 59 → ∀ b, (lt_cd a b).all (fr_i fr_Sc fr_Tc) = true := lt_s (p := fun a => ∀ b, (lt_cd a b).all (fr_i fr_Sc fr_Tc) = true) fc_58 fm_58
theorem fc_60 : ∀ a, a < 60 → ∀ b, (lt_cd a b).all (fr_i fr_Sc fr_Tc) = true := lt_s (p := fun a => ∀ b, (lt_cd a b).all (fr_i fr_Sc fr_Tc) = true) fc_59 fm_59
theorem fc_61 : ∀ a, a < 61 → ∀ b, (lt_cd a b).all (fr_i fr_Sc fr_Tc) = true := lt_s (p := fun a => ∀ b, (lt_cd a b).all (fr_i fr_Sc fr_Tc) = true) fc_60 fm_60
theorem fc_62 : ∀ a, a < 62 → ∀ b, (lt_cd a b).all (fr_i fr_Sc fr_Tc) = true := lt_s (p := fun a => ∀ b, (lt_cd a b).all (fr_i fr_Sc fr_Tc) = true) fc_61 fm_61
theorem fc_63 : ∀ a, a < 63 → ∀ b, (lt_cd a b).all (fr_i fr_Sc fr_Tc) = true := lt_s (p := fun a => ∀ b, (lt_cd a b).all (fr_i fr_Sc fr_Tc) = true) fc_62 fm_62
theorem fc_64 : ∀ a, a < 64 → ∀ b, (lt_cd a b).all (fr_i fr_Sc fr_Tc) = true := lt_s (p := fun a => ∀ b, (lt_cd a b).all (fr_i fr_Sc fr_Tc) = true) fc_63 fm_63
theorem fc_65 : ∀ a, a < 65 → ∀ b, (lt_cd a b).all (fr_i fr_Sc fr_Tc) = true := lt_s (p := fun a => ∀ b, (lt_cd a b).all (fr_i fr_Sc fr_Tc) = true) fc_64 fm_64
theorem fc_66 : ∀ a, a < 66 → ∀ b, (lt_cd a b).all (fr_i fr_Sc fr_Tc) = true := lt_s (p := fun a => ∀ b, (lt_cd a b).all (fr_i fr_Sc fr_Tc) = true) fc_65 fm_65
theorem fc_67 : ∀ a, a < 67 → ∀ b, (lt_cd a b).all (fr_i fr_Sc fr_Tc) = true := lt_s (p := fun a => ∀ b, (lt_cd a b).all (fr_i fr_Sc fr_Tc) = true) fc_66 fm_66
theorem fc_68 : ∀ a, a < 68 → ∀ b, (lt_cd a b).all (fr_i fr_Sc fr_Tc) = true := lt_s (p := fun a => ∀ b, (lt_cd a b).all (fr_i fr_Sc fr_Tc) = true) fc_67 fm_67
theorem fc_69 : ∀ a, a < 69 → ∀ b, (lt_cd a b).all (fr_i fr_Sc fr_Tc) = true := lt_s (p := fun a => ∀ b, (lt_cd a b).all (fr_i fr_Sc fr_Tc) = true) fc_68 fm_68
theorem fc_70 : ∀ a, a < 70 → ∀ b, (lt_cd a b).all (fr_i fr_Sc fr_Tc) = true := lt_s (p := fun a => ∀ b, (lt_cd a b).all (fr_i fr_Sc fr_Tc) = true) fc_69 fm_69
theorem fc_71 : ∀ a, a < 71 → ∀ b, (lt_cd a b).all (fr_i fr_Sc fr_Tc) = true := lt_s (p := fun a => ∀ b, (lt_cd a b).all (fr_i fr_Sc fr_Tc) = true) fc_70 fm_70
theorem fc_72 : ∀ a, a < 72 → ∀ b, (lt_cd a b).all (fr_i fr_Sc fr_Tc) = true := lt_s (p := fun a => ∀ b, (lt_cd a b).all (fr_i fr_Sc fr_Tc) = true) fc_71 fm_71
theorem fc_73 : ∀ a, a < 73 → ∀ b, (lt_cd a b).all (fr_i fr_Sc fr_Tc) = true := lt_s (p := fun a => ∀ b, (lt_cd a b).all (fr_i fr_Sc fr_Tc) = true) fc_72 fm_72
theorem fc_74 : ∀ a, a < 74 → ∀ b, (lt_cd a b).all (fr_i fr_Sc fr_Tc) = true := lt_s (p := fun a => ∀ b, (lt_cd a b).all (fr_i fr_Sc fr_Tc) = true) fc_73 fm_73
theorem fc_75 : ∀ a, a < 75 → ∀ b, (lt_cd a b).all (fr_i fr_Sc fr_Tc) = true := lt_s (p := fun a => ∀ b, (lt_cd a b).all (fr_i fr_Sc fr_Tc) = true) fc_74 fm_74
theorem fc_76 : ∀ a, a < 76 → ∀ b, (lt_cd a b).all (fr_i fr_Sc fr_Tc) = true := lt_s (p := fun a => ∀ b, (lt_cd a b).all (fr_i fr_Sc fr_Tc) = true) fc_75 fm_75
theorem fc_77 : ∀ a, a < 77 → ∀ b, (lt_cd a b).all (fr_i fr_Sc fr_Tc) = true := lt_s (p := fun a => ∀ b, (lt_cd a b).all (fr_i fr_Sc fr_Tc) = true) fc_76 fm_76
theorem fc_78 : ∀ a, a < 78 → ∀ b, (lt_cd a b).all (fr_i fr_Sc fr_Tc) = true := lt_s (p := fun a => ∀ b, (lt_cd a b).all (fr_i fr_Sc fr_Tc) = true) fc_77 fm_77
theorem fc_79 : ∀ a, a < 79 → ∀ b, (lt_cd a b).all (fr_i fr_Sc fr_Tc) = true := lt_s (p := fun a => ∀ b, (lt_cd a b).all (fr_i fr_Sc fr_Tc) = true) fc_78 fm_78
theorem fc_80 : ∀ a, a < 80 → ∀ b, (lt_cd a b).all (fr_i fr_Sc fr_Tc) = true := lt_s (p := fun a => ∀ b, (lt_cd a b).all (fr_i fr_Sc fr_Tc) = true) fc_79 fm_79
theorem fc_81 : ∀ a, a < 81 → ∀ b, (lt_cd a b).all (fr_i fr_Sc fr_Tc) = true := lt_s (p := fun a => ∀ b, (lt_cd a b).all (fr_i fr_Sc fr_Tc) = true) fc_80 fm_80
theorem fc_82 : ∀ a, a < 82 → ∀ b, (lt_cd a b).all (fr_i fr_Sc fr_Tc) = true := lt_s (p := fun a => ∀ b, (lt_cd a b).all (fr_i fr_Sc fr_Tc) = true) fc_81 fm_81
theorem fc_83 : ∀ a, a < 83 → ∀ b, (lt_cd a b).all (fr_i fr_Sc fr_Tc) = true := lt_s (p := fun a => ∀ b, (lt_cd a b).all (fr_i fr_Sc fr_Tc) = true) fc_82 fm_82
theorem fc_84 : ∀ a, a < 84 → ∀ b, (lt_cd a b).all (fr_i fr_Sc fr_Tc) = true := lt_s (p := fun a => ∀ b, (lt_cd a b).all (fr_i fr_Sc fr_Tc) = true) fc_83 fm_83
theorem fc_85 : ∀ a, a < 85 → ∀ b, (lt_cd a b).all (fr_i fr_Sc fr_Tc) = true := lt_s (p := fun a => ∀ b, (lt_cd a b).all (fr_i fr_Sc fr_Tc) = true) fc_84 fm_84
theorem fc_86 : ∀ a, a < 86 → ∀ b, (lt_cd a b).all (fr_i fr_Sc fr_Tc) = true := lt_s (p := fun a => ∀ b, (lt_cd a b).all (fr_i fr_Sc fr_Tc) = true) fc_85 fm_85
theorem fc_87 : ∀ a, a < 87 → ∀ b, (lt_cd a b).all (fr_i fr_Sc fr_Tc) = true := lt_s (p := fun a => ∀ b, (lt_cd a b).all (fr_i fr_Sc fr_Tc) = true) fc_86 fm_86
theorem fc_88 : ∀ a, a < 88 → ∀ b, (lt_cd a b).all (fr_i fr_Sc fr_Tc) = true := lt_s (p := fun a => ∀ b, (lt_cd a b).all (fr_i fr_Sc fr_Tc) = true) fc_87 fm_87
theorem fc_89 : ∀ a, a < 89 → ∀ b, (lt_cd a b).all (fr_i fr_Sc fr_Tc) = true := lt_s (p := fun a => ∀ b, (lt_cd a b).all (fr_i fr_Sc fr_Tc) = true) fc_88 fm_88
theorem fc_90 : ∀ a, a < 90 → ∀ b, (lt_cd a b).all (fr_i fr_Sc fr_Tc) = true := lt_s (p := fun a => ∀ b, (lt_cd a b).all (fr_i fr_Sc fr_Tc) = true) fc_89 fm_89
theorem fc_91 : ∀ a, a < 91 → ∀ b, (lt_cd a b).all (fr_i fr_Sc fr_Tc) = true := lt_s (p := fun a => ∀ b, (lt_cd a b).all (fr_i fr_Sc fr_Tc) = true) fc_90 fm_90
theorem fc_92 : ∀ a, a < 92 → ∀ b, (lt_cd a b).all (fr_i fr_Sc fr_Tc) = true := lt_s (p := fun a => ∀ b, (lt_cd a b).all (fr_i fr_Sc fr_Tc) = true) fc_91 fm_91
theorem fc_93 : ∀ a, a < 93 → ∀ b, (lt_cd a b).all (fr_i fr_Sc fr_Tc) = true := lt_s (p := fun a => ∀ b, (lt_cd a b).all (fr_i fr_Sc fr_Tc) = true) fc_92 fm_92
theorem fc_94 : ∀ a, a < 94 → ∀ b, (lt_cd a b).all (fr_i fr_Sc fr_Tc) = true := lt_s (p := fun a => ∀ b, (lt_cd a b).all (fr_i fr_Sc fr_Tc) = true) fc_93 fm_93
theorem fc_95 : ∀ a, a < 95 → ∀ b, (lt_cd a b).all (fr_i fr_Sc fr_Tc) = true := lt_s (p := fun a => ∀ b, (lt_cd a b).all (fr_i fr_Sc fr_Tc) = true) fc_94 fm_94
theorem fc_96 : ∀ a, a < 96 → ∀ b, (lt_cd a b).all (fr_i fr_Sc fr_Tc) = true := lt_s (p := fun a => ∀ b, (lt_cd a b).all (fr_i fr_Sc fr_Tc) = true) fc_95 fm_95
theorem fc_97 : ∀ a, a < 97 → ∀ b, (lt_cd a b).all (fr_i fr_Sc fr_Tc) = true := lt_s (p := fun a => ∀ b, (lt_cd a b).all (fr_i fr_Sc fr_Tc) = true) fc_96 fm_96
theorem fc_98 : ∀ a, a < 98 → ∀ b, (lt_cd a b).all (fr_i fr_Sc fr_Tc) = true := lt_s (p := fun a => ∀ b, (lt_cd a b).all (fr_i fr_Sc fr_Tc) = true) fc_97 fm_97
theorem fc_99 : ∀ a, a < 99 → ∀ b, (lt_cd a b).all (fr_i fr_Sc fr_Tc) = true := lt_s (p := fun a => ∀ b, (lt_cd a b).all (fr_i fr_Sc fr_Tc) = true) fc_98 fm_98
theorem fc_100 : ∀ a, a < 100 → ∀ b, (lt_cd a b).all (fr_i fr_Sc fr_Tc) = true := lt_s (p := fun a => ∀ b, (lt_cd a b).all (fr_i fr_Sc fr_Tc) = true) fc_99 fm_99
theorem fc_101 : ∀ a, a < 101 → ∀ b, (lt_cd a b).all (fr_i fr_Sc fr_Tc) = true := lt_s (p := fun a => ∀ b, (lt_cd a b).all (fr_i fr_Sc fr_Tc) = true) fc_100 fm_100
theorem fc_102 : ∀ a, a < 102 → ∀ b, (lt_cd a b).all (fr_i fr_Sc fr_Tc) = true := lt_s (p := fun a => ∀ b, (lt_cd a b).all (fr_i fr_Sc fr_Tc) = true) fc_101 fm_101
theorem fc_103 : ∀ a, a < 103 → ∀ b, (lt_cd a b).all (fr_i fr_Sc fr_Tc) = true := lt_s (p := fun a => ∀ b, (lt_cd a b).all (fr_i fr_Sc fr_Tc) = true) fc_102 fm_102
theorem fc_104 : ∀ a, a < 104 → ∀ b, (lt_cd a b).all (fr_i fr_Sc fr_Tc) = true := lt_s (p := fun a => ∀ b, (lt_cd a b).all (fr_i fr_Sc fr_Tc) = true) fc_103 fm_103
theorem fc_105 : ∀ a, a < 105 → ∀ b, (lt_cd a b).all (fr_i fr_Sc fr_Tc) = true := lt_s (p := fun a => ∀ b, (lt_cd a b).all (fr_i fr_Sc fr_Tc) = true) fc_104 fm_104
theorem fc_106 : ∀ a, a < 106 → ∀ b, (lt_cd a b).all (fr_i fr_Sc fr_Tc) = true := lt_s (p := fun a => ∀ b, (lt_cd a b).all (fr_i fr_Sc fr_Tc) = true) fc_105 fm_105
theorem fc_107 : ∀ a, a < 107 → ∀ b, (lt_cd a b).all (fr_i fr_Sc fr_Tc) = true := lt_s (p := fun a => ∀ b, (lt_cd a b).all (fr_i fr_Sc fr_Tc) = true) fc_106 fm_106
theorem fc_108 : ∀ a, a < 108 → ∀ b, (lt_cd a b).all (fr_i fr_Sc fr_Tc) = true := lt_s (p := fun a => ∀ b, (lt_cd a b).all (fr_i fr_Sc fr_Tc) = true) fc_107 fm_107
theorem fc_109 : ∀ a, a < 109 → ∀ b, (lt_cd a b).all (fr_i fr_Sc fr_Tc) = true := lt_s (p := fun a => ∀ b, (lt_cd a b).all (fr_i fr_Sc fr_Tc) = true) fc_108 fm_108
theorem fc_110 : ∀ a, a < 110 → ∀ b, (lt_cd a b).all (fr_i fr_Sc fr_Tc) = true := lt_s (p := fun a => ∀ b, (lt_cd a b).all (fr_i fr_Sc fr_Tc) = true) fc_109 fm_109
theorem fc_111 : ∀ a, a < 111 → ∀ b, (lt_cd a b).all (fr_i fr_Sc fr_Tc) = true := lt_s (p := fun a => ∀ b, (lt_cd a b).all (fr_i fr_Sc fr_Tc) = true) fc_110 fm_110
theorem fc_112 : ∀ a, a < 112 → ∀ b, (lt_cd a b).all (fr_i fr_Sc fr_Tc) = true := lt_s (p := fun a => ∀ b, (lt_cd a b).all (fr_i fr_Sc fr_Tc) = true) fc_111 fm_111
theorem fc_113 : ∀ a, a < 113 → ∀ b, (lt_cd a b).all (fr_i fr_Sc fr_Tc) = true := lt_s (p := fun a => ∀ b, (lt_cd a b).all (fr_i fr_Sc fr_Tc) = true) fc_112 fm_112
theorem fc_114 : ∀ a, a < 114 → ∀ b, (lt_cd a b).all (fr_i fr_Sc fr_Tc) = true := lt_s (p := fun a => ∀ b, (lt_cd a b).all (fr_i fr_Sc fr_Tc) = true) fc_113 fm_113
theorem fc_115 : ∀ a, a < 115 → ∀ b, (lt_cd a b).all (fr_i fr_Sc fr_Tc) = true := lt_s (p := fun a => ∀ b, (lt_cd a b).all (fr_i fr_Sc fr_Tc) = true) fc_114 fm_114
theorem fc_116 : ∀ a, a < 116 → ∀ b, (lt_cd a b).all (fr_i fr_Sc fr_Tc) = true := lt_s (p := fun a => ∀ b, (lt_cd a b).all (fr_i fr_Sc fr_Tc) = true) fc_115 fm_115
theorem fc_117 : ∀ a, a < 117 → ∀ b, (lt_cd a b).all (fr_i fr_Sc fr_Tc) = true := lt_s (p := fun a => ∀ b, (lt_cd a b).all (fr_i fr_Sc fr_Tc) = true) fc_116 fm_116
theorem fc_118 : ∀ a, a < 118 → ∀ b, (lt_cd a b).all (fr_i fr_Sc fr_Tc) = true := lt_s (p := fun a => ∀ b, (lt_cd a b).all (fr_i fr_Sc fr_Tc) = true) fc_117 fm_117
theorem fc_119 : ∀ a, a < 119 → ∀ b, (lt_cd a b).all (fr_i fr_Sc fr_Tc) = true := lt_s (p := fun a => ∀ b, (lt_cd a b).all (fr_i fr_Sc fr_Tc) = true) fc_118 fm_118
theorem fc_120 : ∀ a, a < 120 → ∀ b, (lt_cd a b).all (fr_i fr_Sc fr_Tc) = true := lt_s (p := fun a => ∀ b, (lt_cd a b).all (fr_i fr_Sc fr_Tc) = true) fc_119 fm_119
theorem fc_121 : ∀ a, a < 121 → ∀ b, (lt_cd a b).all (fr_i fr_Sc fr_Tc) = true := lt_s (p := fun a => ∀ b, (lt_cd a b).all (fr_i fr_Sc fr_Tc) = true) fc_120 fm_120
theorem fc_122 : ∀ a, a < 122 → ∀ b, (lt_cd a b).all (fr_i fr_Sc fr_Tc) = true := lt_s (p := fun a => ∀ b, (lt_cd a b).all (fr_i fr_Sc fr_Tc) = true) fc_121 fm_121
theorem fc_123 : ∀ a, a < 123 → ∀ b, (lt_cd a b).all (fr_i fr_Sc fr_Tc) = true := lt_s (p := fun a => ∀ b, (lt_cd a b).all (fr_i fr_Sc fr_Tc) = true) fc_122 fm_122
theorem fc_124 : ∀ a, a < 124 → ∀ b, (lt_cd a b).all (fr_i fr_Sc fr_Tc) = true := lt_s (p := fun a => ∀ b, (lt_cd a b).all (fr_i fr_Sc fr_Tc) = true) fc_123 fm_123
theorem fc_125 : ∀ a, a < 125 → ∀ b, (lt_cd a b).all (fr_i fr_Sc fr_Tc) = true := lt_s (p := fun a => ∀ b, (lt_cd a b).all (fr_i fr_Sc fr_Tc) = true) fc_124 fm_124
theorem fc_126 : ∀ a, a < 126 → ∀ b, (lt_cd a b).all (fr_i fr_Sc fr_Tc) = true := lt_s (p := fun a => ∀ b, (lt_cd a b).all (fr_i fr_Sc fr_Tc) = true) fc_125 fm_125
theorem fc_127 : ∀ a, a < 127 → ∀ b, (lt_cd a b).all (fr_i fr_Sc fr_Tc) = true := lt_s (p := fun a => ∀ b, (lt_cd a b).all (fr_i fr_Sc fr_Tc) = true) fc_126 fm_126
theorem fc_128 : ∀ a, a < 128 → ∀ b, (lt_cd a b).all (fr_i fr_Sc fr_Tc) = true := lt_s (p := fun a => ∀ b, (lt_cd a b).all (fr_i fr_Sc fr_Tc) = true) fc_127 fm_127
theorem fc_129 : ∀ a, a < 129 → ∀ b, (lt_cd a b).all (fr_i fr_Sc fr_Tc) = true := lt_s (p := fun a => ∀ b, (lt_cd a b).all (fr_i fr_Sc fr_Tc) = true) fc_128 fm_128
theorem fc_130 : ∀ a, a < 130 → ∀ b, (lt_cd a b).all (fr_i fr_Sc fr_Tc) = true := lt_s (p := fun a => ∀ b, (lt_cd a b).all (fr_i fr_Sc fr_Tc) = true) fc_129 fm_129
theorem fc_131 : ∀ a, a < 131 → ∀ b, (lt_cd a b).all (fr_i fr_Sc fr_Tc) = true := lt_s (p := fun a => ∀ b, (lt_cd a b).all (fr_i fr_Sc fr_Tc) = true) fc_130 fm_130
theorem fc_132 : ∀ a, a < 132 → ∀ b, (lt_cd a b).all (fr_i fr_Sc fr_Tc) = true := lt_s (p := fun a => ∀ b, (lt_cd a b).all (fr_i fr_Sc fr_Tc) = true) fc_131 fm_131
theorem fc_133 : ∀ a, a < 133 → ∀ b, (lt_cd a b).all (fr_i fr_Sc fr_Tc) = true := lt_s (p := fun a => ∀ b, (lt_cd a b).all (fr_i fr_Sc fr_Tc) = true) fc_132 fm_132
theorem fc_134 : ∀ a, a < 134 → ∀ b, (lt_cd a b).all (fr_i fr_Sc fr_Tc) = true := lt_s (p := fun a => ∀ b, (lt_cd a b).all (fr_i fr_Sc fr_Tc) = true) fc_133 fm_133
theorem fc_135 : ∀ a, a < 135 → ∀ b, (lt_cd a b).all (fr_i fr_Sc fr_Tc) = true := lt_s (p := fun a => ∀ b, (lt_cd a b).all (fr_i fr_Sc fr_Tc) = true) fc_134 fm_134
theorem fc_136 : ∀ a, a < 136 → ∀ b, (lt_cd a b).all (fr_i fr_Sc fr_Tc) = true := lt_s (p := fun a => ∀ b, (lt_cd a b).all (fr_i fr_Sc fr_Tc) = true) fc_135 fm_135
theorem fc_137 : ∀ a, a < 137 → ∀ b, (lt_cd a b).all (fr_i fr_Sc fr_Tc) = true := lt_s (p := fun a => ∀ b, (lt_cd a b).all (fr_i fr_Sc fr_Tc) = true) fc_136 fm_136
theorem fc_138 : ∀ a, a < 138 → ∀ b, (lt_cd a b).all (fr_i fr_Sc fr_Tc) = true := lt_s (p := fun a => ∀ b, (lt_cd a b).all (fr_i fr_Sc fr_Tc) = true) fc_137 fm_137
theorem fc_139 : ∀ a, a < 139 → ∀ b, (lt_cd a b).all (fr_i fr_Sc fr_Tc) = true := lt_s (p := fun a => ∀ b, (lt_cd a b).all (fr_i fr_Sc fr_Tc) = true) fc_138 fm_138
theorem fc_140 : ∀ a, a < 140 → ∀ b, (lt_cd a b).all (fr_i fr_Sc fr_Tc) = true := lt_s (p := fun a => ∀ b, (lt_cd a b).all (fr_i fr_Sc fr_Tc) = true) fc_139 fm_139
theorem fc_141 : ∀ a, a < 141 → ∀ b, (lt_cd a b).all (fr_i fr_Sc fr_Tc) = true := lt_s (p := fun a => ∀ b, (lt_cd a b).all (fr_i fr_Sc fr_Tc) = true) fc_140 fm_140
theorem fc_142 : ∀ a, a < 142 → ∀ b, (lt_cd a b).all (fr_i fr_Sc fr_Tc) = true := lt_s (p := fun a => ∀ b, (lt_cd a b).all (fr_i fr_Sc fr_Tc) = true) fc_141 fm_141
theorem fc_143 : ∀ a, a < 143 → ∀ b, (lt_cd a b).all (fr_i fr_Sc fr_Tc) = true := lt_s (p := fun a => ∀ b, (lt_cd a b).all (fr_i fr_Sc fr_Tc) = true) fc_142 fm_142
theorem fc_144 : ∀ a, a < 144 → ∀ b, (lt_cd a b).all (fr_i fr_Sc fr_Tc) = true := lt_s (p := fun a => ∀ b, (lt_cd a b).all (fr_i fr_Sc fr_Tc) = true) fc_143 fm_143
theorem fc_145 : ∀ a, a < 145 → ∀ b, (lt_cd a b).all (fr_i fr_Sc fr_Tc) = true := lt_s (p := fun a => ∀ b, (lt_cd a b).all (fr_i fr_Sc fr_Tc) = true) fc_144 fm_144
theorem fc_146 : ∀ a, a < 146 → ∀ b, (lt_cd a b).all (fr_i fr_Sc fr_Tc) = true := lt_s (p := fun a => ∀ b, (lt_cd a b).all (fr_i fr_Sc fr_Tc) = true) fc_145 fm_145
theorem fc_147 : ∀ a, a < 147 → ∀ b, (lt_cd a b).all (fr_i fr_Sc fr_Tc) = true := lt_s (p := fun a => ∀ b, (lt_cd a b).all (fr_i fr_Sc fr_Tc) = true) fc_146 fm_146
theorem fc_148 : ∀ a, a < 148 → ∀ b, (lt_cd a b).all (fr_i fr_Sc fr_Tc) = true := lt_s (p := fun a => ∀ b, (lt_cd a b).all (fr_i fr_Sc fr_Tc) = true) fc_147 fm_147
theorem fc_149 : ∀ a, a < 149 → ∀ b, (lt_cd a b).all (fr_i fr_Sc fr_Tc) = true := lt_s (p := fun a => ∀ b, (lt_cd a b).all (fr_i fr_Sc fr_Tc) = true) fc_148 fm_148
theorem fc_150 : ∀ a, a < 150 → ∀ b, (lt_cd a b).all (fr_i fr_Sc fr_Tc) = true := lt_s (p := fun a => ∀ b, (lt_cd a b).all (fr_i fr_Sc fr_Tc) = true) fc_149 fm_149
theorem fc_151 : ∀ a, a < 151 → ∀ b, (lt_cd a b).all (fr_i fr_Sc fr_Tc) = true := lt_s (p := fun a => ∀ b, (lt_cd a b).all (fr_i fr_Sc fr_Tc) = true) fc_150 fm_150
theorem fc_152 : ∀ a, a < 152 → ∀ b, (lt_cd a b).all (fr_i fr_Sc fr_Tc) = true := lt_s (p := fun a => ∀ b, (lt_cd a b).all (fr_i fr_Sc fr_Tc) = true) fc_151 fm_151
theorem fc_153 : ∀ a, a < 153 → ∀ b, (lt_cd a b).all (fr_i fr_Sc fr_Tc) = true := lt_s (p := fun a => ∀ b, (lt_cd a b).all (fr_i fr_Sc fr_Tc) = true) fc_152 fm_152
theorem fc_154 : ∀ a, a < 154 → ∀ b, (lt_cd a b).all (fr_i fr_Sc fr_Tc) = true := lt_s (p := fun a => ∀ b, (lt_cd a b).all (fr_i fr_Sc fr_Tc) = true) fc_153 fm_153
theorem fc_155 : ∀ a, a < 155 → ∀ b, (lt_cd a b).all (fr_i fr_Sc fr_Tc) = true := lt_s (p := fun a => ∀ b, (lt_cd a b).all (fr_i fr_Sc fr_Tc) = true) fc_154 fm_154
theorem fc_156 : ∀ a, a < 156 → ∀ b, (lt_cd a b).all (fr_i fr_Sc fr_Tc) = true := lt_s (p := fun a => ∀ b, (lt_cd a b).all (fr_i fr_Sc fr_Tc) = true) fc_155 fm_155
theorem fc_157 : ∀ a, a < 157 → ∀ b, (lt_cd a b).all (fr_i fr_Sc fr_Tc) = true := lt_s (p := fun a => ∀ b, (lt_cd a b).all (fr_i fr_Sc fr_Tc) = true) fc_156 fm_156
theorem fc_158 : ∀ a, a < 158 → ∀ b, (lt_cd a b).all (fr_i fr_Sc fr_Tc) = true := lt_s (p := fun a => ∀ b, (lt_cd a b).all (fr_i fr_Sc fr_Tc) = true) fc_157 fm_157
theorem fc_159 : ∀ a, a < 159 → ∀ b, (lt_cd a b).all (fr_i fr_Sc fr_Tc) = true := lt_s (p := fun a => ∀ b, (lt_cd a b).all (fr_i fr_Sc fr_Tc) = true) fc_158 fm_158
theorem fc_160 : ∀ a, a < 160 → ∀ b, (lt_cd a b).all (fr_i fr_Sc fr_Tc) = true := lt_s (p := fun a => ∀ b, (lt_cd a b).all (fr_i fr_Sc fr_Tc) = true) fc_159 fm_159
theorem fc_161 : ∀ a, a < 161 → ∀ b, (lt_cd a b).all (fr_i fr_Sc fr_Tc) = true := lt_s (p := fun a => ∀ b, (lt_cd a b).all (fr_i fr_Sc fr_Tc) = true) fc_160 fm_160
theorem fc_162 : ∀ a, a < 162 → ∀ b, (lt_cd a b).all (fr_i fr_Sc fr_Tc) = true := lt_s (p := fun a => ∀ b, (lt_cd a b).all (fr_i fr_Sc fr_Tc) = true) fc_161 fm_161
theorem fc_163 : ∀ a, a < 163 → ∀ b, (lt_cd a b).all (fr_i fr_Sc fr_Tc) = true := lt_s (p := fun a => ∀ b, (lt_cd a b).all (fr_i fr_Sc fr_Tc) = true) fc_162 fm_162
theorem fc_164 : ∀ a, a < 164 → ∀ b, (lt_cd a b).all (fr_i fr_Sc fr_Tc) = true := lt_s (p := fun a => ∀ b, (lt_cd a b).all (fr_i fr_Sc fr_Tc) = true) fc_163 fm_163
theorem fc_165 : ∀ a, a < 165 → ∀ b, (lt_cd a b).all (fr_i fr_Sc fr_Tc) = true := lt_s (p := fun a => ∀ b, (lt_cd a b).all (fr_i fr_Sc fr_Tc) = true) fc_164 fm_164
theorem fc_166 : ∀ a, a < 166 → ∀ b, (lt_cd a b).all (fr_i fr_Sc fr_Tc) = true := lt_s (p := fun a => ∀ b, (lt_cd a b).all (fr_i fr_Sc fr_Tc) = true) fc_165 fm_165
theorem fc_167 : ∀ a, a < 167 → ∀ b, (lt_cd a b).all (fr_i fr_Sc fr_Tc) = true := lt_s (p := fun a => ∀ b, (lt_cd a b).all (fr_i fr_Sc fr_Tc) = true) fc_166 fm_166
theorem fc_168 : ∀ a, a < 168 → ∀ b, (lt_cd a b).all (fr_i fr_Sc fr_Tc) = true := lt_s (p := fun a => ∀ b, (lt_cd a b).all (fr_i fr_Sc fr_Tc) = true) fc_167 fm_167
theorem fc_169 : ∀ a, a < 169 → ∀ b, (lt_cd a b).all (fr_i fr_Sc fr_Tc) = true := lt_s (p := fun a => ∀ b, (lt_cd a b).all (fr_i fr_Sc fr_Tc) = true) fc_168 fm_168
theorem fc_170 : ∀ a, a < 170 → ∀ b, (lt_cd a b).all (fr_i fr_Sc fr_Tc) = true := lt_s (p := fun a => ∀ b, (lt_cd a b).all (fr_i fr_Sc fr_Tc) = true) fc_169 fm_169
theorem fc_171 : ∀ a, a < 171 → ∀ b, (lt_cd a b).all (fr_i fr_Sc fr_Tc) = true := lt_s (p := fun a => ∀ b, (lt_cd a b).all (fr_i fr_Sc fr_Tc) = true) fc_170 fm_170
theorem fc_172 : ∀ a, a < 172 → ∀ b, (lt_cd a b).all (fr_i fr_Sc fr_Tc) = true := lt_s (p := fun a => ∀ b, (lt_cd a b).all (fr_i fr_Sc fr_Tc) = true) fc_171 fm_171
theorem fc_173 : ∀ a, a < 173 → ∀ b, (lt_cd a b).all (fr_i fr_Sc fr_Tc) = true := lt_s (p := fun a => ∀ b, (lt_cd a b).all (fr_i fr_Sc fr_Tc) = true) fc_172 fm_172
theorem fc_174 : ∀ a, a < 174 → ∀ b, (lt_cd a b).all (fr_i fr_Sc fr_Tc) = true := lt_s (p := fun a => ∀ b, (lt_cd a b).all (fr_i fr_Sc fr_Tc) = true) fc_173 fm_173
theorem fc_175 : ∀ a, a < 175 → ∀ b, (lt_cd a b).all (fr_i fr_Sc fr_Tc) = true := lt_s (p := fun a => ∀ b, (lt_cd a b).all (fr_i fr_Sc fr_Tc) = true) fc_174 fm_174
theorem fc_176 : ∀ a, a < 176 → ∀ b, (lt_cd a b).all (fr_i fr_Sc fr_Tc) = true := lt_s (p := fun a => ∀ b, (lt_cd a b).all (fr_i fr_Sc fr_Tc) = true) fc_175 fm_175
theorem fc_177 : ∀ a, a < 177 → ∀ b, (lt_cd a b).all (fr_i fr_Sc fr_Tc) = true := lt_s (p := fun a => ∀ b, (lt_cd a b).all (fr_i fr_Sc fr_Tc) = true) fc_176 fm_176
theorem fd_177 : ∀ a, a < 177 → 177 ≤ a → ∀ b, (lt_cd a b).all (fr_i fr_Sm fr_Tm) = true := fun a h h2 => absurd h (Nat.not_lt.mpr h2)
theorem fd_178 : ∀ a, a < 178 → 177 ≤ a → ∀ b, (lt_cd a b).all (fr_i fr_Sm fr_Tm) = true := lt_s (p := fun a => 177 ≤ a → ∀ b, (lt_cd a b).all (fr_i fr_Sm fr_Tm) = true) fd_177 (fun _ => fm_177)
theorem fd_179 : ∀ a, a < 179 → 177 ≤ a → ∀ b, (lt_cd a b).all (fr_i fr_Sm fr_Tm) = true := lt_s (p := fun a => 177 ≤ a → ∀ b, (lt_cd a b).all (fr_i fr_Sm fr_Tm) = true) fd_178 (fun _ => fm_178)
theorem fd_180 : ∀ a, a < 180 → 177 ≤ a → ∀ b, (lt_cd a b).all (fr_i fr_Sm fr_Tm) = true := lt_s (p := fun a => 177 ≤ a → ∀ b, (lt_cd a b).all (fr_i fr_Sm fr_Tm) = true) fd_179 (fun _ => fm_179)
theorem fd_181 : ∀ a, a < 181 → 177 ≤ a → ∀ b, (lt_cd a b).all (fr_i fr_Sm fr_Tm) = true := lt_s (p := fun a => 177 ≤ a → ∀ b, (lt_cd a b).all (fr_i fr_Sm fr_Tm) = true) fd_180 (fun _ => fm_180)
theorem fd_182 : ∀ a, a < 182 → 177 ≤ a → ∀ b, (lt_cd a b).all (fr_i fr_Sm fr_Tm) = true := lt_s (p := fun a => 177 ≤ a → ∀ b, (lt_cd a b).all (fr_i fr_Sm fr_Tm) = true) fd_181 (fun _ => fm_181)
theorem fd_183 : ∀ a, a < 183 → 177 ≤ a → ∀ b, (lt_cd a b).all (fr_i fr_Sm fr_Tm) = true := lt_s (p := fun a => 177 ≤ a → ∀ b, (lt_cd a b).all (fr_i fr_Sm fr_Tm) = true) fd_182 (fun _ => fm_182)
theorem fd_184 : ∀ a, a < 184 → 177 ≤ a → ∀ b, (lt_cd a b).all (fr_i fr_Sm fr_Tm) = true := lt_s (p := fun a => 177 ≤ a → ∀ b, (lt_cd a b).all (fr_i fr_Sm fr_Tm) = true) fd_183 (fun _ => fm_183)
theorem fd_185 : ∀ a, a < 185 → 177 ≤ a → ∀ b, (lt_cd a b).all (fr_i fr_Sm fr_Tm) = true := lt_s (p := fun a => 177 ≤ a → ∀ b, (lt_cd a b).all (fr_i fr_Sm fr_Tm) = true) fd_184 (fun _ => fm_184)
theorem fd_186 : ∀ a, a < 186 → 177 ≤ a → ∀ b, (lt_cd a b).all (fr_i fr_Sm fr_Tm) = true := lt_s (p := fun a => 177 ≤ a → ∀ b, (lt_cd a b).all (fr_i fr_Sm fr_Tm) = true) fd_185 (fun _ => fm_185)
theorem fd_187 : ∀ a, a < 187 → 177 ≤ a → ∀ b, (lt_cd a b).all (fr_i fr_Sm fr_Tm) = true := lt_s (p := fun a => 177 ≤ a → ∀ b, (lt_cd a b).all (fr_i fr_Sm fr_Tm) = true) fd_186 (fun _ => fm_186)
theorem fd_188 : ∀ a, a < 188 → 177 ≤ a → ∀ b, (lt_cd a b).all (fr_i fr_Sm fr_Tm) = true := lt_s (p := fun a => 177 ≤ a → ∀ b, (lt_cd a b).all (fr_i fr_Sm fr_Tm) = true) fd_187 (fun _ => fm_187)
theorem fd_189 : ∀ a, a < 189 → 177 ≤ a → ∀ b, (lt_cd a b).all (fr_i fr_Sm fr_Tm) = true := lt_s (p := fun a => 177 ≤ a → ∀ b, (lt_cd a b).all (fr_i fr_Sm fr_Tm) = true) fd_188 (fun _ => fm_188)
theorem fd_190 : ∀ a, a < 190 → 177 ≤ a → ∀ b, (lt_cd a b).all (fr_i fr_Sm fr_Tm) = true := lt_s (p := fun a => 177 ≤ a → ∀ b, (lt_cd a b).all (fr_i fr_Sm fr_Tm) = true) fd_189 (fun _ => fm_189)
theorem fd_191 : ∀ a, a < 191 → 177 ≤ a → ∀ b, (lt_cd a b).all (fr_i fr_Sm fr_Tm) = true := lt_s (p := fun a => 177 ≤ a → ∀ b, (lt_cd a b).all (fr_i fr_Sm fr_Tm) = true) fd_190 (fun _ => fm_190)
theorem fd_192 : ∀ a, a < 192 → 177 ≤ a → ∀ b, (lt_cd a b).all (fr_i fr_Sm fr_Tm) = true := lt_s (p := fun a => 177 ≤ a → ∀ b, (lt_cd a b).all (fr_i fr_Sm fr_Tm) = true) fd_191 (fun _ => fm_191)
theorem fd_193 : ∀ a, a < 193 → 177 ≤ a → ∀ b, (lt_cd a b).all (fr_i fr_Sm fr_Tm) = true := lt_s (p := fun a => 177 ≤ a → ∀ b, (lt_cd a b).all (fr_i fr_Sm fr_Tm) = true) fd_192 (fun _ => fm_192)
theorem fd_194 : ∀ a, a < 194 → 177 ≤ a → ∀ b, (lt_cd a b).all (fr_i fr_Sm fr_Tm) = true := lt_s (p := fun a => 177 ≤ a → ∀ b, (lt_cd a b).all (fr_i fr_Sm fr_Tm) = true) fd_193 (fun _ => fm_193)
theorem fd_195 : ∀ a, a < 195 → 177 ≤ a → ∀ b, (lt_cd a b).all (fr_i fr_Sm fr_Tm) = true := lt_s (p := fun a => 177 ≤ a → ∀ b, (lt_cd a b).all (fr_i fr_Sm fr_Tm) = true) fd_194 (fun _ => fm_194)
theorem fd_196 : ∀ a, a < 196 → 177 ≤ a → ∀ b, (lt_cd a b).all (fr_i fr_Sm fr_Tm) = true := lt_s (p := fun a => 177 ≤ a → ∀ b, (lt_cd a b).all (fr_i fr_Sm fr_Tm) = true) fd_195 (fun _ => fm_195)
theorem fd_197 : ∀ a, a < 197 → 177 ≤ a → ∀ b, (lt_cd a b).all (fr_i fr_Sm fr_Tm) = true := lt_s (p := fun a => 177 ≤ a → ∀ b, (lt_cd a b).all (fr_i fr_Sm fr_Tm) = true) fd_196 (fun _ => fm_196)
theorem fd_198 : ∀ a, a < 198 → 177 ≤ a → ∀ b, (lt_cd a b).all (fr_i fr_Sm fr_Tm) = true := lt_s (p := fun a => 177 ≤ a → ∀ b, (lt_cd a b).all (fr_i fr_Sm fr_Tm) = true) fd_197 (fun _ => fm_197)
theorem fd_199 : ∀ a, a < 199 → 177 ≤ a → ∀ b, (lt_cd a b).all (fr_i fr_Sm fr_Tm) = true := lt_s (p := fun a => 177 ≤ a → ∀ b, (lt_cd a b).all (fr_i fr_Sm fr_Tm) = true) fd_198 (fun _ => fm_198)
theorem fd_200 : ∀ a, a < 200 → 177 ≤ a → ∀ b, (lt_cd a b).all (fr_i fr_Sm fr_Tm) = true := lt_s (p := fun a => 177 ≤ a → ∀ b, (lt_cd a b).all (fr_i fr_Sm fr_Tm) = true) fd_199 (fun _ => fm_199)
theorem fd_201 : ∀ a, a < 201 → 177 ≤ a → ∀ b, (lt_cd a b).all (fr_i fr_Sm fr_Tm) = true := lt_s (p := fun a => 177 ≤ a → ∀ b, (lt_cd a b).all (fr_i fr_Sm fr_Tm) = true) fd_200 (fun _ => fm_200)
theorem fd_202 : ∀ a, a < 202 → 177 ≤ a → ∀ b, (lt_cd a b).all (fr_i fr_Sm fr_Tm) = true := lt_s (p := fun a => 177 ≤ a → ∀ b, (lt_cd a b).all (fr_i fr_Sm fr_Tm) = true) fd_201 (fun _ => fm_201)
theorem fd_203 : ∀ a, a < 203 → 177 ≤ a → ∀ b, (lt_cd a b).all (fr_i fr_Sm fr_Tm) = true := lt_s (p := fun a => 177 ≤ a → ∀ b, (lt_cd a b).all (fr_i fr_Sm fr_Tm) = true) fd_202 (fun _ => fm_202)
theorem fd_204 : ∀ a, a < 204 → 177 ≤ a → ∀ b, (lt_cd a b).all (fr_i fr_Sm fr_Tm) = true := lt_s (p := fun a => 177 ≤ a → ∀ b, (lt_cd a b).all (fr_i fr_Sm fr_Tm) = true) fd_203 (fun _ => fm_203)
theorem fd_205 : ∀ a, a < 205 → 177 ≤ a → ∀ b, (lt_cd a b).all (fr_i fr_Sm fr_Tm) = true := lt_s (p := fun a => 177 ≤ a → ∀ b, (lt_cd a b).all (fr_i fr_Sm fr_Tm) = true) fd_204 (fun _ => fm_204)
theorem fd_206 : ∀ a, a < 206 → 177 ≤ a → ∀ b, (lt_cd a b).all (fr_i fr_Sm fr_Tm) = true := lt_s (p := fun a => 177 ≤ a → ∀ b, (lt_cd a b).all (fr_i fr_Sm fr_Tm) = true) fd_205 (fun _ => fm_205)
theorem fd_207 : ∀ a, a < 207 → 177 ≤ a → ∀ b, (lt_cd a b).all (fr_i fr_Sm fr_Tm) = true := lt_s (p := fun a => 177 ≤ a → ∀ b, (lt_cd a b).all (fr_i fr_Sm fr_Tm) = true) fd_206 (fun _ => fm_206)
theorem fd_208 : ∀ a, a < 208 → 177 ≤ a → ∀ b, (lt_cd a b).all (fr_i fr_Sm fr_Tm) = true := lt_s (p := fun a => 177 ≤ a → ∀ b, (lt_cd a b).all (fr_i fr_Sm fr_Tm) = true) fd_207 (fun _ => fm_207)
theorem fd_209 : ∀ a, a < 209 → 177 ≤ a → ∀ b, (lt_cd a b).all (fr_i fr_Sm fr_Tm) = true := lt_s (p := fun a => 177 ≤ a → ∀ b, (lt_cd a b).all (fr_i fr_Sm fr_Tm) = true) fd_208 (fun _ => fm_208)
theorem fd_210 : ∀ a, a < 210 → 177 ≤ a → ∀ b, (lt_cd a b).all (fr_i fr_Sm fr_Tm) = true := lt_s (p := fun a => 177 ≤ a → ∀ b, (lt_cd a b).all (fr_i fr_Sm fr_Tm) = true) fd_209 (fun _ => fm_209)
theorem fd_211 : ∀ a, a < 211 → 177 ≤ a → ∀ b, (lt_cd a b).all (fr_i fr_Sm fr_Tm) = true := lt_s (p := fun a => 177 ≤ a → ∀ b, (lt_cd a b).all (fr_i fr_Sm fr_Tm) = true) fd_210 (fun _ => fm_210)
theorem fd_212 : ∀ a, a < 212 → 177 ≤ a → ∀ b, (lt_cd a b).all (fr_i fr_Sm fr_Tm) = true := lt_s (p := fun a => 177 ≤ a → ∀ b, (lt_cd a b).all (fr_i fr_Sm fr_Tm) = true) fd_211 (fun _ => fm_211)
theorem fd_213 : ∀ a, a < 213 → 177 ≤ a → ∀ b, (lt_cd a b).all (fr_i fr_Sm fr_Tm) = true := lt_s (p := fun a => 177 ≤ a → ∀ b, (lt_cd a b).all (fr_i fr_Sm fr_Tm) = true) fd_212 (fun _ => fm_212)
theorem fd_214 : ∀ a, a < 214 → 177 ≤ a → ∀ b, (lt_cd a b).all (fr_i fr_Sm fr_Tm) = true := lt_s (p := fun a => 177 ≤ a → ∀ b, (lt_cd a b).all (fr_i fr_Sm fr_Tm) = true) fd_213 (fun _ => fm_213)
theorem fd_215 : ∀ a, a < 215 → 177 ≤ a → ∀ b, (lt_cd a b).all (fr_i fr_Sm fr_Tm) = true := lt_s (p := fun a => 177 ≤ a → ∀ b, (lt_cd a b).all (fr_i fr_Sm fr_Tm) = true) fd_214 (fun _ => fm_214)
theorem fd_216 : ∀ a, a < 216 → 177 ≤ a → ∀ b, (lt_cd a b).all (fr_i fr_Sm fr_Tm) = true := lt_s (p := fun a => 177 ≤ a → ∀ b, (lt_cd a b).all (fr_i fr_Sm fr_Tm) = true) fd_215 (fun _ => fm_215)
theorem fd_217 : ∀ a, a < 217 → 177 ≤ a → ∀ b, (lt_cd a b).all (fr_i fr_Sm fr_Tm) = true := lt_s (p := fun a => 177 ≤ a → ∀ b, (lt_cd a b).all (fr_i fr_Sm fr_Tm) = true) fd_216 (fun _ => fm_216)
theorem fd_218 : ∀ a, a < 218 → 177 ≤ a → ∀ b, (lt_cd a b).all (fr_i fr_Sm fr_Tm) = true := lt_s (p := fun a => 177 ≤ a → ∀ b, (lt_cd a b).all (fr_i fr_Sm fr_Tm) = true) fd_217 (fun _ => fm_217)
theorem fd_219 : ∀ a, a < 219 → 177 ≤ a → ∀ b, (lt_cd a b).all (fr_i fr_Sm fr_Tm) = true := lt_s (p := fun a => 177 ≤ a → ∀ b, (lt_cd a b).all (fr_i fr_Sm fr_Tm) = true) fd_218 (fun _ => fm_218)
theorem fd_220 : ∀ a, a < 220 → 177 ≤ a → ∀ b, (lt_cd a b).all (fr_i fr_Sm fr_Tm) = true := lt_s (p := fun a => 177 ≤ a → ∀ b, (lt_cd a b).all (fr_i fr_Sm fr_Tm) = true) fd_219 (fun _ => fm_219)
theorem fd_221 : ∀ a, a < 221 → 177 ≤ a → ∀ b, (lt_cd a b).all (fr_i fr_Sm fr_Tm) = true := lt_s (p := fun a => 177 ≤ a → ∀ b, (lt_cd a b).all (fr_i fr_Sm fr_Tm) = true) fd_220 (fun _ => fm_220)
theorem fd_222 : ∀ a, a < 222 → 177 ≤ a → ∀ b, (lt_cd a b).all (fr_i fr_Sm fr_Tm) = true := lt_s (p := fun a => 177 ≤ a → ∀ b, (lt_cd a b).all (fr_i fr_Sm fr_Tm) = true) fd_221 (fun _ => fm_221)
theorem fd_223 : ∀ a, a < 223 → 177 ≤ a → ∀ b, (lt_cd a b).all (fr_i fr_Sm fr_Tm) = true := lt_s (p := fun a => 177 ≤ a → ∀ b, (lt_cd a b).all (fr_i fr_Sm fr_Tm) = true) fd_222 (fun _ => fm_222)
theorem fd_224 : ∀ a, a < 224 → 177 ≤ a → ∀ b, (lt_cd a b).all (fr_i fr_Sm fr_Tm) = true := lt_s (p := fun a => 177 ≤ a → ∀ b, (lt_cd a b).all (fr_i fr_Sm fr_Tm) = true) fd_223 (fun _ => fm_223)
theorem fd_225 : ∀ a, a < 225 → 177 ≤ a → ∀ b, (lt_cd a b).all (fr_i fr_Sm fr_Tm) = true := lt_s (p := fun a => 177 ≤ a → ∀ b, (lt_cd a b).all (fr_i fr_Sm fr_Tm) = true) fd_224 (fun _ => fm_224)
theorem fd_226 : ∀ a, a < 226 → 177 ≤ a → ∀ b, (lt_cd a b).all (fr_i fr_Sm fr_Tm) = true := lt_s (p := fun a => 177 ≤ a → ∀ b, (lt_cd a b).all (fr_i fr_Sm fr_Tm) = true) fd_225 (fun _ => fm_225)
theorem fd_227 : ∀ a, a < 227 → 177 ≤ a → ∀ b, (lt_cd a b).all (fr_i fr_Sm fr_Tm) = true := lt_s (p := fun a => 177 ≤ a → ∀ b, (lt_cd a b).all (fr_i fr_Sm fr_Tm) = true) fd_226 (fun _ => fm_226)
theorem fd_228 : ∀ a, a < 228 → 177 ≤ a → ∀ b, (lt_cd a b).all (fr_i fr_Sm fr_Tm) = true := lt_s (p := fun a => 177 ≤ a → ∀ b, (lt_cd a b).all (fr_i fr_Sm fr_Tm) = true) fd_227 (fun _ => fm_227)
theorem fd_229 : ∀ a, a < 229 → 177 ≤ a → ∀ b, (lt_cd a b).all (fr_i fr_Sm fr_Tm) = true := lt_s (p := fun a => 177 ≤ a → ∀ b, (lt_cd a b).all (fr_i fr_Sm fr_Tm) = true) fd_228 (fun _ => fm_228)
theorem fd_230 : ∀ a, a < 230 → 177 ≤ a → ∀ b, (lt_cd a b).all (fr_i fr_Sm fr_Tm) = true := lt_s (p := fun a => 177 ≤ a → ∀ b, (lt_cd a b).all (fr_i fr_Sm fr_Tm) = true) fd_229 (fun _ => fm_229)
theorem fd_231 : ∀ a, a < 231 → 177 ≤ a → ∀ b, (lt_cd a b).all (fr_i fr_Sm fr_Tm) = true := lt_s (p := fun a => 177 ≤ a → ∀ b, (lt_cd a b).all (fr_i fr_Sm fr_Tm) = true) fd_230 (fun _ => fm_230)
theorem fd_232 : ∀ a, a < 232 → 177 ≤ a → ∀ b, (lt_cd a b).all (fr_i fr_Sm fr_Tm) = true := lt_s (p := fun a => 177 ≤ a → ∀ b, (lt_cd a b).all (fr_i fr_Sm fr_Tm) = true) fd_231 (fun _ => fm_231)
theorem fd_233 : ∀ a, a < 233 → 177 ≤ a → ∀ b, (lt_cd a b).all (fr_i fr_Sm fr_Tm) = true := lt_s (p := fun a => 177 ≤ a → ∀ b, (lt_cd a b).all (fr_i fr_Sm fr_Tm) = true) fd_232 (fun _ => fm_232)
theorem fd_234 : ∀ a, a < 234 → 177 ≤ a → ∀ b, (lt_cd a b).all (fr_i fr_Sm fr_Tm) = true := lt_s (p := fun a => 177 ≤ a → ∀ b, (lt_cd a b).all (fr_i fr_Sm fr_Tm) = true) fd_233 (fun _ => fm_233)
theorem fd_235 : ∀ a, a < 235 → 177 ≤ a → ∀ b, (lt_cd a b).all (fr_i fr_Sm fr_Tm) = true := lt_s (p := fun a => 177 ≤ a → ∀ b, (lt_cd a b).all (fr_i fr_Sm fr_Tm) = true) fd_234 (fun _ => fm_234)
theorem fd_236 : ∀ a, a < 236 → 177 ≤ a → ∀ b, (lt_cd a b).all (fr_i fr_Sm fr_Tm) = true := lt_s (p := fun a => 177 ≤ a → ∀ b, (lt_cd a b).all (fr_i fr_Sm fr_Tm) = true) fd_235 (fun _ => fm_235)
theorem fd_237 : ∀ a, a < 237 → 177 ≤ a → ∀ b, (lt_cd a b).all (fr_i fr_Sm fr_Tm) = true := lt_s (p := fun a => 177 ≤ a → ∀ b, (lt_cd a b).all (fr_i fr_Sm fr_Tm) = true) fd_236 (fun _ => fm_236)
theorem fd_238 : ∀ a, a < 238 → 177 ≤ a → ∀ b, (lt_cd a b).all (fr_i fr_Sm fr_Tm) = true := lt_s (p := fun a => 177 ≤ a → ∀ b, (lt_cd a b).all (fr_i fr_Sm fr_Tm) = true) fd_237 (fun _ => fm_237)
theorem fd_239 : ∀ a, a < 239 → 177 ≤ a → ∀ b, (lt_cd a b).all (fr_i fr_Sm fr_Tm) = true := lt_s (p := fun a => 177 ≤ a → ∀ b, (lt_cd a b).all (fr_i fr_Sm fr_Tm) = true) fd_238 (fun _ => fm_238)
theorem fd_240 : ∀ a, a < 240 → 177 ≤ a → ∀ b, (lt_cd a b).all (fr_i fr_Sm fr_Tm) = true := lt_s (p := fun a => 177 ≤ a → ∀ b, (lt_cd a b).all (fr_i fr_Sm fr_Tm) = true) fd_239 (fun _ => fm_239)
theorem fd_241 : ∀ a, a < 241 → 177 ≤ a → ∀ b, (lt_cd a b).all (fr_i fr_Sm fr_Tm) = true := lt_s (p := fun a => 177 ≤ a → ∀ b, (lt_cd a b).all (fr_i fr_Sm fr_Tm) = true) fd_240 (fun _ => fm_240)
theorem fd_242 : ∀ a, a < 242 → 177 ≤ a → ∀ b, (lt_cd a b).all (fr_i fr_Sm fr_Tm) = true := lt_s (p := fun a => 177 ≤ a → ∀ b, (lt_cd a b).all (fr_i fr_Sm fr_Tm) = true) fd_241 (fun _ => fm_241)
theorem fd_243 : ∀ a, a < 243 → 177 ≤ a → ∀ b, (lt_cd a b).all (fr_i fr_Sm fr_Tm) = true := lt_s (p := fun a => 177 ≤ a → ∀ b, (lt_cd a b).all (fr_i fr_Sm fr_Tm) = true) fd_242 (fun _ => fm_242)
theorem fd_244 : ∀ a, a < 244 → 177 ≤ a → ∀ b, (lt_cd a b).all (fr_i fr_Sm fr_Tm) = true := lt_s (p := fun a => 177 ≤ a → ∀ b, (lt_cd a b).all (fr_i fr_Sm fr_Tm) = true) fd_243 (fun _ => fm_243)
theorem fd_245 : ∀ a, a < 245 → 177 ≤ a → ∀ b, (lt_cd a b).all (fr_i fr_Sm fr_Tm) = true := lt_s (p := fun a => 177 ≤ a → ∀ b, (lt_cd a b).all (fr_i fr_Sm fr_Tm) = true) fd_244 (fun _ => fm_244)
theorem fd_246 : ∀ a, a < 246 → 177 ≤ a → ∀ b, (lt_cd a b).all (fr_i fr_Sm fr_Tm) = true := lt_s (p := fun a => 177 ≤ a → ∀ b, (lt_cd a b).all (fr_i fr_Sm fr_Tm) = true) fd_245 (fun _ => fm_245)
theorem fd_247 : ∀ a, a < 247 → 177 ≤ a → ∀ b, (lt_cd a b).all (fr_i fr_Sm fr_Tm) = true := lt_s (p := fun a => 177 ≤ a → ∀ b, (lt_cd a b).all (fr_i fr_Sm fr_Tm) = true) fd_246 (fun _ => fm_246)
theorem fd_248 : ∀ a, a < 248 → 177 ≤ a → ∀ b, (lt_cd a b).all (fr_i fr_Sm fr_Tm) = true := lt_s (p := fun a => 177 ≤ a → ∀ b, (lt_cd a b).all (fr_i fr_Sm fr_Tm) = true) fd_247 (fun _ => fm_247)
theorem fd_249 : ∀ a, a < 249 → 177 ≤ a → ∀ b, (lt_cd a b).all (fr_i fr_Sm fr_Tm) = true := lt_s (p := fun a => 177 ≤ a → ∀ b, (lt_cd a b).all (fr_i fr_Sm fr_Tm) = true) fd_248 (fun _ => fm_248)
theorem fd_250 : ∀ a, a < 250 → 177 ≤ a → ∀ b, (lt_cd a b).all (fr_i fr_Sm fr_Tm) = true := lt_s (p := fun a => 177 ≤ a → ∀ b, (lt_cd a b).all (fr_i fr_Sm fr_Tm) = true) fd_249 (fun _ => fm_249)
theorem fd_251 : ∀ a, a < 251 → 177 ≤ a → ∀ b, (lt_cd a b).all (fr_i fr_Sm fr_Tm) = true := lt_s (p := fun a => 177 ≤ a → ∀ b, (lt_cd a b).all (fr_i fr_Sm fr_Tm) = true) fd_250 (fun _ => fm_250)
theorem fd_252 : ∀ a, a < 252 → 177 ≤ a → ∀ b, (lt_cd a b).all (fr_i fr_Sm fr_Tm) = true := lt_s (p := fun a => 177 ≤ a → ∀ b, (lt_cd a b).all (fr_i fr_Sm fr_Tm) = true) fd_251 (fun _ => fm_251)
theorem fd_253 : ∀ a, a < 253 → 177 ≤ a → ∀ b, (lt_cd a b).all (fr_i fr_Sm fr_Tm) = true := lt_s (p := fun a => 177 ≤ a → ∀ b, (lt_cd a b).all (fr_i fr_Sm fr_Tm) = true) fd_252 (fun _ => fm_252)
theorem fd_254 : ∀ a, a < 254 → 177 ≤ a → ∀ b, (lt_cd a b).all (fr_i fr_Sm fr_Tm) = true := lt_s (p := fun a => 177 ≤ a → ∀ b, (lt_cd a b).all (fr_i fr_Sm fr_Tm) = true) fd_253 (fun _ => fm_253)
theorem fd_255 : ∀ a, a < 255 → 177 ≤ a → ∀ b, (lt_cd a b).all (fr_i fr_Sm fr_Tm) = true := lt_s (p := fun a => 177 ≤ a → ∀ b, (lt_cd a b).all (fr_i fr_Sm fr_Tm) = true) fd_254 (fun _ => fm_254)
theorem fd_256 : ∀ a, a < 256 → 177 ≤ a → ∀ b, (lt_cd a b).all (fr_i fr_Sm fr_Tm) = true := lt_s (p := fun a => 177 ≤ a → ∀ b, (lt_cd a b).all (fr_i fr_Sm fr_Tm) = true) fd_255 (fun _ => fm_255)
theorem fd_257 : ∀ a, a < 257 → 177 ≤ a → ∀ b, (lt_cd a b).all (fr_i fr_Sm fr_Tm) = true := lt_s (p := fun a => 177 ≤ a → ∀ b, (lt_cd a b).all (fr_i fr_Sm fr_Tm) = true) fd_256 (fun _ => fm_256)
theorem fd_258 : ∀ a, a < 258 → 177 ≤ a → ∀ b, (lt_cd a b).all (fr_i fr_Sm fr_Tm) = true := lt_s (p := fun a => 177 ≤ a → ∀ b, (lt_cd a b).all (fr_i fr_Sm fr_Tm) = true) fd_257 (fun _ => fm_257)
theorem fd_259 : ∀ a, a < 259 → 177 ≤ a → ∀ b, (lt_cd a b).all (fr_i fr_Sm fr_Tm) = true := lt_s (p := fun a => 177 ≤ a → ∀ b, (lt_cd a b).all (fr_i fr_Sm fr_Tm) = true) fd_258 (fun _ => fm_258)
theorem fd_260 : ∀ a, a < 260 → 177 ≤ a → ∀ b, (lt_cd a b).all (fr_i fr_Sm fr_Tm) = true := lt_s (p := fun a => 177 ≤ a → ∀ b, (lt_cd a b).all (fr_i fr_Sm fr_Tm) = true) fd_259 (fun _ => fm_259)
theorem fd_261 : ∀ a, a < 261 → 177 ≤ a → ∀ b, (lt_cd a b).all (fr_i fr_Sm fr_Tm) = true := lt_s (p := fun a => 177 ≤ a → ∀ b, (lt_cd a b).all (fr_i fr_Sm fr_Tm) = true) fd_260 (fun _ => fm_260)
theorem fd_262 : ∀ a, a < 262 → 177 ≤ a → ∀ b, (lt_cd a b).all (fr_i fr_Sm fr_Tm) = true := lt_s (p := fun a => 177 ≤ a → ∀ b, (lt_cd a b).all (fr_i fr_Sm fr_Tm) = true) fd_261 (fun _ => fm_261)
theorem fd_263 : ∀ a, a < 263 → 177 ≤ a → ∀ b, (lt_cd a b).all (fr_i fr_Sm fr_Tm) = true := lt_s (p := fun a => 177 ≤ a → ∀ b, (lt_cd a b).all (fr_i fr_Sm fr_Tm) = true) fd_262 (fun _ => fm_262)
theorem fr_ex : ∀ m, m < 263 → lt_ex m = none := by decide +kernel
/-- the class's methods leave the reference's cells alone -/
theorem fr_cls {sc : Nat × (Nat → Int32)} {m b : Nat} {vs st : List sm_v} {M : sm_M} (hm : m < 177) (hv : fr_s fr_Sc vs) (hs : fr_s fr_Sc st) : fr_K fr_Sc M (dn sc m b vs st M) :=
  fr_den (T := fr_Tc) (P := lt_P sc) fr_alc (fun m h => fr_ex m (Nat.lt_trans (Nat.le_of_ble_eq_true h) (by decide))) (fun m h => fc_177 m (Nat.le_of_ble_eq_true h)) (Nat.ble_eq_true_of_le hm) hv hs
/-- the reference's methods leave the class's cells alone -/
theorem fr_mod {sc : Nat × (Nat → Int32)} {m b : Nat} {vs st : List sm_v} {M : sm_M} (hm : m < 263) (h2 : 177 ≤ m) (hv : fr_s fr_Sm vs) (hs : fr_s fr_Sm st) : fr_K fr_Sm M (dn sc m b vs st M) :=
  fr_den (T := fr_Tm) (P := lt_P sc) fr_alm (fun m h => fr_ex m (Nat.le_of_ble_eq_true (Bool.and_eq_true _ _ ▸ h).2)) (fun m h => fd_263 m (Nat.le_of_ble_eq_true (Bool.and_eq_true _ _ ▸ h).2) (Nat.le_of_ble_eq_true (Bool.and_eq_true _ _ ▸ h).1)) (by show (Nat.ble 177 m && Nat.ble (m + 1) 263) = true; rw [Nat.ble_eq_true_of_le h2, Nat.ble_eq_true_of_le hm]; rfl) hv hs
