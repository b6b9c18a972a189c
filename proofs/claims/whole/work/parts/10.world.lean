/-! THE WORLD of the small machine's cells, and how it changes -/
def sm_t (ad : Nat × Nat × Nat → Nat) : sm_v → Value
  | .inl x => .int x
  | .inr (.inl x) => .long x
  | .inr (.inr r) => .ref (ad r)
def sm_tl (ad : Nat × Nat × Nat → Nat) (ls : sm_L) : List (Nat × Value) := ls.map (fun q => (q.1, sm_t ad q.2))
/-- which cell a field names: none for a number -/
def sm_fr (c p k : Nat) : Nat × Nat × Nat → Option (Nat × Nat × Nat)
  | (0, _, _) => none
  | (1, _, _) => some (c, p, k + 1)
  | (2, c2, s) => some (c2, (match s with | 1 => p | _ => 0), 0)
  | (_, c2, s) => some (c2, 0, s)
def sm_fv (ad : Nat × Nat × Nat → Nat) (M : sm_M) (c p k : Nat) : Value := match sm_fr c p k (lt_fk c k) with
  | none => .int (M.1 c p 0 k)
  | some r => .ref (ad r)
def sm_ca (tc : Nat → ClassId) (ad : Nat × Nat × Nat → Nat) (M : sm_M) (c p j : Nat) : Nat × Nat → va_E
  | (0, n) => .inl (tc 0, n, .inl (M.1 c p j))
  | (1, n) => .inl (tc 1, n, .inl (M.1 c p j))
  | (2, n) => .inl (tc 2, n, .inr (.inl (M.2 c p j)))
  | (kd, n) => .inl (tc kd, n, .inr (.inr (.inr (.inr (fun i => some (ad (kd - 3, i, 0)))))))
def sm_ce (tc : Nat → ClassId) (ad : Nat × Nat × Nat → Nat) (M : sm_M) : Nat × Nat × Nat → va_E
  | (c, p, 0) => .inr (c, (List.range (lt_nf c)).map (sm_fv ad M c p))
  | (c, p, j + 1) => sm_ca tc ad M c p (j + 1) (lt_al c (j + 1))
def sm_W (tc : Nat → ClassId) (ad : Nat × Nat × Nat → Nat) (M : sm_M) : va_W := sm_ids.map (fun r => (ad r, sm_ce tc ad M r))
theorem sm_ids_nd : sm_ids.Nodup := by decide +kernel
theorem sm_W_at {tc : Nat → ClassId} {ad : Nat × Nat × Nat → Nat} (M : sm_M) {r : Nat × Nat × Nat} (h : r ∈ sm_ids) : ∃ q0 : Nat, sm_ids[q0]? = some r ∧ (sm_W tc ad M)[q0]? = some (ad r, sm_ce tc ad M r) := by
  obtain ⟨q0, hq⟩ := List.getElem?_of_mem h
  refine ⟨q0, hq, ?_⟩
  unfold sm_W
  rw [List.getElem?_map, hq]
  rfl
theorem sm_W_set {tc : Nat → ClassId} {ad : Nat × Nat × Nat → Nat} {M M' : sm_M} {r : Nat × Nat × Nat} {q0 : Nat} (hq : sm_ids[q0]? = some r) (h : ∀ r', r' ≠ r → sm_ce tc ad M' r' = sm_ce tc ad M r') : (sm_W tc ad M).set q0 (ad r, sm_ce tc ad M' r) = sm_W tc ad M' := by
  apply List.ext_getElem?
  intro k
  unfold sm_W
  rw [List.getElem?_set, List.getElem?_map, List.getElem?_map]
  have hl : q0 < sm_ids.length := (List.getElem?_eq_some_iff.mp hq).1
  by_cases hk : q0 = k
  · subst hk
    rw [if_pos rfl, hq]
    simp [hl]
  · rw [if_neg hk]
    cases hr : sm_ids[k]? with
    | none => rfl
    | some r' =>
      have hne : r' ≠ r := by
        rintro rfl
        exact hk ((List.getElem?_inj hl sm_ids_nd).mp (hq.trans hr.symm))
      show some (ad r', sm_ce tc ad M r') = some (ad r', sm_ce tc ad M' r')
      rw [h r' hne]
/-- the cell of a place depends on what is held there alone -/
theorem sm_ce_eq {tc : Nat → ClassId} {ad : Nat × Nat × Nat → Nat} {M M' : sm_M} {r : Nat × Nat × Nat} (h1 : M'.1 r.1 r.2.1 r.2.2 = M.1 r.1 r.2.1 r.2.2) (h2 : M'.2 r.1 r.2.1 r.2.2 = M.2 r.1 r.2.1 r.2.2) : sm_ce tc ad M' r = sm_ce tc ad M r := by
  obtain ⟨c, p, j⟩ := r
  cases j with
  | zero =>
    dsimp only at h1
    have e : sm_fv ad M' c p = sm_fv ad M c p := by
      funext k
      unfold sm_fv
      rw [h1]
    show Sum.inr (c, (List.range (lt_nf c)).map (sm_fv ad M' c p)) = Sum.inr (c, (List.range (lt_nf c)).map (sm_fv ad M c p))
    rw [e]
  | succ j =>
    dsimp only at h1 h2
    show sm_ca tc ad M' c p (j + 1) (lt_al c (j + 1)) = sm_ca tc ad M c p (j + 1) (lt_al c (j + 1))
    obtain ⟨kd, n⟩ := lt_al c (j + 1)
    match kd with
    | 0 => show Sum.inl (tc 0, n, Sum.inl (M'.1 c p (j + 1))) = Sum.inl (tc 0, n, Sum.inl (M.1 c p (j + 1))); rw [h1]
    | 1 => show Sum.inl (tc 1, n, Sum.inl (M'.1 c p (j + 1))) = Sum.inl (tc 1, n, Sum.inl (M.1 c p (j + 1))); rw [h1]
    | 2 => show Sum.inl (tc 2, n, Sum.inr (Sum.inl (M'.2 c p (j + 1)))) = Sum.inl (tc 2, n, Sum.inr (Sum.inl (M.2 c p (j + 1)))); rw [h2]
    | k + 3 => rfl
theorem sm_u_ne {M : sm_M} {c p j i : Nat} {x : Int32} {r : Nat × Nat × Nat} (h : r ≠ (c, p, j)) : (sm_u M c p j i x).1 r.1 r.2.1 r.2.2 = M.1 r.1 r.2.1 r.2.2 := by
  funext k
  show (if r.1 = c ∧ r.2.1 = p ∧ r.2.2 = j ∧ k = i then x else M.1 r.1 r.2.1 r.2.2 k) = _
  rw [if_neg]
  rintro ⟨h1, h2, h3, -⟩
  exact h (by rw [← h1, ← h2, ← h3])
theorem sm_w_ne {M : sm_M} {c p j i : Nat} {x : Int64} {r : Nat × Nat × Nat} (h : r ≠ (c, p, j)) : (sm_w M c p j i x).2 r.1 r.2.1 r.2.2 = M.2 r.1 r.2.1 r.2.2 := by
  funext k
  show (if r.1 = c ∧ r.2.1 = p ∧ r.2.2 = j ∧ k = i then x else M.2 r.1 r.2.1 r.2.2 k) = _
  rw [if_neg]
  rintro ⟨h1, h2, h3, -⟩
  exact h (by rw [← h1, ← h2, ← h3])
theorem sm_u_at (M : sm_M) (c p j i : Nat) (x : Int32) : (sm_u M c p j i x).1 c p j = upd (M.1 c p j) i x := by
  funext k
  show (if c = c ∧ p = p ∧ j = j ∧ k = i then x else M.1 c p j k) = if k = i then x else M.1 c p j k
  by_cases h : k = i
  · rw [if_pos h, if_pos ⟨rfl, rfl, rfl, h⟩]
  · rw [if_neg h, if_neg (fun q => h q.2.2.2)]
theorem sm_w_at (M : sm_M) (c p j i : Nat) (x : Int64) : (sm_w M c p j i x).2 c p j = vp_updL (M.2 c p j) i x := by
  funext k
  show (if c = c ∧ p = p ∧ j = j ∧ k = i then x else M.2 c p j k) = if k = i then x else M.2 c p j k
  by_cases h : k = i
  · rw [if_pos h, if_pos ⟨rfl, rfl, rfl, h⟩]
  · rw [if_neg h, if_neg (fun q => h q.2.2.2)]
theorem sm_ce_i {tc : Nat → ClassId} {ad : Nat × Nat × Nat → Nat} (M : sm_M) {c p j n : Nat} (hj : j ≠ 0) (h : lt_al c j = (0, n)) : sm_ce tc ad M (c, p, j) = .inl (tc 0, n, .inl (M.1 c p j)) := by
  cases j with
  | zero => exact absurd rfl hj
  | succ j => show sm_ca tc ad M c p (j + 1) (lt_al c (j + 1)) = _; rw [h]; rfl
theorem sm_ce_z {tc : Nat → ClassId} {ad : Nat × Nat × Nat → Nat} (M : sm_M) {c p j n : Nat} (hj : j ≠ 0) (h : lt_al c j = (1, n)) : sm_ce tc ad M (c, p, j) = .inl (tc 1, n, .inl (M.1 c p j)) := by
  cases j with
  | zero => exact absurd rfl hj
  | succ j => show sm_ca tc ad M c p (j + 1) (lt_al c (j + 1)) = _; rw [h]; rfl
theorem sm_ce_l {tc : Nat → ClassId} {ad : Nat × Nat × Nat → Nat} (M : sm_M) {c p j n : Nat} (hj : j ≠ 0) (h : lt_al c j = (2, n)) : sm_ce tc ad M (c, p, j) = .inl (tc 2, n, .inr (.inl (M.2 c p j))) := by
  cases j with
  | zero => exact absurd rfl hj
  | succ j => show sm_ca tc ad M c p (j + 1) (lt_al c (j + 1)) = _; rw [h]; rfl
theorem sm_ce_q {tc : Nat → ClassId} {ad : Nat × Nat × Nat → Nat} (M : sm_M) {c p j n kd : Nat} (hj : j ≠ 0) (h : lt_al c j = (kd, n)) (hk : 3 ≤ kd) : sm_ce tc ad M (c, p, j) = .inl (tc kd, n, .inr (.inr (.inr (.inr (fun i => some (ad (kd - 3, i, 0))))))) := by
  cases j with
  | zero => exact absurd rfl hj
  | succ j =>
    show sm_ca tc ad M c p (j + 1) (lt_al c (j + 1)) = _
    rw [h]
    match kd, hk with
    | k + 3, _ => rfl
theorem sm_ce_o {tc : Nat → ClassId} {ad : Nat × Nat × Nat → Nat} (M : sm_M) (c p : Nat) : sm_ce tc ad M (c, p, 0) = .inr (c, (List.range (lt_nf c)).map (sm_fv ad M c p)) := rfl
theorem sm_fvs (ad : Nat × Nat × Nat → Nat) (M : sm_M) {c p k : Nat} (hk : k < lt_nf c) : ((List.range (lt_nf c)).map (sm_fv ad M c p))[k]? = some (sm_fv ad M c p k) := by
  rw [List.getElem?_map, List.getElem?_range hk]
  rfl
theorem sm_fvs_set (ad : Nat × Nat × Nat → Nat) (M : sm_M) {c p k : Nat} {x : Int32} (hf : lt_fk c k = (0, 0, 0)) : ((List.range (lt_nf c)).map (sm_fv ad M c p)).set k (.int x) = (List.range (lt_nf c)).map (sm_fv ad (sm_u M c p 0 k x) c p) := by
  apply List.ext_getElem?
  intro n
  rw [List.getElem?_set, List.getElem?_map, List.getElem?_map]
  by_cases hn : k = n
  · subst hn
    rw [if_pos rfl]
    by_cases hl : k < lt_nf c
    · rw [if_pos (by simpa using hl), List.getElem?_range hl]
      show some (Value.int x) = some (sm_fv ad (sm_u M c p 0 k x) c p k)
      unfold sm_fv
      rw [hf]
      show some (Value.int x) = some (Value.int ((sm_u M c p 0 k x).1 c p 0 k))
      rw [sm_u_at]
      show _ = some (Value.int (if k = k then x else _))
      rw [if_pos rfl]
    · rw [if_neg (by simpa using hl), List.getElem?_eq_none (by simpa using hl)]
      rfl
  · rw [if_neg hn]
    cases hr : (List.range (lt_nf c))[n]? with
    | none => rfl
    | some n' =>
      have e : n' = n := by
        obtain ⟨h1, h2⟩ := List.getElem?_eq_some_iff.mp hr
        simpa using h2.symm
      subst e
      show some (sm_fv ad M c p n') = some (sm_fv ad (sm_u M c p 0 k x) c p n')
      unfold sm_fv
      rw [sm_u_at]
      cases sm_fr c p n' (lt_fk c n') with
      | none => show some (Value.int (M.1 c p 0 n')) = some (Value.int (if n' = k then x else M.1 c p 0 n')); rw [if_neg (fun q => hn q.symm)]
      | some r => rfl
theorem sm_ib_in {i : Int32} {n : Nat} (h : sm_ib i n = true) : vp_in i n := by
  unfold sm_ib at h
  rw [Bool.and_eq_true] at h
  obtain ⟨h1, h2⟩ := h
  rintro (q | q)
  · rw [decide_eq_true q] at h1
    cases h1
  · exact absurd (of_decide_eq_true h2) (Nat.not_lt.mpr q)
theorem sm_ib_lt {i : Int32} {n : Nat} (h : sm_ib i n = true) : i.toNatClampNeg < n := by
  unfold sm_ib at h
  rw [Bool.and_eq_true] at h
  exact of_decide_eq_true h.2
theorem sm_lk_mem {k : Nat} {v : sm_v} : ∀ {ls : sm_L}, sm_lk k ls = some v → (k, v) ∈ ls := by
  intro ls
  induction ls with
  | nil => intro h; cases h
  | cons q ls ih =>
    intro h
    unfold sm_lk at h
    cases hb : Nat.beq q.1 k with
    | true =>
      rw [hb] at h
      have e : q.1 = k := Nat.eq_of_beq_eq_true hb
      have e2 : q.2 = v := Option.some.inj h
      rw [← e, ← e2]
      exact List.mem_cons_self
    | false =>
      rw [hb] at h
      exact List.mem_cons_of_mem _ (ih h)
theorem sm_lk_at {ad : Nat × Nat × Nat → Nat} {la : Array Slot} {nL k : Nat} {ls : sm_L} {v : sm_v} (hl : lv_has la nL (sm_tl ad ls)) (h : sm_lk k ls = some v) : la[k]? = some (.val (sm_t ad v)) := hl.2.2 (k, sm_t ad v) (List.mem_map_of_mem (f := fun q : Nat × sm_v => (q.1, sm_t ad q.2)) (sm_lk_mem h))
theorem sm_t_cat (ad : Nat × Nat × Nat → Nat) (v : sm_v) : (sm_t ad v).category = sm_cat v := by
  rcases v with x | x | x <;> rfl
theorem sm_tl_st1 (ad : Nat × Nat × Nat → Nat) (k : Nat) (v : sm_v) (ls : sm_L) : (k, sm_t ad v) :: (sm_tl ad ls).filter (fun q => !(q.1 == k) && !(q.1 + 1 == k && q.2.category == 2)) = sm_tl ad (sm_st1 k v ls) := by
  unfold sm_tl sm_st1
  rw [List.map_cons, List.filter_map]
  congr 2
  apply List.filter_congr
  intro q _
  show (!(q.1 == k) && !(q.1 + 1 == k && (sm_t ad q.2).category == 2)) = _
  rw [sm_t_cat]
theorem sm_tl_st2 (ad : Nat × Nat × Nat → Nat) (k : Nat) (v : sm_v) (ls : sm_L) : (k, sm_t ad v) :: (sm_tl ad ls).filter (fun q => !(q.1 == k) && (!(q.1 == k + 1) && !(q.1 + 1 == k && q.2.category == 2))) = sm_tl ad (sm_st2 k v ls) := by
  unfold sm_tl sm_st2
  rw [List.map_cons, List.filter_map]
  congr 2
  apply List.filter_congr
  intro q _
  show (!(q.1 == k) && (!(q.1 == k + 1) && !(q.1 + 1 == k && (sm_t ad q.2).category == 2))) = _
  rw [sm_t_cat]
theorem sm_cats_eq (ad : Nat × Nat × Nat → Nat) (st : List sm_v) : ((st.map (sm_t ad)).map (fun v => v.category)).sum = sm_cats st := by
  induction st with
  | nil => rfl
  | cons v st ih => show (sm_t ad v).category + ((st.map (sm_t ad)).map (fun v => v.category)).sum = sm_cat v + sm_cats st; rw [ih, sm_t_cat]
-- which references are good
def sm_ok (z : Bool) : sm_v → Prop
  | .inr (.inr r) => r ∈ sm_ids ∨ (z = true ∧ r = (99, 0, 1))
  | _ => True
def sm_okl (z : Bool) (ls : sm_L) : Prop := ∀ q ∈ ls, sm_ok z q.2
def sm_oks (z : Bool) (st : List sm_v) : Prop := ∀ v ∈ st, sm_ok z v
theorem sm_oks_c {z : Bool} {v : sm_v} {st : List sm_v} : sm_oks z (v :: st) ↔ sm_ok z v ∧ sm_oks z st := by
  unfold sm_oks
  exact List.forall_mem_cons
theorem sm_okl_st1 {z : Bool} {k : Nat} {v : sm_v} {ls : sm_L} (h : sm_okl z ls) (hv : sm_ok z v) : sm_okl z (sm_st1 k v ls) := by
  intro q hq
  rcases List.mem_cons.mp hq with rfl | hq
  · exact hv
  · exact h q (List.mem_filter.mp hq).1
theorem sm_okl_st2 {z : Bool} {k : Nat} {v : sm_v} {ls : sm_L} (h : sm_okl z ls) (hv : sm_ok z v) : sm_okl z (sm_st2 k v ls) := by
  intro q hq
  rcases List.mem_cons.mp hq with rfl | hq
  · exact hv
  · exact h q (List.mem_filter.mp hq).1
/-- what a cell's fields and places name is there too -/
def sm_ids_b : Nat × Nat × Nat → Bool
  | (c, p, 0) => decide (c < 11) && (List.range (lt_nf c)).all (fun k => match sm_fr c p k (lt_fk c k) with
      | none => true
      | some r => decide (r ∈ sm_ids))
  | (c, _, j + 1) => Nat.blt (lt_al c (j + 1)).1 3 || ((decide ((lt_al c (j + 1)).1 = 3) || decide ((lt_al c (j + 1)).1 = 5) || decide ((lt_al c (j + 1)).1 = 7) || decide ((lt_al c (j + 1)).1 = 11)) && (List.range (lt_al c (j + 1)).2).all (fun i => decide (((lt_al c (j + 1)).1 - 3, i, 0) ∈ sm_ids)))
theorem sm_ids_tt : sm_ids.all sm_ids_b = true := by decide +kernel
theorem sm_ids_o {c p : Nat} (h : (c, p, 0) ∈ sm_ids) : c < 11 ∧ ∀ k, k < lt_nf c → ∀ r, sm_fr c p k (lt_fk c k) = some r → r ∈ sm_ids := by
  have h1 : (decide (c < 11) && (List.range (lt_nf c)).all (fun k => match sm_fr c p k (lt_fk c k) with
      | none => true
      | some r => decide (r ∈ sm_ids))) = true := List.all_eq_true.mp sm_ids_tt _ h
  rw [Bool.and_eq_true] at h1
  refine ⟨of_decide_eq_true h1.1, fun k hk r hr => ?_⟩
  have h2 := List.all_eq_true.mp h1.2 k (List.mem_range.mpr hk)
  rw [hr] at h2
  exact of_decide_eq_true h2
theorem sm_ids_q {c p j kd n : Nat} (h : (c, p, j) ∈ sm_ids) (hj : j ≠ 0) (ha : lt_al c j = (kd, n)) (hk : 3 ≤ kd) : (kd = 3 ∨ kd = 5 ∨ kd = 7 ∨ kd = 11) ∧ ∀ i, i < n → (kd - 3, i, 0) ∈ sm_ids := by
  have h1 := List.all_eq_true.mp sm_ids_tt _ h
  cases j with
  | zero => exact absurd rfl hj
  | succ j =>
    have h2 : (Nat.blt (lt_al c (j + 1)).1 3 || ((decide ((lt_al c (j + 1)).1 = 3) || decide ((lt_al c (j + 1)).1 = 5) || decide ((lt_al c (j + 1)).1 = 7) || decide ((lt_al c (j + 1)).1 = 11)) && (List.range (lt_al c (j + 1)).2).all (fun i => decide (((lt_al c (j + 1)).1 - 3, i, 0) ∈ sm_ids)))) = true := h1
    rw [ha] at h2
    dsimp only at h2
    have h3 : Nat.blt kd 3 = false := by
      cases hb : Nat.blt kd 3 with
      | false => rfl
      | true => have hb' := Nat.blt_eq.mp hb; omega
    rw [h3, Bool.false_or, Bool.and_eq_true, Bool.or_eq_true, Bool.or_eq_true, Bool.or_eq_true] at h2
    refine ⟨?_, fun i hi => of_decide_eq_true (List.all_eq_true.mp h2.2 i (List.mem_range.mpr hi))⟩
    rcases h2.1 with ((q | q) | q) | q
    · exact Or.inl (of_decide_eq_true q)
    · exact Or.inr (Or.inl (of_decide_eq_true q))
    · exact Or.inr (Or.inr (Or.inl (of_decide_eq_true q)))
    · exact Or.inr (Or.inr (Or.inr (of_decide_eq_true q)))
theorem lt_alL_len : lt_alL.length = 11 := by decide +kernel
theorem lt_al_0 (c : Nat) : (lt_al c 0).1 = 9999 := by
  unfold lt_al
  split
  · rfl
  · rfl
  · by_cases hc : c < 11
    · have : ∀ c, c < 11 → ((lt_alL.getD c []).getD 0 (9999, 0)).1 = 9999 := by decide +kernel
      exact this c hc
    · have e : lt_alL.getD c [] = [] := by
        rw [List.getD_eq_getElem?_getD, List.getElem?_eq_none (by rw [lt_alL_len]; omega)]
        rfl
      rw [e]
      rfl
def sm_wdL : List Nat → List Cond → Bool
  | i :: is, w :: ws => sm_wd i w && sm_wdL is ws
  | _, [] => true
  | _, _ :: _ => false
theorem sm_wds : ∀ {ws : List Cond} (is : List Nat), sm_wdL is ws = true → ∀ w ∈ ws, w ∈ lw_g := by
  intro ws
  induction ws with
  | nil => intro is _ w hw; cases hw
  | cons w ws ih =>
    intro is h
    cases is with
    | nil => cases h
    | cons i is =>
      have h' : (sm_wd i w && sm_wdL is ws) = true := h
      rw [Bool.and_eq_true] at h'
      exact List.forall_mem_cons.mpr ⟨sm_wd_in h'.1, ih is h'.2⟩
theorem sm_in0 : ∀ w ∈ u_ws RX0 TX0 10, w ∈ lw_g := sm_wds [345, 347, 349, 351, 353, 355, 357, 359, 361, 363] (by decide +kernel)
theorem sm_in1 : ∀ w ∈ u_ws RX1 TX1 7, w ∈ lw_g := sm_wds [177, 179, 181, 183, 185, 187, 189] (by decide +kernel)
theorem sm_in2 : ∀ w ∈ u_ws RX2 TX2 4, w ∈ lw_g := sm_wds [201, 203, 205, 207] (by decide +kernel)
theorem sm_in3 : ∀ w ∈ u_ws RX3 TX3 6, w ∈ lw_g := sm_wds [372, 374, 376, 378, 380, 382] (by decide +kernel)
theorem sm_in4 : ∀ w ∈ u_ws RX4 TX4 13, w ∈ lw_g := sm_wds [228, 230, 232, 234, 236, 238, 240, 242, 244, 246, 248, 250, 252] (by decide +kernel)
theorem sm_in5 : ∀ w ∈ u_ws RX5 TX5 8, w ∈ lw_g := sm_wds [269, 271, 273, 275, 277, 279, 281, 283] (by decide +kernel)
theorem sm_in6 : ∀ w ∈ u_ws RX6 TX6 4, w ∈ lw_g := sm_wds [303, 305, 307, 309] (by decide +kernel)
theorem sm_in7 : ∀ w ∈ u_ws RX7 TX7 3, w ∈ lw_g := sm_wds [321, 323, 325] (by decide +kernel)
theorem sm_in8 : ∀ w ∈ u_ws RX8 TX8 4, w ∈ lw_g := sm_wds [151, 153, 155, 157] (by decide +kernel)
theorem sm_in9 : ∀ w ∈ u_ws RX9 TX9 6, w ∈ lw_g := sm_wds [391, 393, 395, 397, 399, 401] (by decide +kernel)
theorem sm_in10 : ∀ w ∈ u_ws RX10 TX10 42, w ∈ lw_g := sm_wds [1398, 1400, 1402, 1404, 1406, 1408, 1410, 1412, 1414, 1416, 1418, 1420, 1422, 1424, 1426, 1428, 1430, 1432, 1434, 1436, 1438, 1440, 1442, 1444, 1446, 1448, 1450, 1452, 1454, 1456, 1458, 1460, 1462, 1464, 1466, 1468, 1470, 1472, 1474, 1476, 1478, 1480] (by decide +kernel)
/-- what is known of the classes -/
theorem sm_cls {c : Nat} (h : c < 11) : ∃ (C : String) (T : u_T) (ty0 : Nat → FieldType), vwCl[c]? = some (C, T, lt_nf c) ∧ (∀ w ∈ u_ws C T (lt_nf c), w ∈ lw_g) ∧ (∀ k, k < lt_nf c → parseFieldDescriptor (T k).2.2.1 = some (ty0 k)) ∧ (∀ a, a < lt_nf c → ∀ b, b < lt_nf c → a ≠ b → (T a).2.1 ≠ (T b).2.1) := by
  match c, h with
  | 0, _ => exact ⟨RX0, TX0, tyX0, rfl, sm_in0, tyX0_ok, nmX0⟩
  | 1, _ => exact ⟨RX1, TX1, tyX1, rfl, sm_in1, tyX1_ok, nmX1⟩
  | 2, _ => exact ⟨RX2, TX2, tyX2, rfl, sm_in2, tyX2_ok, nmX2⟩
  | 3, _ => exact ⟨RX3, TX3, tyX3, rfl, sm_in3, tyX3_ok, nmX3⟩
  | 4, _ => exact ⟨RX4, TX4, tyX4, rfl, sm_in4, tyX4_ok, nmX4⟩
  | 5, _ => exact ⟨RX5, TX5, tyX5, rfl, sm_in5, tyX5_ok, nmX5⟩
  | 6, _ => exact ⟨RX6, TX6, tyX6, rfl, sm_in6, tyX6_ok, nmX6⟩
  | 7, _ => exact ⟨RX7, TX7, tyX7, rfl, sm_in7, tyX7_ok, nmX7⟩
  | 8, _ => exact ⟨RX8, TX8, tyX8, rfl, sm_in8, tyX8_ok, nmX8⟩
  | 9, _ => exact ⟨RX9, TX9, tyX9, rfl, sm_in9, tyX9_ok, nmX9⟩
  | 10, _ => exact ⟨RX10, TX10, tyX10, rfl, sm_in10, tyX10_ok, nmX10⟩
