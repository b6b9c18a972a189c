/-! LEVEL B: layouts: the class keeps those that it comes to, each once -/
def eq9 (h g : Nat → Nat) : Prop := ∀ j, j < 9 → h j = g j
/-- whether a layout is kept -/
def inS (s : (Nat → Nat → Nat) × Nat) (h : Nat → Nat) : Prop := ∃ k, k < s.2 ∧ eq9 (s.1 k) h
def pushS (s : (Nat → Nat → Nat) × Nat) (h : Nat → Nat) : (Nat → Nat → Nat) × Nat := (fun k => if k = s.2 then h else s.1 k, s.2 + 1)
noncomputable def adS (s : (Nat → Nat → Nat) × Nat) (h : Nat → Nat) : (Nat → Nat → Nat) × Nat := @ite _ (s.2 < 1001 ∧ ¬ inS s h) (Classical.propDecidable _) (pushS s h) s
theorem adS_y {s : (Nat → Nat → Nat) × Nat} {h : Nat → Nat} (h1 : s.2 < 1001) (h2 : ¬ inS s h) : adS s h = pushS s h := by
  unfold adS
  rw [if_pos ⟨h1, h2⟩]
theorem adS_n {s : (Nat → Nat → Nat) × Nat} {h : Nat → Nat} (h1 : ¬ (s.2 < 1001 ∧ ¬ inS s h)) : adS s h = s := by
  unfold adS
  rw [if_neg h1]
theorem adS_k {s : (Nat → Nat → Nat) × Nat} {h : Nat → Nat} : s.2 ≤ (adS s h).2 ∧ ∀ k, k < s.2 → (adS s h).1 k = s.1 k := by
  by_cases z : s.2 < 1001 ∧ ¬ inS s h
  · rw [adS_y z.1 z.2]
    exact ⟨Nat.le_succ _, fun k hk => if_neg (by omega)⟩
  · rw [adS_n z]
    exact ⟨Nat.le_refl _, fun _ _ => rfl⟩
theorem adS_le {s : (Nat → Nat → Nat) × Nat} {h : Nat → Nat} (hs : s.2 ≤ 1001) : (adS s h).2 ≤ 1001 := by
  by_cases z : s.2 < 1001 ∧ ¬ inS s h
  · rw [adS_y z.1 z.2]; exact z.1
  · rw [adS_n z]; exact hs
def cntT (T : Nat → Bool) : Nat → Nat
  | 0 => 0
  | n + 1 => cntT T n + (bif T n then 1 else 0)
theorem cntT_all {T : Nat → Bool} : ∀ n, (∀ j, j < n → T j = true) → cntT T n = n := by
  intro n
  induction n with
  | zero => intro _; rfl
  | succ n ih =>
    intro h
    show cntT T n + (bif T n then 1 else 0) = n + 1
    rw [ih (fun j hj => h j (by omega)), h n (by omega)]; rfl
theorem cntT_0 {T : Nat → Bool} : ∀ n, (∀ j, j < n → T j = false) → cntT T n = 0 := by
  intro n
  induction n with
  | zero => intro _; rfl
  | succ n ih =>
    intro h
    show cntT T n + (bif T n then 1 else 0) = 0
    rw [ih (fun j hj => h j (by omega)), h n (by omega)]; rfl
theorem cntT_e {T U : Nat → Bool} : ∀ n, (∀ j, j < n → U j = T j) → cntT U n = cntT T n := by
  intro n
  induction n with
  | zero => intro _; rfl
  | succ n ih =>
    intro h
    show cntT U n + (bif U n then 1 else 0) = cntT T n + (bif T n then 1 else 0)
    rw [ih (fun j hj => h j (by omega)), h n (by omega)]
theorem cntT_u {T U : Nat → Bool} {j0 : Nat} (h : ∀ j, ¬ j = j0 → U j = T j) : ∀ n, cntT U n ≤ cntT T n + 1 := by
  intro n
  induction n with
  | zero => exact Nat.zero_le _
  | succ n ih =>
    show cntT U n + (bif U n then 1 else 0) ≤ cntT T n + (bif T n then 1 else 0) + 1
    by_cases z : n = j0
    · subst z
      rw [cntT_e n (fun j hj => h j (by omega))]
      cases U n <;> cases T n <;> simp only [cond_true, cond_false] <;> omega
    · rw [h n z]
      omega
/-- where the search for a layout's row begins -/
noncomputable def hsL (n : Nat) : Nat := Classical.choose (slot_ok (lN n * lt_K2))
theorem hsL_s (n : Nat) : hsL n < 2048 ∧ (((lN n * lt_K2).toUInt64 >>> ((53 : Int32).toInt64.toUInt64 &&& Int64.toUInt64 63)).toInt64).toInt32 = nI (hsL n) := Classical.choose_spec (slot_ok (lN n * lt_K2))
/-- the class's rows and its table -/
def LT (a : Nat → Nat → Int32) (M : sm_M) (s : (Nat → Nat → Nat) × Nat) : Prop :=
  M.1 5 0 0 5 = nI s.2 ∧ s.2 ≤ 1001 ∧ (∀ k, k < s.2 → M.2 5 0 4 k = lN (eN (s.1 k)) ∧ Gd a (s.1 k)) ∧ (∀ j, j < 2048 → ∃ r, r ≤ s.2 ∧ M.1 5 0 5 j = nI r) ∧
  cntT (fun j => !decide (M.1 5 0 5 j = 0)) 2048 ≤ s.2 ∧ ∀ k, k < s.2 → ∃ t, t < 2048 ∧ M.1 5 0 5 ((hsL (eN (s.1 k)) + t) % 2048) = nI (k + 1) ∧ ∀ u, u < t → ¬ M.1 5 0 5 ((hsL (eN (s.1 k)) + u) % 2048) = 0
/-- memories that differ in the tag 5 alone -/
def fr5 (M N : sm_M) : Prop := ∀ c, ¬ c = 5 → N.1 c = M.1 c ∧ N.2 c = M.2 c
theorem fr5_r {M : sm_M} : fr5 M M := fun _ _ => ⟨rfl, rfl⟩
theorem fr5_t {M N O : sm_M} (h : fr5 M N) (h2 : fr5 N O) : fr5 M O := fun c hc => ⟨(h2 c hc).1.trans (h c hc).1, (h2 c hc).2.trans (h c hc).2⟩
theorem fr5_u {M : sm_M} {p j i : Nat} {x : Int32} : fr5 M (sm_u M 5 p j i x) := fun c hc => ⟨by
  funext p' j' i'
  rw [u_1, if_neg (fun z => hc z.1)], rfl⟩
theorem fr5_w {M : sm_M} {p j i : Nat} {x : Int64} : fr5 M (sm_w M 5 p j i x) := fun c hc => ⟨rfl, by
  funext p' j' i'
  rw [w_2, if_neg (fun z => hc z.1)]⟩
theorem fr5_f {M : sm_M} {p j : Nat} {x : Int32} : fr5 M (sm_fl M 5 p j x) := fun c hc => ⟨by
  funext p' j' i'
  rw [fl_1, if_neg (fun z => hc z.1)], rfl⟩
theorem CX_5 {a : Nat → Nat → Int32} {M N : sm_M} (h : fr5 M N) (x : CX a M) : CX a N := by
  refine ⟨rTel_M x.1 (h 1 (by decide)).1 (h 2 (by decide)).1 (h 8 (by decide)).1, fun p hp => ?_⟩
  have e : ∀ j i, N.1 4 p j i = M.1 4 p j i := fun j i => by rw [(h 4 (by decide)).1]
  exact ⟨(e 0 0).trans (x.2 p hp).1, knC_tag e (x.2 p hp).2⟩
/-- the class's memory behind keep -/
def kpM (M : sm_M) (n j : Nat) (x : Int64) : sm_M := sm_u (sm_u (sm_w M 5 0 4 n x) 5 0 0 5 (nI (n + 1))) 5 0 5 j (nI (n + 1))
theorem P_lKeep {sc : Nat × (Nat → Int32)} {M : sm_M} {n j : Nat} {x : Int64} (hn : n ≤ 1001) (h : M.1 5 0 0 5 = nI n) (hj : j < 2048) : dn sc kLayouts_keep 0 [.inr (.inr (5, 0, 0)), .inr (.inl x), .inl (nI j)] [] M = some (0, .inl 0, if n < 1001 then kpM M n j x else M) := by
  rw [E_Layouts_keep_0, h]
  by_cases z : n < 1001
  · rw [if_pos (by rw [i_lt (by omega) (by decide)]; exact z), i_ib z (by decide), if_pos rfl, i_ib hj (by decide), if_pos rfl, i_cl (show n < 2147483648 by omega), i_cl (show j < 2147483648 by omega), if_pos z]
    have e : (sm_w M 5 0 4 n x).1 5 0 0 5 = nI n := h
    rw [e, nI_1, u_hit]
    rfl
  · rw [if_neg (by rw [i_lt (by omega) (by decide)]; exact z), if_neg z]
theorem kpM_1 {M : sm_M} {n j : Nat} {x : Int64} {i : Nat} : (kpM M n j x).1 5 0 5 i = if i = j then nI (n + 1) else M.1 5 0 5 i := by
  unfold kpM
  by_cases z : i = j
  · subst z
    rw [u_hit, if_pos rfl]
  · rw [u_mis (by omega), u_mis (by omega), w_1, if_neg z]
theorem kpM_5 {M : sm_M} {n j : Nat} {x : Int64} : fr5 M (kpM M n j x) := fr5_t fr5_w (fr5_t fr5_u fr5_u)
/-- a layout that isn't kept is kept -/
theorem LT_kp {a : Nat → Nat → Int32} {M : sm_M} {s : (Nat → Nat → Nat) × Nat} {h : Nat → Nat} (l : LT a M s) (hn : s.2 < 1001) (g : Gd a h) {t : Nat} (ht : t < 2048) (h0 : M.1 5 0 5 ((hsL (eN h) + t) % 2048) = 0) (hb : ∀ u, u < t → ¬ M.1 5 0 5 ((hsL (eN h) + u) % 2048) = 0) : LT a (kpM M s.2 ((hsL (eN h) + t) % 2048) (lN (eN h))) (pushS s h) := by
  obtain ⟨l1, l2, l3, l4, l5, l6⟩ := l
  have ne : ∀ n, n < 2000 → ¬ nI (n + 1) = 0 := fun n hn y => by
    rw [show (0 : Int32) = nI 0 from rfl, i_eq (by omega) (by decide)] at y
    omega
  refine ⟨?_, hn, fun k hk => ?_, fun j hj => ?_, ?_, fun k hk => ?_⟩
  · show (kpM M s.2 _ _).1 5 0 0 5 = nI (s.2 + 1)
    unfold kpM
    rw [u_mis (by omega), u_hit]
  · have e : ∀ i, (kpM M s.2 ((hsL (eN h) + t) % 2048) (lN (eN h))).2 5 0 4 i = if i = s.2 then lN (eN h) else M.2 5 0 4 i := by
      intro i
      unfold kpM
      rw [u_2, u_2, w_2]
      by_cases z : i = s.2
      · rw [if_pos ⟨rfl, rfl, rfl, z⟩, if_pos z]
      · rw [if_neg (fun y => z y.2.2.2), if_neg z]
    rw [e]
    unfold pushS at hk ⊢
    dsimp only at hk ⊢
    by_cases z : k = s.2
    · rw [if_pos z, if_pos z]; exact ⟨rfl, g⟩
    · rw [if_neg z, if_neg z]; exact l3 k (by omega)
  · rw [kpM_1]
    by_cases z : j = (hsL (eN h) + t) % 2048
    · rw [if_pos z]; exact ⟨s.2 + 1, Nat.le_refl _, rfl⟩
    · rw [if_neg z]
      obtain ⟨r, r1, r2⟩ := l4 j hj
      exact ⟨r, Nat.le_succ_of_le r1, r2⟩
  · refine Nat.le_trans (cntT_u (T := fun j => !decide (M.1 5 0 5 j = 0)) (j0 := (hsL (eN h) + t) % 2048) (fun j hj => ?_) 2048) (Nat.succ_le_succ l5)
    rw [kpM_1, if_neg hj]
  · unfold pushS at hk ⊢
    dsimp only at hk ⊢
    by_cases z : k = s.2
    · subst z
      rw [if_pos rfl]
      refine ⟨t, ht, ?_, fun u hu => ?_⟩
      · rw [kpM_1, if_pos rfl]
      · rw [kpM_1]
        split
        · exact ne _ (by omega)
        · exact hb u hu
    · rw [if_neg z]
      obtain ⟨t', q1, q2, q3⟩ := l6 k (by omega)
      refine ⟨t', q1, ?_, fun u hu => ?_⟩
      · rw [kpM_1]
        split
        · next y => rw [y, h0] at q2; exact absurd q2.symm (ne k (by omega))
        · exact q2
      · rw [kpM_1]
        split
        · exact ne _ (by omega)
        · exact q3 u hu
theorem P_lReach1 {sc : Nat × (Nat → Int32)} {a : Nat → Nat → Int32} {M : sm_M} {s : (Nat → Nat → Nat) × Nat} {h : Nat → Nat} (l : LT a M s) (g : Gd a h) : ∀ n t, t + n = 2048 → (∀ u, u < t → ∃ k, k < s.2 ∧ M.1 5 0 5 ((hsL (eN h) + u) % 2048) = nI (k + 1) ∧ ¬ eN (s.1 k) = eN h) →
    ∃ M', dn sc kLayouts_reach 1 [.inr (.inr (5, 0, 0)), .inr (.inl (lN (eN h))), .inl (nI ((hsL (eN h) + t) % 2048)), .inl (nI t)] [] M = some (0, .inl 0, M') ∧ LT a M' (adS s h) ∧ fr5 M M' := by
  obtain ⟨l1, l2, l3, l4, l5, l6⟩ := l
  have d := wfh_d (Gd_w g)
  have he := eN_lt d
  have ne : ∀ n, n < 2000 → ¬ nI (n + 1) = 0 := fun n hn y => by
    rw [show (0 : Int32) = nI 0 from rfl, i_eq (by omega) (by decide)] at y
    omega
  intro n
  induction n with
  | zero =>
    intro t ht hA
    exfalso
    have : cntT (fun j => !decide (M.1 5 0 5 j = 0)) 2048 = 2048 := cntT_all _ (fun j hj => by
      have h0 := (hsL_s (eN h)).1
      obtain ⟨k, k1, k2, _⟩ := hA ((j + 2048 - hsL (eN h)) % 2048) (by omega)
      rw [show (hsL (eN h) + (j + 2048 - hsL (eN h)) % 2048) % 2048 = j by omega] at k2
      rw [k2, decide_eq_false (ne k (by omega))]; rfl)
    omega
  | succ n ih =>
    intro t ht hA
    have hj : (hsL (eN h) + t) % 2048 < 2048 := by omega
    obtain ⟨r, r1, r2⟩ := l4 _ hj
    rw [E_Layouts_reach_1, show (2048 : Int32) = nI 2048 from rfl, if_pos (by rw [i_lt (by omega) (by decide)]; omega), i_ib hj (by decide), if_pos rfl, i_cl (show (hsL (eN h) + t) % 2048 < 2147483648 by omega), r2]
    cases r with
    | zero =>
      have hni : ¬ inS s h := by
        rintro ⟨k, k1, k2⟩
        obtain ⟨t', q1, q2, q3⟩ := l6 k k1
        rw [eN_e k2] at q2 q3
        by_cases z : t' < t
        · obtain ⟨k', k1', k2', k3'⟩ := hA t' z
          rw [k2', i_eq (by omega) (by omega)] at q2
          obtain rfl : k' = k := by omega
          exact k3' (eN_e k2)
        · by_cases z2 : t' = t
          · subst z2
            rw [r2] at q2
            exact ne k (by omega) q2.symm
          · exact q3 t (by omega) r2
      rw [if_pos (show nI 0 - 1 < 0 by decide), P_lKeep l2 l1 hj, r0_s]
      by_cases z : s.2 < 1001
      · rw [if_pos z, adS_y z hni]
        exact ⟨_, rfl, LT_kp ⟨l1, l2, l3, l4, l5, l6⟩ z g (by omega) r2 (fun u hu => by obtain ⟨k, k1, k2, _⟩ := hA u hu; rw [k2]; exact ne k (by omega)), kpM_5⟩
      · rw [if_neg z, adS_n (fun y => z y.1)]
        exact ⟨M, rfl, ⟨l1, l2, l3, l4, l5, l6⟩, fr5_r⟩
    | succ r =>
      have hr := l3 r (by omega)
      have dr := wfh_d (Gd_w hr.2)
      have her := eN_lt dr
      rw [nI_pred, if_neg (nI_pos (by omega)), l1, if_pos (by rw [i_lt (by omega) (by omega)]; omega), i_ib (show r < 1001 by omega) (by decide), if_pos rfl, i_cl (show r < 2147483648 by omega), hr.1]
      have c := lN_cmp (a := eN (s.1 r)) (b := eN h) (by omega) (by omega)
      by_cases z : eN (s.1 r) = eN h
      · rw [if_pos (c.mpr z), adS_n (fun y => y.2 ⟨r, by omega, eN_i dr d z⟩)]
        exact ⟨M, rfl, ⟨l1, l2, l3, l4, l5, l6⟩, fr5_r⟩
      · rw [if_neg (fun y => z (c.mp y)), E_Layouts_reach_7, nI_1, nI_1, show (2047 : Int32) = nI (2 ^ 11 - 1) from rfl, i_mask (by decide), show ((hsL (eN h) + t) % 2048 + 1) % 2 ^ 11 = (hsL (eN h) + (t + 1)) % 2048 by omega]
        refine ih (t + 1) (by omega) (fun u hu => ?_)
        by_cases y : u = t
        · subst y
          exact ⟨r, by omega, r2, z⟩
        · exact hA u (by omega)
theorem P_lReach {sc : Nat × (Nat → Int32)} {a : Nat → Nat → Int32} {M : sm_M} {s : (Nat → Nat → Nat) × Nat} {h : Nat → Nat} (l : LT a M s) (g : Gd a h) : ∃ M', dn sc kLayouts_reach 0 [.inr (.inr (5, 0, 0)), .inr (.inl (lN (eN h)))] [] M = some (0, .inl 0, M') ∧ LT a M' (adS s h) ∧ fr5 M M' := by
  have h0 := hsL_s (eN h)
  rw [E_Layouts_reach_0, h0.2]
  have := P_lReach1 (sc := sc) l g 2048 0 (by decide) (fun u hu => absurd hu (Nat.not_lt_zero _))
  rw [show (hsL (eN h) + 0) % 2048 = hsL (eN h) by omega] at this
  exact this
