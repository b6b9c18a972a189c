/-! LEVEL B: flows: the class follows an op -/
theorem fC_now {M N : sm_M} {q : Nat} (h : frS (s4n q) M N) : fC N q = fC M q := by
  have h8 : N.1 4 q 0 8 = M.1 4 q 0 8 := h.2 _ _ _ _ (fun z => by unfold s4n at z; omega)
  have h4 : ∀ i, N.1 4 q 4 i = M.1 4 q 4 i := fun i => h.2 _ _ _ _ (fun z => by unfold s4n at z; omega)
  have h5 : ∀ i, N.1 4 q 5 i = M.1 4 q 5 i := fun i => h.2 _ _ _ _ (fun z => by unfold s4n at z; omega)
  unfold fC
  rw [h8]
  refine Prod.ext rfl ?_
  funext k i
  dsimp only
  rw [h4, h5]
theorem chC_now {M N : sm_M} {q : Nat} (h : frS (s4n q) M N) : N.1 4 q 0 9 = M.1 4 q 0 9 := h.2 _ _ _ _ (fun z => by unfold s4n at z; omega)
/-- the class's memory when an op's numbers are now -/
def cpM (M : sm_M) (q o : Nat) : sm_M := sm_cp (sm_cp M 4 q 4 4 q 7 (o * 6) 0 6) 4 q 5 4 q 8 (o * 3) 0 3
theorem cpM_fr {M : sm_M} {q o : Nat} : frS (s4n q) M (cpM M q o) := by
  refine ⟨rfl, fun c p j i h => ?_⟩
  unfold cpM sm_cp
  dsimp only
  unfold s4n at h
  rw [if_neg (by omega), if_neg (by omega)]
theorem cp_1 {M : sm_M} {c0 p0 j0 c1 p1 j1 sp dp n c p j i : Nat} : (sm_cp M c0 p0 j0 c1 p1 j1 sp dp n).1 c p j i = if (c = c1 ∧ p = p1 ∧ j = j1) ∧ dp ≤ i ∧ i < dp + n then M.1 c0 p0 j0 (sp + (i - dp)) else M.1 c p j i := by
  unfold sm_cp va_cpy
  dsimp only
  by_cases q : c = c1 ∧ p = p1 ∧ j = j1
  · rw [if_pos q]
    obtain ⟨rfl, rfl, rfl⟩ := q
    by_cases q2 : dp ≤ i ∧ i < dp + n
    · rw [if_pos q2, if_pos ⟨⟨rfl, rfl, rfl⟩, q2⟩]
    · rw [if_neg q2, if_neg (fun z => q2 z.2)]
  · rw [if_neg q, if_neg (fun z => q z.1)]
theorem cpM_n {M : sm_M} {q o i : Nat} (hi : i < 6) : (cpM M q o).1 4 q 7 i = (fC M q).2 o i := by
  unfold cpM
  rw [cp_1, if_neg (by omega), cp_1, if_pos ⟨⟨rfl, rfl, rfl⟩, by omega, by omega⟩, fC_n hi, Nat.sub_zero]
theorem cpM_s {M : sm_M} {q o i : Nat} (hi : i < 3) : (cpM M q o).1 4 q 8 i = (fC M q).2 o (6 + i) := by
  unfold cpM
  rw [cp_1, if_pos ⟨⟨rfl, rfl, rfl⟩, by omega, by omega⟩, cp_1, if_neg (by omega), fC_s, Nat.sub_zero]
/-- nine numbers come to an op: what is found, and which ops are to be looked at -/
def stepR (k : Nat) (v : Nat → Int32) (S : sF) (c : Nat → Bool) (T : sF) (d : Nat → Bool) : Prop :=
  (∀ j, j < 32 → T.1 j = (jnF S k v).1 j) ∧ (∀ j i, i < 9 → T.2 j i = (jnF S k v).2 j i) ∧ ∀ j, j < 32 → d j = (c j || (dfF S k v && decide (j = k)))
def chC (M : sm_M) (q j : Nat) : Bool := bt (M.1 4 q 0 9) j
theorem rch_R {M : sm_M} {q k : Nat} (hk : k < 17) : stepR k (nwC M q) (fC M q) (chC M q) (fC (rch M q k) q) (chC (rch M q k) q) :=
  ⟨fun _ hj => rch_f1 hk hj, fun _ _ hi => rch_f2 hi, fun _ hj => rch_c hk hj⟩
/-- what following an op does -/
def follR (a : Nat → Nat → Int32) (q o : Nat) (S : sF) (c : Nat → Bool) (T : sF) (d : Nat → Bool) : Prop :=
  (opW a q o = 13 ∧ T = S ∧ d = c) ∨ (¬ opW a q o = 13 ∧ ∃ U e v, (∀ i, i < 9 → v i = trF a q o 0 (S.2 o) i) ∧ stepR (nxO a q o false) v S c U e ∧
    ((¬ otO a q o ∧ T = U ∧ d = e) ∨ (otO a q o ∧ ∃ w, (∀ i, i < 9 → w i = trF a q o 1 (S.2 o) i) ∧ stepR (nxO a q o true) w U e T d)))
def s4f (q c p j i : Nat) : Prop := c = 4 ∧ p = q ∧ ((j = 0 ∧ (i = 8 ∨ i = 9)) ∨ j = 4 ∨ j = 5 ∨ j = 7 ∨ j = 8)
theorem s4n_f {q : Nat} : ∀ c p j i, s4n q c p j i → s4f q c p j i := fun c p j i h => by unfold s4n at h; unfold s4f; omega
theorem s4f_4 {q : Nat} : ∀ c p j i, s4f q c p j i → s4 q c p j i := fun c p j i h => by unfold s4f at h; unfold s4; omega
theorem s47_n {q : Nat} : ∀ c p j i, s47 q c p j i → s4n q c p j i := fun c p j i h => by unfold s47 at h; unfold s4n; omega
theorem rch_s4 {M : sm_M} {q k : Nat} : frS (s4f q) M (rch M q k) := ⟨rch_2, fun c p j i h => rch_fr (fun z => h (by unfold s4f; omega))⟩
theorem jm_nx {a : Nat → Nat → Int32} {q o : Nat} (wf : wfA a) (hq : q < 3) (ho : o < onA a q) (h : opW a q o = 10 ∨ opW a q o = 11 ∨ opW a q o = 12) : jmK (onA a q) (opY a q) o = nI (nxO a q o true) := by
  have ok := (wf.2.1 q hq).2.2 o ho
  have h16 := (wf.2.1 q hq).2.1
  obtain ⟨c0, c1, c2, c7, c9, c10, c11, ca, cX, cY, cn⟩ := okO_c ok
  have y1 : yN a q o < 16 := by
    rcases h with h | h | h
    · exact (c10 h).2
    · exact c11 (Or.inl h)
    · exact c11 (Or.inr h)
  have y2 : opY a q o = nI (yN a q o) := cY (by rcases h with h | h | h <;> simp only [h] <;> decide)
  unfold jmK nxO
  rw [abK_i ho, y2, wN_nI (by omega) (by omega), if_pos (Or.inr rfl)]
  by_cases z : yN a q o < onA a q
  · rw [decide_eq_true z, if_pos rfl, if_pos z]
  · rw [decide_eq_false z, if_neg (by decide), if_neg z]
theorem af_nx {a : Nat → Nat → Int32} {q o : Nat} (h : ¬ opW a q o = 12) : (if o + 1 < onA a q then o + 1 else onA a q) = nxO a q o false := by
  unfold nxO
  rw [if_neg (show ¬(opW a q o = 12 ∨ false = true) from fun z => z.elim h (by decide))]
theorem nwC_n {M : sm_M} {q i : Nat} (hi : i < 6) : nwC M q i = M.1 4 q 7 i := by unfold nwC; rw [if_pos hi]
theorem nwC_s {M : sm_M} {q i : Nat} : nwC M q (6 + i) = M.1 4 q 8 i := by unfold nwC; rw [if_neg (by omega), Nat.add_sub_cancel_left]
theorem by9 {P : Nat → Prop} (h : ∀ i, i < 6 → P i) (h2 : ∀ i, i < 3 → P (6 + i)) : ∀ i, i < 9 → P i := by
  intro i hi
  by_cases q : i < 6
  · exact h i q
  · have := h2 (i - 6) (by omega)
    rwa [show 6 + (i - 6) = i by omega] at this
theorem trF_s {a : Nat → Nat → Int32} {p o w : Nat} {v : Nat → Int32} {i : Nat} : trF a p o w v (6 + i) = if tF a p o v = true ∧ i = xN a p o then nxS (wA a (prA a (xN a p o))) (kA a (prA a (xN a p o))) (bA a (prA a (xN a p o))) (sF0 a p o v).toNatClampNeg (wyF a p o w) else v (6 + i) := by
  unfold trF
  rw [if_neg (by omega)]
  by_cases e : tF a p o v = true ∧ i = xN a p o
  · rw [if_pos e, if_pos ⟨e.1, by omega⟩]
  · rw [if_neg e, if_neg (fun z => e ⟨z.1, by omega⟩)]
theorem trF_n {a : Nat → Nat → Int32} {p o w : Nat} {v : Nat → Int32} {i : Nat} (hi : i < 6) : trF a p o w v i = nmF (opW a p o) (opY a p o) (xN a p o) (yN a p o) (kF a p o v) (tF a p o v) (sF0 a p o v) v i := by
  unfold trF
  rw [if_pos hi]
/-- ops that change no variable -/
theorem nm_id {W Y : Int32} {x y : Nat} {kd : Int32} {t : Bool} {s : Int32} {v : Nat → Int32} {i : Nat} (h : W = 9 ∨ W = 10 ∨ W = 11 ∨ W = 12 ∨ W = 13) : nmF W Y x y kd t s v i = v i := by
  rcases h with h | h | h | h | h <;> (subst h; rfl)
theorem tF_f {a : Nat → Nat → Int32} {q o : Nat} {v : Nat → Int32} (h : ndK (opW a q o) = -1) : tF a q o v = false := by unfold tF atF; rw [decide_eq_false (fun z => z h)]; rfl
theorem P_follow {sc : Nat × (Nat → Int32)} {a : Nat → Nat → Int32} {M : sm_M} {q o : Nat} (wf : wfA a) (r : cx a M q) (hq : q < 3) (ho : o < onA a q) (hv : okV a q ((fC M q).2 o)) :
    ∃ N, dn sc kFlow_follow 0 [.inr (.inr (4, q, 0)), .inl (nI o)] [] M = some (0, .inl 0, N) ∧ frS (s4f q) M N ∧ follR a q o (fC M q) (chC M q) (fC N q) (chC N q) := by
  have ok := (wf.2.1 q hq).2.2 o ho
  have h16 := (wf.2.1 q hq).2.1
  obtain ⟨c0, c1, c2, c7, c9, c10, c11, ca, cX, cY, cn⟩ := okO_c ok
  -- what is now
  have C1 : frS (s4n q) M (cpM M q o) := cpM_fr
  have r1 : cx a (cpM M q o) q := cx_fr (frS_w C1 s4n_s4) r
  have f1 : fC (cpM M q o) q = fC M q := fC_now C1
  have k1 := r1.1.2.1 q hq
  have nx17 : ∀ b, nxO a q o b < 17 := fun b => by have := nxO_le (a := a) (p := q) (o := o) (b := b); omega
  have e0 : dn sc kFlow_follow 0 [.inr (.inr (4, q, 0)), .inl (nI o)] [] M = if opW a q o = 9 then (sm_r1 (dn sc kCode_bAt 0 [.inr (.inr (2, q, 0)), .inl (nI o)] [] (cpM M q o)) (fun x26 M25 => sm_r0 (dn sc kFlow_goOn 0 [.inr (.inr (4, q, 0)), .inl (nI o), .inl x26] [] M25) (fun M27 => sm_r1 (dn sc kCode_after 0 [.inr (.inr (2, q, 0)), .inl (nI o)] [] M27) (fun x29 M28 => sm_r0 (dn sc kFlow_reach 0 [.inr (.inr (4, q, 0)), .inl x29] [] M28) (fun M30 => some (0, .inl 0, M30))))))
      else if opW a q o = 10 then (sm_r0 (dn sc kFlow_goOn 0 [.inr (.inr (4, q, 0)), .inl (nI o), .inl 0] [] (cpM M q o)) (fun M17 => sm_r1 (dn sc kCode_after 0 [.inr (.inr (2, q, 0)), .inl (nI o)] [] M17) (fun x19 M18 => sm_r0 (dn sc kFlow_reach 0 [.inr (.inr (4, q, 0)), .inl x19] [] M18) (fun M20 => sm_r0 (dn sc kFlow_goOn 0 [.inr (.inr (4, q, 0)), .inl (nI o), .inl 1] [] M20) (fun M21 => sm_r1 (dn sc kCode_jumpOf 0 [.inr (.inr (2, q, 0)), .inl (nI o)] [] M21) (fun x23 M22 => sm_r0 (dn sc kFlow_reach 0 [.inr (.inr (4, q, 0)), .inl x23] [] M22) (fun M24 => some (0, .inl 0, M24))))))))
      else if opW a q o = 11 then (sm_r1 (dn sc kCode_after 0 [.inr (.inr (2, q, 0)), .inl (nI o)] [] (cpM M q o)) (fun x12 M11 => sm_r0 (dn sc kFlow_reach 0 [.inr (.inr (4, q, 0)), .inl x12] [] M11) (fun M13 => sm_r1 (dn sc kCode_jumpOf 0 [.inr (.inr (2, q, 0)), .inl (nI o)] [] M13) (fun x15 M14 => sm_r0 (dn sc kFlow_reach 0 [.inr (.inr (4, q, 0)), .inl x15] [] M14) (fun M16 => some (0, .inl 0, M16))))))
      else if opW a q o = 12 then (sm_r1 (dn sc kCode_jumpOf 0 [.inr (.inr (2, q, 0)), .inl (nI o)] [] (cpM M q o)) (fun x9 M8 => sm_r0 (dn sc kFlow_reach 0 [.inr (.inr (4, q, 0)), .inl x9] [] M8) (fun M10 => some (0, .inl 0, M10))))
      else if opW a q o = 13 then some (0, .inl 0, cpM M q o)
      else (sm_r0 (dn sc kFlow_changeNames 0 [.inr (.inr (4, q, 0)), .inl (nI o)] [] (cpM M q o)) (fun M3 => sm_r0 (dn sc kFlow_goOn 0 [.inr (.inr (4, q, 0)), .inl (nI o), .inl 0] [] M3) (fun M4 => sm_r1 (dn sc kCode_after 0 [.inr (.inr (2, q, 0)), .inl (nI o)] [] M4) (fun x6 M5 => sm_r0 (dn sc kFlow_reach 0 [.inr (.inr (4, q, 0)), .inl x6] [] M5) (fun M7 => some (0, .inl 0, M7)))))) := by
    rw [E_Flow_follow_0]
    have i6 : (nI o * 6).toNatClampNeg = o * 6 := by rw [show (6 : Int32) = nI 6 from rfl, i_mul, i_cl (by omega)]
    have i3 : (nI o * 3).toNatClampNeg = o * 3 := by rw [show (3 : Int32) = nI 3 from rfl, i_mul, i_cl (by omega)]
    have n6 : ¬ nI o * 6 < 0 := by rw [show (6 : Int32) = nI 6 from rfl, i_mul]; exact nI_pos (by omega)
    have n3 : ¬ nI o * 3 < 0 := by rw [show (3 : Int32) = nI 3 from rfl, i_mul]; exact nI_pos (by omega)
    rw [i6, i3, show (0 : Int32).toNatClampNeg = 0 from rfl, show (6 : Int32).toNatClampNeg = 6 from rfl, show (3 : Int32).toNatClampNeg = 3 from rfl]
    rw [if_pos ⟨⟨n6, by decide, by decide⟩, by omega, by omega⟩, if_pos ⟨⟨n3, by decide, by decide⟩, by omega, by omega⟩]
    show sm_r1 (dn sc kCode_whatAt 0 [.inr (.inr (2, q, 0)), .inl (nI o)] [] (cpM M q o)) _ = _
    rw [P_kWhat k1 (by omega), r1_s, whK_i ho]
  -- one reach, of a memory that differs from M in what is now
  have one : ∀ (N : sm_M) (b : Bool) (v : Nat → Int32), frS (s4n q) M N → (∀ i, i < 9 → nwC N q i = v i) → stepR (nxO a q o b) (nwC N q) (fC M q) (chC M q) (fC (rch N q (nxO a q o b)) q) (chC (rch N q (nxO a q o b)) q) ∧ frS (s4f q) M (rch N q (nxO a q o b)) := by
    intro N b v hN _
    have hR := rch_R (M := N) (q := q) (nx17 b)
    rw [fC_now hN] at hR
    refine ⟨?_, frS_t (frS_w hN s4n_f) rch_s4⟩
    have ec : chC N q = chC M q := by unfold chC; rw [chC_now hN]
    rw [ec] at hR
    exact hR
  rw [e0]
  by_cases q9 : opW a q o = 9
  · -- PICK
    rw [if_pos q9, P_kB k1 (by omega), r1_s, abK_i ho, show opY a q o = nI (yN a q o) from cY (by simp only [q9]; decide), P_goOn wf r1 hq ho (by rw [f1]; exact hv) (show yN a q o < 2 from (c9 q9).2), r0_s]
    have C2 : frS (s4n q) M (goM a (cpM M q o) q o (yN a q o)) := frS_t C1 goM_fr
    have r2 := cx_fr (frS_w C2 s4n_s4) r
    rw [P_kAfter (r2.1.2.1 q hq) (by omega), r1_s, af_nx (by rw [q9]; decide), P_fReach (nx17 _), r0_s]
    have hnw : ∀ i, i < 9 → nwC (goM a (cpM M q o) q o (yN a q o)) q i = trF a q o 0 ((fC M q).2 o) i := by
      refine by9 (fun i hi => ?_) (fun i hi => ?_)
      · rw [nwC_n hi, goM_n, cpM_n hi, trF_n hi, nm_id (Or.inl q9)]
      · rw [nwC_s, goM_s, cpM_s hi, trF_s, f1]
        have ew : wyF a q o 0 = yN a q o := by unfold wyF; rw [if_pos q9]
        rw [ew]
    obtain ⟨h1, h2⟩ := one _ false _ C2 hnw
    exact ⟨_, rfl, h2, Or.inr ⟨by rw [q9]; decide, _, _, _, hnw, h1, Or.inl ⟨by unfold otO; rw [q9]; decide, rfl, rfl⟩⟩⟩
  rw [if_neg q9]
  by_cases q10 : opW a q o = 10
  · -- WAIT
    rw [if_pos q10, show (0 : Int32) = nI 0 from rfl, P_goOn wf r1 hq ho (by rw [f1]; exact hv) (by decide), r0_s]
    have C2 : frS (s4n q) M (goM a (cpM M q o) q o 0) := frS_t C1 goM_fr
    have r2 := cx_fr (frS_w C2 s4n_s4) r
    rw [P_kAfter (r2.1.2.1 q hq) (by omega), r1_s, af_nx (by rw [q10]; decide), P_fReach (nx17 _), r0_s]
    have ew : ∀ w, wyF a q o w = w := fun w => by unfold wyF; rw [if_neg (by rw [q10]; decide)]
    have hnw : ∀ i, i < 9 → nwC (goM a (cpM M q o) q o 0) q i = trF a q o 0 ((fC M q).2 o) i := by
      refine by9 (fun i hi => ?_) (fun i hi => ?_)
      · rw [nwC_n hi, goM_n, cpM_n hi, trF_n hi, nm_id (Or.inr (Or.inl q10))]
      · rw [nwC_s, goM_s, cpM_s hi, trF_s, f1, ew]
    obtain ⟨h1, h2⟩ := one _ false _ C2 hnw
    have f2 : ∀ i, i < 9 → (fC (rch (goM a (cpM M q o) q o 0) q (nxO a q o false)) q).2 o i = (fC M q).2 o i := by
      intro i hi
      rw [h1.2.1 o i hi, jnF_o]
      have : nxO a q o false = if o + 1 < onA a q then o + 1 else onA a q := (af_nx (by rw [q10]; decide)).symm
      rw [this]
      split <;> omega
    have r3 := cx_fr (frS_w h2 s4f_4) r
    have hv3 : okV a q ((fC (rch (goM a (cpM M q o) q o 0) q (nxO a q o false)) q).2 o) := okV_e f2 hv
    rw [show (1 : Int32) = nI 1 from rfl, P_goOn wf r3 hq ho hv3 (by decide), r0_s]
    have C3 : frS (s4n q) (rch (goM a (cpM M q o) q o 0) q (nxO a q o false)) (goM a (rch (goM a (cpM M q o) q o 0) q (nxO a q o false)) q o 1) := goM_fr
    have r4 := cx_fr (frS_w C3 s4n_s4) r3
    rw [P_kJump (r4.1.2.1 q hq) (by omega), r1_s, jm_nx wf hq ho (Or.inl q10), P_fReach (nx17 _), r0_s]
    have hs0 : ∀ v w : Nat → Int32, (∀ i, i < 9 → v i = w i) → sF0 a q o v = sF0 a q o w ∧ tF a q o v = tF a q o w := by
      intro v w h
      have : sF0 a q o v = sF0 a q o w := by
        unfold sF0
        by_cases z : ndK (opW a q o) = -1
        · rw [if_pos z, if_pos z]
        · rw [if_neg z, if_neg z]
          exact h _ (by have := (xN_nd ok z).1; omega)
      exact ⟨this, by unfold tF; rw [this]⟩
    have hnw2 : ∀ i, i < 9 → nwC (goM a (rch (goM a (cpM M q o) q o 0) q (nxO a q o false)) q o 1) q i = trF a q o 1 ((fC M q).2 o) i := by
      refine by9 (fun i hi => ?_) (fun i hi => ?_)
      · rw [nwC_n hi, goM_n, rch_fr (by omega), goM_n, cpM_n hi, trF_n hi, nm_id (Or.inr (Or.inl q10))]
      · rw [nwC_s, goM_s, (hs0 _ _ f2).1, (hs0 _ _ f2).2, rch_fr (by omega), goM_s, cpM_s hi, trF_s, f1, ew]
        by_cases z : tF a q o ((fC M q).2 o) = true ∧ i = xN a q o
        · rw [if_pos z, if_pos z]
        · rw [if_neg z, if_neg z, if_neg z]
    have hR := rch_R (M := goM a (rch (goM a (cpM M q o) q o 0) q (nxO a q o false)) q o 1) (q := q) (nx17 true)
    rw [fC_now C3] at hR
    have ec : chC (goM a (rch (goM a (cpM M q o) q o 0) q (nxO a q o false)) q o 1) q = chC (rch (goM a (cpM M q o) q o 0) q (nxO a q o false)) q := by unfold chC; rw [chC_now C3]
    rw [ec] at hR
    exact ⟨_, rfl, frS_t h2 (frS_t (frS_w C3 s4n_f) rch_s4), Or.inr ⟨by rw [q10]; decide, _, _, _, hnw, h1, Or.inr ⟨Or.inl q10, _, hnw2, hR⟩⟩⟩
  rw [if_neg q10]
  by_cases q11 : opW a q o = 11
  · -- MAYBE
    have nd : ndK (opW a q o) = -1 := by rw [q11]; rfl
    have hnw : ∀ w i, i < 9 → nwC (cpM M q o) q i = trF a q o w ((fC M q).2 o) i := by
      intro w
      refine by9 (fun i hi => ?_) (fun i hi => ?_)
      · rw [nwC_n hi, cpM_n hi, trF_n hi, nm_id (Or.inr (Or.inr (Or.inl q11)))]
      · rw [nwC_s, cpM_s hi, trF_s, tF_f nd, if_neg (fun z => by cases z.1)]
    rw [if_pos q11, P_kAfter k1 (by omega), r1_s, af_nx (by rw [q11]; decide), P_fReach (nx17 _), r0_s]
    obtain ⟨h1, h2⟩ := one _ false _ C1 (hnw 0)
    have r3 := cx_fr (frS_w h2 s4f_4) r
    rw [P_kJump (r3.1.2.1 q hq) (by omega), r1_s, jm_nx wf hq ho (Or.inr (Or.inl q11)), P_fReach (nx17 _), r0_s]
    have hR := rch_R (M := rch (cpM M q o) q (nxO a q o false)) (q := q) (nx17 true)
    have hnw2 : ∀ i, i < 9 → nwC (rch (cpM M q o) q (nxO a q o false)) q i = trF a q o 1 ((fC M q).2 o) i := by
      intro i hi
      rw [← hnw 1 i hi]
      unfold nwC
      rw [rch_fr (by omega), rch_fr (by omega)]
    exact ⟨_, rfl, frS_t h2 rch_s4, Or.inr ⟨by rw [q11]; decide, _, _, _, hnw 0, h1, Or.inr ⟨Or.inr q11, _, hnw2, hR⟩⟩⟩
  rw [if_neg q11]
  by_cases q12 : opW a q o = 12
  · -- JUMP
    have nd : ndK (opW a q o) = -1 := by rw [q12]; rfl
    have hnw : ∀ i, i < 9 → nwC (cpM M q o) q i = trF a q o 0 ((fC M q).2 o) i := by
      refine by9 (fun i hi => ?_) (fun i hi => ?_)
      · rw [nwC_n hi, cpM_n hi, trF_n hi, nm_id (Or.inr (Or.inr (Or.inr (Or.inl q12))))]
      · rw [nwC_s, cpM_s hi, trF_s, tF_f nd, if_neg (fun z => by cases z.1)]
    have en : nxO a q o true = nxO a q o false := by unfold nxO; rw [if_pos (Or.inr rfl), if_pos (Or.inl q12)]
    rw [if_pos q12, P_kJump k1 (by omega), r1_s, jm_nx wf hq ho (Or.inr (Or.inr q12)), en, P_fReach (nx17 _), r0_s]
    obtain ⟨h1, h2⟩ := one _ false _ C1 hnw
    exact ⟨_, rfl, h2, Or.inr ⟨by rw [q12]; decide, _, _, _, hnw, h1, Or.inl ⟨by unfold otO; rw [q12]; decide, rfl, rfl⟩⟩⟩
  rw [if_neg q12]
  by_cases q13 : opW a q o = 13
  · rw [if_pos q13]
    exact ⟨_, rfl, frS_w C1 s4n_f, Or.inl ⟨q13, f1, by unfold chC; rw [chC_now C1]⟩⟩
  · rw [if_neg q13]
    have hnot : ¬ (opW a q o = 9 ∨ opW a q o = 10 ∨ opW a q o = 11 ∨ opW a q o = 12 ∨ opW a q o = 13) := fun z => by
      rcases z with z | z | z | z | z
      · exact q9 z
      · exact q10 z
      · exact q11 z
      · exact q12 z
      · exact q13 z
    obtain ⟨N, hN, hNf, hNn⟩ := P_fChange (sc := sc) wf r1 hq ho (by rw [f1]; exact hv) (fun i hi => by rw [f1]; exact cpM_n hi) hnot
    have C2 : frS (s4n q) M N := frS_t C1 (frS_w hNf s47_n)
    have r2 := cx_fr (frS_w C2 s4n_s4) r
    have f2 : fC N q = fC M q := fC_now C2
    rw [hN, r0_s, show (0 : Int32) = nI 0 from rfl, P_goOn wf r2 hq ho (by rw [f2]; exact hv) (by decide), r0_s]
    have C3 : frS (s4n q) M (goM a N q o 0) := frS_t C2 goM_fr
    have r3 := cx_fr (frS_w C3 s4n_s4) r
    rw [P_kAfter (r3.1.2.1 q hq) (by omega), r1_s, af_nx q12, P_fReach (nx17 _), r0_s]
    have hnw : ∀ i, i < 9 → nwC (goM a N q o 0) q i = trF a q o 0 ((fC M q).2 o) i := by
      refine by9 (fun i hi => ?_) (fun i hi => ?_)
      · rw [nwC_n hi, goM_n, hNn i hi, trF_n hi, f1]
      · rw [nwC_s, goM_s, hNf.2 _ _ _ _ (fun z => by unfold s47 at z; omega), cpM_s hi, trF_s, f2]
        have ew : wyF a q o 0 = 0 := by unfold wyF; rw [if_neg q9]
        rw [ew]
    obtain ⟨h1, h2⟩ := one _ false _ C3 hnw
    exact ⟨_, rfl, h2, Or.inr ⟨q13, _, _, _, hnw, h1, Or.inl ⟨fun z => z.elim q10 q11, rfl, rfl⟩⟩⟩
