/-! LEVEL B: flows: the class's ops: what is behind an op -/
/-- memories that differ in the cells S alone -/
def frS (S : Nat → Nat → Nat → Nat → Prop) (M N : sm_M) : Prop := N.2 = M.2 ∧ ∀ c p j i, ¬ S c p j i → N.1 c p j i = M.1 c p j i
theorem frS_r {S : Nat → Nat → Nat → Nat → Prop} {M : sm_M} : frS S M M := ⟨rfl, fun _ _ _ _ _ => rfl⟩
theorem frS_t {S : Nat → Nat → Nat → Nat → Prop} {M N O : sm_M} (h : frS S M N) (h2 : frS S N O) : frS S M O := ⟨h2.1.trans h.1, fun c p j i z => (h2.2 c p j i z).trans (h.2 c p j i z)⟩
theorem frS_w {S T : Nat → Nat → Nat → Nat → Prop} {M N : sm_M} (h : frS S M N) (w : ∀ c p j i, S c p j i → T c p j i) : frS T M N := ⟨h.1, fun c p j i z => h.2 c p j i (fun y => z (w c p j i y))⟩
theorem frS_u {S : Nat → Nat → Nat → Nat → Prop} {M : sm_M} {c p j i : Nat} {x : Int32} (h : S c p j i) : frS S M (sm_u M c p j i x) := ⟨rfl, fun c' p' j' i' z => by
  rw [u_1, if_neg]
  rintro ⟨rfl, rfl, rfl, rfl⟩
  exact z h⟩
theorem frS_tag {S : Nat → Nat → Nat → Nat → Prop} {M N : sm_M} (h : frS S M N) {c : Nat} (hc : ∀ p j i, ¬ S c p j i) : N.1 c = M.1 c := by
  funext p j i
  exact h.2 c p j i (hc p j i)
theorem rTel_fr {S : Nat → Nat → Nat → Nat → Prop} {a : Nat → Nat → Int32} {M N : sm_M} (h : frS S M N) (hS : ∀ c p j i, S c p j i → ¬ (c = 1 ∨ c = 2 ∨ c = 8)) (r : rTel a M) : rTel a N :=
  rTel_M r (frS_tag h (fun p j i z => hS 1 p j i z (Or.inl rfl))) (frS_tag h (fun p j i z => hS 2 p j i z (Or.inr (Or.inl rfl)))) (frS_tag h (fun p j i z => hS 8 p j i z (Or.inr (Or.inr rfl))))
/-- the cells that finding changes in the class, of one process -/
def s4 (q c p j i : Nat) : Prop := c = 4 ∧ p = q ∧ ¬ (j = 0 ∧ i = 0)
/-- the cells of what is now -/
def s4n (q c p j _i : Nat) : Prop := c = 4 ∧ p = q ∧ (j = 7 ∨ j = 8)
/-- what the class's flow of a process rests on -/
def cx (a : Nat → Nat → Int32) (M : sm_M) (q : Nat) : Prop := rTel a M ∧ M.1 4 q 0 0 = nI q
theorem cx_fr {a : Nat → Nat → Int32} {M N : sm_M} {q : Nat} (h : frS (s4 q) M N) (r : cx a M q) : cx a N q :=
  ⟨rTel_fr h (fun c p j i z => by unfold s4 at z; omega) r.1, (h.2 4 q 0 0 (fun z => z.2.2 ⟨rfl, rfl⟩)).trans r.2⟩
theorem s4n_s4 {q : Nat} : ∀ c p j i, s4n q c p j i → s4 q c p j i := fun c p j i h => ⟨h.1, h.2.1, fun z => by unfold s4n at h; omega⟩
/-- a step's number or none -/
def stOk (s : Int32) : Prop := s < 0 ∨ ∃ k, k < 8 ∧ s = nI k
theorem P_aF {sc : Nat × (Nat → Int32)} {a : Nat → Nat → Int32} {M : sm_M} (r : rCh a M) {c p : Nat} {s : Int32} (hc : c < 3) (hp : p < 3) (hs : stOk s) : dn sc kChannels_askedOf 0 [.inr (.inr (1, 0, 0)), .inl (nI p), .inl (nI c), .inl s] [] M = some (0, .inl (aF a p c s), M) := by
  unfold aF
  by_cases q : s < 0
  · rw [P_asked_n q, if_neg (fun z => z.2 q)]
  · obtain ⟨k, hk, rfl⟩ := hs.resolve_left q
    by_cases q2 : c < cnA a
    · rw [P_asked r q2 hp hk, if_pos ⟨q2, q⟩, i_cl (by omega)]
    · rw [P_asked_c r (by omega) hc, if_neg (fun z => q2 z.1)]
theorem P_suit {sc : Nat × (Nat → Int32)} {a : Nat → Nat → Int32} {M : sm_M} (r : rCh a M) {c p : Nat} {s w : Int32} (hc : c < 3) (hp : p < 3) (hs : stOk s) : dn sc kChannels_suit 0 [.inr (.inr (1, 0, 0)), .inl (nI p), .inl w, .inl (nI c), .inl s] [] M = some (0, .inl (bI (atF a p w c s)), M) := by
  rw [E_Channels_suit_0, P_kNeeded, r1_s]
  unfold atF
  by_cases q : ndK w = -1
  · rw [if_pos q, decide_eq_false (fun z => z q)]; rfl
  · rw [if_neg q, P_aF r hc hp hs, r1_s, ite_1, decide_eq_true q, Bool.true_and]
theorem P_suit_n {sc : Nat × (Nat → Int32)} {M : sm_M} {c p s w : Int32} (h : ndK w = -1) : dn sc kChannels_suit 0 [.inr (.inr (1, 0, 0)), .inl p, .inl w, .inl c, .inl s] [] M = some (0, .inl 0, M) := by
  rw [E_Channels_suit_0, P_kNeeded, r1_s, if_pos h]
theorem okC_st {a : Nat → Nat → Int32} (wf : wfA a) {p c : Nat} {s : Int32} (h : okC a p c s) : stOk s := by
  cases e : ofA a c p with
  | false => rw [h.2 e]; exact Or.inl (by decide)
  | true =>
    rcases h.1 e with z | ⟨k, hk, z⟩
    · rw [z]; exact Or.inl (by decide)
    · unfold ofA at e
      rw [Bool.and_eq_true, decide_eq_true_eq] at e
      have h1 := wf.2.2.2.2 c e.1
      have := (wf.1 _ h1.2.2.2.1).2.1
      exact Or.inr ⟨k, by omega, z⟩
theorem okO_nd {W X Y : Int32} (h : okO W X Y = true) (q : ¬ ndK W = -1) : X.toNatClampNeg < 3 ∧ X = nI X.toNatClampNeg := by
  obtain ⟨c0, c1, c2, c7, c9, c10, c11, _, cX, cY, _⟩ := okO_c h
  unfold ndK at q
  by_cases q7 : W = 7
  · exact ⟨(c7 (Or.inl q7)).1, cX (by simp only [q7]; decide)⟩
  rw [if_neg q7] at q
  by_cases q8 : W = 8
  · exact ⟨(c7 (Or.inr q8)).1, cX (by simp only [q8]; decide)⟩
  rw [if_neg q8] at q
  by_cases q9 : W = 9
  · exact ⟨(c9 q9).1, cX (by simp only [q9]; decide)⟩
  rw [if_neg q9] at q
  by_cases q10 : W = 10
  · exact ⟨(c10 q10).1, cX (by simp only [q10]; decide)⟩
  rw [if_neg q10] at q
  exact absurd rfl q
theorem xN_nd {a : Nat → Nat → Int32} {p o : Nat} (h : okO (opW a p o) (opX a p o) (opY a p o) = true) (q : ¬ ndK (opW a p o) = -1) : xN a p o < 3 ∧ opX a p o = nI (xN a p o) := okO_nd h q
/-- what an op's numbers are in the class -/
theorem whK_i {n : Nat} {W : Nat → Int32} {i : Nat} (h : i < n) : whK n W i = W i := if_pos h
theorem abK_i {n : Nat} {W : Nat → Int32} {i : Nat} (h : i < n) : abK n W i = W i := if_pos h
/-- where the class's channel goes on -/
def goM (a : Nat → Nat → Int32) (M : sm_M) (q o w : Nat) : sm_M := if tF a q o ((fC M q).2 o) = true then sm_u M 4 q 8 (xN a q o) (nxS (wA a (prA a (xN a q o))) (kA a (prA a (xN a q o))) (bA a (prA a (xN a q o))) (sF0 a q o ((fC M q).2 o)).toNatClampNeg w) else M
theorem fC_s {M : sm_M} {q o c : Nat} : (fC M q).2 o (6 + c) = M.1 4 q 5 (o * 3 + c) := by
  unfold fC
  dsimp only
  rw [if_neg (by omega), Nat.add_sub_cancel_left]
theorem fC_n {M : sm_M} {q o i : Nat} (hi : i < 6) : (fC M q).2 o i = M.1 4 q 4 (o * 6 + i) := by
  unfold fC
  dsimp only
  rw [if_pos hi]
theorem P_goOn {sc : Nat × (Nat → Int32)} {a : Nat → Nat → Int32} {M : sm_M} {q o w : Nat} (wf : wfA a) (r : cx a M q) (hq : q < 3) (ho : o < onA a q) (hv : okV a q ((fC M q).2 o)) (hw : w < 2) : dn sc kFlow_goOn 0 [.inr (.inr (4, q, 0)), .inl (nI o), .inl (nI w)] [] M = some (0, .inl 0, goM a M q o w) := by
  obtain ⟨⟨_, r2, r3⟩, rq⟩ := r
  have rk := r2 q hq
  have h16 := (wf.2.1 q hq).2.1
  have ok := (wf.2.1 q hq).2.2 o ho
  rw [E_Flow_goOn_0, P_kChannel rk (by omega), r1_s, whK_i ho, abK_i ho]
  unfold goM chK
  by_cases q1 : ndK (opW a q o) = -1
  · have e : tF a q o ((fC M q).2 o) = false := by unfold tF atF; rw [decide_eq_false (fun z => z q1)]; rfl
    rw [if_pos q1, P_fStep_n (by omega), r1_s, P_within, r1_s, if_pos (by decide), e, if_neg (by decide)]
  · obtain ⟨x1, x2⟩ := xN_nd ok q1
    have e0 : sF0 a q o ((fC M q).2 o) = M.1 4 q 5 (o * 3 + xN a q o) := by unfold sF0; rw [if_neg q1, fC_s]
    have hst := okC_st wf (hv.2 (xN a q o) x1)
    rw [fC_s] at hst
    rw [if_neg q1, show opX a q o = nI (xN a q o) from x2, P_fStep (by omega) x1, r1_s, P_within, r1_s, show (3 : Int32) = nI 3 from rfl, within_nI (show xN a q o < 2147483648 from by omega) (by decide), decide_eq_true (show xN a q o < 3 from x1), if_neg (show ¬ bI true = 0 by decide), P_kWhat rk (by omega), r1_s, whK_i ho, rq, P_suit r3 x1 hq hst, r1_s]
    cases ht : atF a q (opW a q o) (xN a q o) (M.1 4 q 5 (o * 3 + xN a q o)) with
    | false =>
      have e : tF a q o ((fC M q).2 o) = false := by unfold tF; rw [e0]; exact ht
      rw [if_pos (show bI false = 0 from rfl), e, if_neg (show ¬ false = true by decide)]
    | true =>
      have e : tF a q o ((fC M q).2 o) = true := by unfold tF; rw [e0]; exact ht
      obtain ⟨t1, t2, t3, t4, t5, t6, t7⟩ := tF_t e
      rw [if_neg (show ¬ bI true = 0 by decide), e, if_pos rfl, e0]
      rw [fC_s] at t4 t7
      obtain ⟨k, hk, ek⟩ := hst.resolve_left t4
      rw [ek, i_cl (by omega)] at t7
      rw [ek, P_cNext r3 t2 t7 hw, r1_s, i_ib x1 (by decide), if_pos rfl, i_cl (show xN a q o < 2147483648 from by omega), i_cl (by omega)]
theorem goM_fr {a : Nat → Nat → Int32} {M : sm_M} {q o w : Nat} : frS (s4n q) M (goM a M q o w) := by
  unfold goM
  split
  · exact frS_u ⟨rfl, rfl, Or.inr rfl⟩
  · exact frS_r
theorem goM_n {a : Nat → Nat → Int32} {M : sm_M} {q o w i : Nat} : (goM a M q o w).1 4 q 7 i = M.1 4 q 7 i := by
  unfold goM
  split
  · rw [u_1, if_neg (by omega)]
  · rfl
theorem goM_s {a : Nat → Nat → Int32} {M : sm_M} {q o w i : Nat} : (goM a M q o w).1 4 q 8 i = if tF a q o ((fC M q).2 o) = true ∧ i = xN a q o then nxS (wA a (prA a (xN a q o))) (kA a (prA a (xN a q o))) (bA a (prA a (xN a q o))) (sF0 a q o ((fC M q).2 o)).toNatClampNeg w else M.1 4 q 8 i := by
  unfold goM
  by_cases e : tF a q o ((fC M q).2 o) = true
  · rw [if_pos e, u_1]
    by_cases e2 : i = xN a q o
    · rw [if_pos ⟨rfl, rfl, rfl, e2⟩, if_pos ⟨e, e2⟩]
    · rw [if_neg (fun z => e2 z.2.2.2), if_neg (fun z => e2 z.2)]
  · rw [if_neg e, if_neg (fun z => e z.1)]
theorem P_fOwner (sc : Nat × (Nat → Int32)) (M : sm_M) (u : Int32) : dn sc kFlow_isOwner 0 [.inl u] [] M = some (0, .inl (bI (owB u)), M) := by
  rw [E_Flow_isOwner_0]
  unfold owB
  by_cases q : u < 1
  · rw [if_pos q, decide_eq_true q]; rfl
  · rw [if_neg q, decide_eq_false q, ite_1]; rfl
theorem P_fShared (sc : Nat × (Nat → Int32)) (M : sm_M) (u : Int32) : dn sc kFlow_isShared 0 [.inl u] [] M = some (0, .inl (bI (shB u)), M) := by
  rw [E_Flow_isShared_0]
  unfold shB
  by_cases q : u < 10
  · rw [if_pos q, decide_eq_true q]; rfl
  · rw [if_neg q, decide_eq_false q, ite_1]; rfl
theorem P_fLent (sc : Nat × (Nat → Int32)) (M : sm_M) (u : Int32) : dn sc kFlow_isLent 0 [.inl u] [] M = some (0, .inl (bI (ltB u)), M) := by
  rw [E_Flow_isLent_0, ite_0]; rfl
def tkB (u : Int32) : Bool := decide (1 < u) && !shB u
theorem P_fTaken (sc : Nat × (Nat → Int32)) (M : sm_M) (u : Int32) : dn sc kFlow_isTakenAway 0 [.inl u] [] M = some (0, .inl (bI (tkB u)), M) := by
  rw [E_Flow_isTakenAway_0]
  unfold tkB
  by_cases q : 1 < u
  · rw [if_pos q, P_fShared, r1_s, decide_eq_true q]
    cases shB u <;> rfl
  · rw [if_neg q, decide_eq_false q]; rfl
theorem tkB_kp : ∀ k, k < 26 → (if tkB (nI k) = true then (0 : Int32) else nI k) = kpN (nI k) := by decide
theorem ow_sh {u : Int32} : (if shB u = true then u else if owB u = true then (10 : Int32) else 0) = if owB u = true then (if shB u = true then u else 10) else if shB u = true then u else 0 := by
  cases shB u <;> cases owB u <;> rfl
theorem ow_nsh : ∀ k, k < 26 → owB (nI k) = true → shB (nI k) = false := by decide
