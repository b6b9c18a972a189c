/-! LEVEL B: what is found is asked for, on both sides -/
/-- what stands of what was told and found -/
def BI (a : Nat → Nat → Int32) (M : sm_M) : Prop := rTel a M ∧ wfA a ∧ cr a M ∧ (∀ q, q < 3 → M.1 4 q 0 0 = nI q ∧ (M.1 4 q 0 10 = 0 ∨ knC a M q)) ∧ M.1 10 0 0 18 = 0 ∧ (M.1 10 0 0 13 = 0 ∨ ∀ p, p < 3 → knR a M p)
def s4a (c _p j i : Nat) : Prop := c = 4 ∧ ¬ (j = 0 ∧ i = 0)
def s10g (c p j i : Nat) : Prop := s10f c p j i ∨ (c = 10 ∧ p = 0 ∧ j = 0 ∧ i = 0)
theorem knC_tag {a : Nat → Nat → Int32} {M N : sm_M} {q : Nat} (h : ∀ j i, N.1 4 q j i = M.1 4 q j i) (k : knC a M q) : knC a N q := by
  have e1 : fC N q = fC M q := by
    unfold fC
    rw [h]
    refine Prod.ext rfl ?_
    funext k i
    dsimp only
    rw [h, h]
  have e2 : LvC N q = LvC M q := by
    funext j
    unfold LvC
    rw [h]
  obtain ⟨k1, k2, k3, k4⟩ := k
  exact ⟨by rw [e1]; exact k1, by rw [e2]; exact k2, by rw [h]; exact k3, by rw [h]; exact k4⟩
theorem knR_tag {a : Nat → Nat → Int32} {M N : sm_M} {p : Nat} (h : ∀ j i, (j = 15 ∨ j = 16 ∨ j = 17) → N.1 10 0 j i = M.1 10 0 j i) (k : knR a M p) : knR a N p := by
  have e1 : fR N p = fR M p := by
    unfold fR
    refine Prod.ext ?_ ?_
    · funext k
      dsimp only
      rw [h _ _ (Or.inl rfl)]
    · funext k i
      dsimp only
      rw [h _ _ (Or.inr (Or.inr rfl))]
  have e2 : LvR N p = LvR M p := by
    funext j
    unfold LvR
    rw [h _ _ (Or.inr (Or.inl rfl))]
  exact ⟨by rw [e1]; exact k.1, by rw [e2]; exact k.2⟩
/-- what BI asks of -/
def sBI (c p j i : Nat) : Prop := c = 1 ∨ c = 2 ∨ c = 8 ∨ c = 4 ∨ (c = 10 ∧ p = 0 ∧ ((j = 0 ∧ (i = 5 ∨ i = 13 ∨ i = 18)) ∨ (2 ≤ j ∧ j ≤ 13) ∨ j = 15 ∨ j = 16 ∨ j = 17))
theorem BI_fr {S : Nat → Nat → Nat → Nat → Prop} {a : Nat → Nat → Int32} {M N : sm_M} (h : frS S M N) (hS : ∀ c p j i, S c p j i → ¬ sBI c p j i) (b : BI a M) : BI a N := by
  obtain ⟨b1, b2, b3, b4, b5, b6⟩ := b
  have e : ∀ c p j i, sBI c p j i → N.1 c p j i = M.1 c p j i := fun c p j i z => h.2 c p j i (fun y => hS c p j i y z)
  refine ⟨rTel_fr h (fun c p j i y z => hS c p j i y (by unfold sBI; omega)) b1, b2, cr_fr h (fun j i y => ⟨fun z => hS _ _ _ _ y (by unfold sBI; omega), fun z => hS _ _ _ _ y (by unfold sBI; omega)⟩) b3, fun q hq => ?_, (e _ _ _ _ (by unfold sBI; omega)).trans b5, ?_⟩
  · obtain ⟨k1, k2⟩ := b4 q hq
    refine ⟨(e _ _ _ _ (by unfold sBI; omega)).trans k1, k2.imp (fun z => (e _ _ _ _ (by unfold sBI; omega)).trans z) (fun z => knC_tag (fun j i => e _ _ _ _ (by unfold sBI; omega)) z)⟩
  · exact b6.imp (fun z => (e _ _ _ _ (by unfold sBI; omega)).trans z) (fun z p hp => knR_tag (fun j i hj => e _ _ _ _ (by unfold sBI; omega)) (z p hp))
theorem BI_eq {a : Nat → Nat → Int32} {M N : sm_M} (h : eqT M N) (b : BI a M) : BI a N := by
  obtain ⟨b1, b2, b3, b4, b5, b6⟩ := b
  have e : ∀ c p j i, c ≤ 10 → N.1 c p j i = M.1 c p j i := fun c p j i hc => by rw [(h c hc).1]
  refine ⟨rTel_M b1 (h 1 (by decide)).1 (h 2 (by decide)).1 (h 8 (by decide)).1, b2, ⟨(e _ _ _ _ (by decide)).trans b3.1, fun j h2 h13 => ?_⟩, fun q hq => ?_, (e _ _ _ _ (by decide)).trans b5, ?_⟩
  · rw [← b3.2 j h2 h13]
    funext i
    exact e _ _ _ _ (by decide)
  · obtain ⟨k1, k2⟩ := b4 q hq
    exact ⟨(e _ _ _ _ (by decide)).trans k1, k2.imp (fun z => (e _ _ _ _ (by decide)).trans z) (fun z => knC_tag (fun j i => e _ _ _ _ (by decide)) z)⟩
  · exact b6.imp (fun z => (e _ _ _ _ (by decide)).trans z) (fun z p hp => knR_tag (fun j i hj => e _ _ _ _ (by decide)) (z p hp))
theorem BI_cx {a : Nat → Nat → Int32} {M : sm_M} (b : BI a M) {q : Nat} (hq : q < 3) : cx a M q := ⟨b.1, (b.2.2.2.1 q hq).1⟩
theorem BI_find {sc : Nat × (Nat → Int32)} {a : Nat → Nat → Int32} {M : sm_M} (b : BI a M) {q : Nat} (hq : q < 3) :
    ∃ M1, dn sc kFlow_find 0 [.inr (.inr (4, q, 0))] [] M = some (0, .inr (.inr (4, q, 0)), M1) ∧ frS s4a M M1 ∧ BI a M1 ∧ knC a M1 q := by
  obtain ⟨N, h1, h2, h3⟩ := P_fFind (sc := sc) b.2.1 (BI_cx b hq) hq (b.2.2.2.1 q hq).2
  have hw : frS s4a M N := frS_w h2 (fun c p j i z => ⟨z.1, z.2.2⟩)
  refine ⟨N, h1, hw, ?_, h3⟩
  obtain ⟨b1, b2, b3, b4, b5, b6⟩ := b
  refine ⟨rTel_fr h2 (fun c p j i z => by unfold s4 at z; omega) b1, b2, cr_fr h2 (fun j i z => by unfold s4 at z; omega) b3, fun q' hq' => ?_, (h2.2 _ _ _ _ (fun z => by unfold s4 at z; omega)).trans b5, ?_⟩
  · by_cases z : q' = q
    · subst z
      exact ⟨(h2.2 _ _ _ _ (fun z => z.2.2 ⟨rfl, rfl⟩)).trans (b4 q' hq').1, Or.inr h3⟩
    · have e : ∀ j i, N.1 4 q' j i = M.1 4 q' j i := fun j i => h2.2 _ _ _ _ (fun y => z y.2.1)
      exact ⟨(e _ _).trans (b4 q' hq').1, (b4 q' hq').2.imp (fun y => (e _ _).trans y) (fun y => knC_tag e y)⟩
  · exact b6.imp (fun z => (h2.2 _ _ _ _ (fun y => by unfold s4 at y; omega)).trans z) (fun z p hp => knR_tag (fun j i hj => h2.2 _ _ _ _ (fun y => by unfold s4 at y; omega)) (z p hp))
theorem BI_f {a : Nat → Nat → Int32} {N N' : sm_M} (b : BI a N) (h2 : frS s10f N N') (h3 : N'.1 10 0 0 18 = 0) (h5 : ∀ p, p < 3 → knR a N' p) : BI a N' := by
  obtain ⟨b1, b2, b3, b4, b5, b6⟩ := b
  refine ⟨rTel_fr h2 (fun c p j i z => by unfold s10f at z; omega) b1, b2, cr_f h2 b3, fun q hq => ?_, h3, Or.inr h5⟩
  have e : ∀ j i, N'.1 4 q j i = N.1 4 q j i := fun j i => h2.2 _ _ _ _ (fun y => by unfold s10f at y; omega)
  exact ⟨(e _ _).trans (b4 q hq).1, (b4 q hq).2.imp (fun y => (e _ _).trans y) (fun y => knC_tag e y)⟩
theorem BI_all {sc : Nat × (Nat → Int32)} {a : Nat → Nat → Int32} {N : sm_M} (b : BI a N) :
    ∃ N', dn sc kModel_findsAll 0 [.inr (.inr (10, 0, 0))] [] N = some (0, .inl 0, N') ∧ frS s10f N N' ∧ BI a N' ∧ ∀ p, p < 3 → knR a N' p := by
  obtain ⟨N', h1, h2, h3, h4, h5⟩ := P_mAll (sc := sc) b.2.1 b.2.2.1 b.2.2.2.2.1 b.2.2.2.2.2
  exact ⟨N', h1, h2, BI_f b h2 h3 h5, h5⟩
theorem BI_first {sc : Nat × (Nat → Int32)} {a : Nat → Nat → Int32} {N : sm_M} (b : BI a N) {p : Nat} (hp : p < 3) :
    ∃ N', dn sc kModel_firstError 0 [.inr (.inr (10, 0, 0)), .inl (nI p)] [] N = some (0, .inl (cO a p), N') ∧ frS s10f N N' ∧ BI a N' ∧ ∀ p, p < 3 → knR a N' p := by
  obtain ⟨N', h1, h2, h3, h4, h5⟩ := P_mFirst (sc := sc) b.2.1 b.2.2.1 hp b.2.2.2.2.1 b.2.2.2.2.2
  exact ⟨N', h1, h2, BI_f b h2 h3 h5, h5⟩
theorem thr_fr {N : sm_M} {x : Int32} : frS s10g N (sm_u N 10 0 0 0 x) := frS_u (Or.inr ⟨rfl, rfl, rfl, rfl⟩)
theorem BI_thr {a : Nat → Nat → Int32} {N : sm_M} {x : Int32} (b : BI a N) : BI a (sm_u N 10 0 0 0 x) := BI_fr (S := fun c p j i => c = 10 ∧ p = 0 ∧ j = 0 ∧ i = 0) (frS_u ⟨rfl, rfl, rfl, rfl⟩) (fun c p j i z => by unfold sBI; omega) b
/-- a call on both sides: the class's, then the reference's behind it; mp: what the reference tells of what the class throws -/
def SIM (dC : Option sm_R) (dR : sm_M → Option sm_R) (mp : Nat → Int32) (a : Nat → Nat → Int32) (M : sm_M) : Prop :=
  ∃ e x M1, dC = some (e, .inl x, M1) ∧ frS s4a M M1 ∧ ∀ N, eqT M1 N → ∃ y N1, dR N = some (0, .inl y, N1) ∧ N1.1 10 0 0 0 = mp e ∧ (e = 0 → x = y) ∧ frS s10g N N1 ∧ BI a N1
theorem in_wN {x : Int32} {n : Nat} (hn : n < 100) : (!decide (x < 0) && !decide (nI n < x)) = wN x (nI (n + 1)) := by
  unfold wN
  by_cases z : x < 0
  · rw [decide_eq_true z]; rfl
  · obtain ⟨k, hk, rfl⟩ := nI_of z
    have : (!decide (nI n < nI k)) = decide (nI k < nI (n + 1)) := by
      rw [← decide_not]
      refine decide_eq_decide.mpr ?_
      rw [i_lt (by omega) hk, i_lt hk (by omega)]
      omega
    rw [this]
theorem in_wN1 {x : Int32} {n : Nat} (hn : n < 100) : (!decide (x < 0) && !decide (dI n < x)) = wN x (nI n) := by
  unfold wN
  by_cases z : x < 0
  · rw [decide_eq_true z]; rfl
  · obtain ⟨k, hk, rfl⟩ := nI_of z
    have : (!decide (dI n < nI k)) = decide (nI k < nI n) := by
      rw [← decide_not]
      refine decide_eq_decide.mpr ?_
      cases n with
      | zero =>
        rw [i_lt hk (by omega)]
        refine ⟨fun h => absurd ?_ h, fun h => by omega⟩
        show (-1 : Int32) < nI k
        rw [Int32.lt_iff_toInt_lt, nI_toInt hk, show (-1 : Int32).toInt = -1 from rfl]
        omega
      | succ n =>
        show ¬ nI n < nI k ↔ _
        rw [i_lt (by omega) hk, i_lt hk (by omega)]
        omega
    rw [this]
theorem S_check {sc : Nat × (Nat → Int32)} {a : Nat → Nat → Int32} {M : sm_M} (b : BI a M) (p : Int32) : SIM (dn sc kTop_check 0 [.inr (.inr (9, 0, 0)), .inl p] [] M) (fun N => dn sc kModel_check 0 [.inr (.inr (10, 0, 0)), .inl p] [] N) nI a M := by
  unfold SIM
  rw [E_Top_check_0, P_within, r1_s]
  have e3t : ∀ N, dn sc kModel_check 3 [.inr (.inr (10, 0, 0)), .inl p] [.inl 1, .inr (.inr (10, 0, 0))] N = some (0, .inl 0, sm_u N 10 0 0 0 1) := fun N => by rw [E_Model_check_3, u_hit, if_pos (by decide)]
  cases hp : wN p 3 with
  | false =>
    refine ⟨1, 0, M, ?_, frS_r, fun N hN => ⟨0, sm_u N 10 0 0 0 1, ?_, u_hit, fun h => by omega, thr_fr, BI_thr (BI_eq hN b)⟩⟩
    · rw [show (!decide (p < 0) && decide (p < 3)) = wN p 3 from rfl, hp, if_pos (show bI false = 0 from rfl)]
    · dsimp only; rw [E_Model_check_0, P_isThird, r1_s, show (!decide (p < 0) && decide (p < 3)) = wN p 3 from rfl, hp, if_pos (show bI false = 0 from rfl), e3t]
  | true =>
    obtain ⟨k, hk, rfl⟩ := wN_of (n := 3) (by decide) hp
    obtain ⟨M1, h1, h2, h3, h4⟩ := BI_find (sc := sc) b hk
    refine ⟨0, cO a k, M1, ?_, h2, fun N hN => ?_⟩
    · rw [show (!decide (nI k < 0) && decide (nI k < 3)) = wN (nI k) 3 from rfl, hp, if_neg (show ¬ bI true = 0 by decide), i_ib hk (by decide), if_pos rfl, i_cl (by omega), h1]
      show sm_r1 (dn sc kFlow_errorOp 0 [.inr (.inr (4, k, 0))] [] M1) _ = _
      rw [E_Flow_errorOp_0, r1_s, h4.2.2.1]
    · obtain ⟨N1, g1, g2, g3, g4⟩ := BI_first (sc := sc) (BI_thr (x := 0) (BI_eq hN h3)) hk
      refine ⟨cO a k, N1, ?_, (g2.2 _ _ _ _ (fun z => by unfold s10f at z; omega)).trans u_hit, fun _ => rfl, frS_t thr_fr (frS_w g2 (fun _ _ _ _ z => Or.inl z)), g3⟩
      dsimp only; rw [E_Model_check_0, P_isThird, r1_s, show (!decide (nI k < 0) && decide (nI k < 3)) = wN (nI k) 3 from rfl, hp, if_neg (show ¬ bI true = 0 by decide), E_Model_check_3, u_hit, if_neg (by decide), g1, r1_s]
theorem cF_0 {a : Nat → Nat → Int32} {q : Nat} (h : cO a q = -1) : cF a q = 0 := if_pos h
/-- the reference's error of the first op that has one -/
theorem P_mErrO {sc : Nat × (Nat → Int32)} {a : Nat → Nat → Int32} {N : sm_M} {p o : Nat} (b : BI a N) (hp : p < 3) (ho : o ≤ onA a p) (hh : hasE a p o = true) (kn : knR a N p) : dn sc kModel_errorOf 0 [.inr (.inr (10, 0, 0)), .inl (nI p), .inl (nI o)] [] N = some (0, .inl (cE a p o), N) ∧ (o < onA a p → dn sc kModel_inTheWayOf 0 [.inr (.inr (10, 0, 0)), .inl (nI p), .inl (nI o)] [] N = some (0, .inl (cB a p o), N)) := by
  have wf := b.2.1
  have h16 := (wf.2.1 p hp).2.1
  have hc : (fR N p).1 o = true := by
    unfold hasE at hh
    rw [Bool.and_eq_true] at hh
    rw [(cS_e kn.1 o (by omega)).1]
    exact hh.1
  have hv := knR_v kn.1 (show o < 17 by omega) hc
  have okv := cS_ok kn.1 (show o < 17 by omega) hc
  exact ⟨P_mErr wf b.2.2.1 hp ho hv okv (lb := lbA a p (cL a p) o) (fun _ => lbA_e h16 (cL_e wf hp kn.2)), fun ho' => P_mBw wf b.2.2.1 hp ho' hv okv (lb := lbA a p (cL a p) o) (lbA_e h16 (cL_e wf hp kn.2))⟩
theorem S_error {sc : Nat × (Nat → Int32)} {a : Nat → Nat → Int32} {M : sm_M} (b : BI a M) (p : Int32) : SIM (dn sc kTop_error 0 [.inr (.inr (9, 0, 0)), .inl p] [] M) (fun N => dn sc kModel_error 0 [.inr (.inr (10, 0, 0)), .inl p] [] N) nI a M := by
  unfold SIM
  rw [E_Top_error_0, P_within, r1_s]
  cases hp : wN p 3 with
  | false =>
    refine ⟨1, 0, M, ?_, frS_r, fun N hN => ⟨0, sm_u N 10 0 0 0 1, ?_, u_hit, fun h => by omega, thr_fr, BI_thr (BI_eq hN b)⟩⟩
    · rw [show (!decide (p < 0) && decide (p < 3)) = wN p 3 from rfl, hp, if_pos (show bI false = 0 from rfl)]
    · dsimp only; rw [E_Model_error_0, P_isThird, r1_s, show (!decide (p < 0) && decide (p < 3)) = wN p 3 from rfl, hp, if_pos (show bI false = 0 from rfl), E_Model_error_3, u_hit, if_pos (by decide), E_Model_error_6, if_pos rfl]
  | true =>
    obtain ⟨k, hk, rfl⟩ := wN_of (n := 3) (by decide) hp
    obtain ⟨M1, h1, h2, h3, h4⟩ := BI_find (sc := sc) b hk
    have h16 := (b.2.1.2.1 k hk).2.1
    refine ⟨0, cF a k, M1, ?_, h2, fun N hN => ?_⟩
    · rw [show (!decide (nI k < 0) && decide (nI k < 3)) = wN (nI k) 3 from rfl, hp, if_neg (show ¬ bI true = 0 by decide), i_ib hk (by decide), if_pos rfl, i_cl (by omega), h1]
      show sm_r1 (dn sc kFlow_firstError 0 [.inr (.inr (4, k, 0))] [] M1) _ = _
      rw [E_Flow_firstError_0, r1_s, h4.2.2.2]
    · obtain ⟨N1, g1, g2, g3, g4⟩ := BI_first (sc := sc) (BI_thr (x := 0) (BI_eq hN h3)) hk
      refine ⟨cF a k, N1, ?_, (g2.2 _ _ _ _ (fun z => by unfold s10f at z; omega)).trans u_hit, fun _ => rfl, frS_t thr_fr (frS_w g2 (fun _ _ _ _ z => Or.inl z)), g3⟩
      dsimp only; rw [E_Model_error_0, P_isThird, r1_s, show (!decide (nI k < 0) && decide (nI k < 3)) = wN (nI k) 3 from rfl, hp, if_neg (show ¬ bI true = 0 by decide), E_Model_error_3, u_hit, if_neg (by decide), g1, r1_s, E_Model_error_6]
      by_cases z : cO a k = -1
      · rw [if_pos z, cF_0 z]
      · obtain ⟨o, o1, o2, o3⟩ := cO_of h16 z
        rw [if_neg z]
        unfold cF
        rw [if_neg z, o3, (P_mErrO g3 hk o1 o2 (g4 k hk)).1, r1_s, i_cl (by omega)]
/-- of what borrower throws, the reference tells 1 and 2 -/
def mpB (e : Nat) : Int32 := if e = 3 then 2 else nI e
/-- an op that is borrowed isn't the end -/
theorem er5 {a : Nat → Nat → Int32} {p o : Nat} {v : Nat → Int32} {lb : Int32} (h : erE a p o v lb = 5) : ¬ o = onA a p := by
  intro z
  unfold erE at h
  split at h
  · exact absurd h (by decide)
  · rw [if_pos (Or.inl z)] at h
    unfold kpE at h
    split at h
    · exact absurd h (by decide)
    · split at h <;> exact absurd h (by decide)
theorem S_borrower {sc : Nat × (Nat → Int32)} {a : Nat → Nat → Int32} {M : sm_M} (b : BI a M) (p : Int32) : SIM (dn sc kTop_borrower 0 [.inr (.inr (9, 0, 0)), .inl p] [] M) (fun N => dn sc kModel_borrower 0 [.inr (.inr (10, 0, 0)), .inl p] [] N) mpB a M := by
  unfold SIM
  rw [E_Top_borrower_0, P_within, r1_s]
  have e9 : ∀ l s N, s = 1 ∨ s = 2 → dn sc kModel_borrower 9 [.inr (.inr (10, 0, 0)), .inl p, .inl l] [.inl s, .inr (.inr (10, 0, 0))] N = some (0, .inl 0, sm_u N 10 0 0 0 s) := by
    intro l s N hs
    rw [E_Model_borrower_9, u_hit, if_pos (by rcases hs with h | h <;> subst h <;> decide)]
  cases hp : wN p 3 with
  | false =>
    refine ⟨1, 0, M, ?_, frS_r, fun N hN => ⟨0, sm_u N 10 0 0 0 1, ?_, u_hit, fun h => by omega, thr_fr, BI_thr (BI_eq hN b)⟩⟩
    · rw [show (!decide (p < 0) && decide (p < 3)) = wN p 3 from rfl, hp, if_pos (show bI false = 0 from rfl)]
    · dsimp only; rw [E_Model_borrower_0, P_isThird, r1_s, show (!decide (p < 0) && decide (p < 3)) = wN p 3 from rfl, hp, if_pos (show bI false = 0 from rfl), E_Model_borrower_3, P_isThird, r1_s, show (!decide (p < 0) && decide (p < 3)) = wN p 3 from rfl, hp, if_pos (show bI false = 0 from rfl), e9 _ _ _ (Or.inl rfl)]
  | true =>
    obtain ⟨k, hk, rfl⟩ := wN_of (n := 3) (by decide) hp
    obtain ⟨M1, h1, h2, h3, h4⟩ := BI_find (sc := sc) b hk
    have wf := b.2.1
    have h16 := (wf.2.1 k hk).2.1
    have eC : (if sm_ib (nI k) 3 = true then (sm_r3 4 (dn sc kFlow_find 0 [.inr (.inr (4, (nI k : Int32).toNatClampNeg, 0))] [] M) (fun x4 M3 => sm_r1 (dn sc kFlow_firstError 0 [.inr (.inr (4, x4, 0))] [] M3) (fun x6 M5 => if x6 = 5 then (if sm_ib (nI k) 3 = true then (sm_r1 (dn sc kFlow_inTheWay 0 [.inr (.inr (4, (nI k : Int32).toNatClampNeg, 0))] [] M5) (fun x8 M7 => some (0, Sum.inl x8, M7))) else none) else (some (3, .inl 0, M5))))) else none) = if cF a k = 5 then (sm_r1 (dn sc kFlow_inTheWay 0 [.inr (.inr (4, k, 0))] [] M1) (fun x8 M7 => some (0, .inl x8, M7))) else some (3, .inl 0, M1) := by
      rw [i_ib hk (by decide), if_pos rfl, i_cl (by omega), h1]
      show sm_r1 (dn sc kFlow_firstError 0 [.inr (.inr (4, k, 0))] [] M1) _ = _
      rw [E_Flow_firstError_0, r1_s, h4.2.2.2, if_pos rfl]
    have hW : (!decide (nI k < 0) && decide (nI k < 3)) = true := hp
    rw [hW, if_neg (show ¬ bI true = 0 by decide), eC]
    by_cases z5 : cF a k = 5
    · have z : ¬ cO a k = -1 := fun z => by rw [cF_0 z] at z5; exact absurd z5 (by decide)
      obtain ⟨o, o1, o2, o3⟩ := cO_of h16 z
      have eE : cE a k o = 5 := by unfold cF at z5; rw [if_neg z, o3, i_cl (by omega)] at z5; exact z5
      have on : ¬ o = onA a k := er5 eE
      have hc : (fC M1 k).1 o = true := by
        unfold hasE at o2
        rw [Bool.and_eq_true] at o2
        rw [(cS_e h4.1 o (by omega)).1]
        exact o2.1
      have hv := knC_v h4.1 (show o < 17 by omega) hc
      refine ⟨0, cB a k o, M1, ?_, h2, fun N hN => ?_⟩
      · rw [if_pos z5, E_Flow_inTheWay_0, h4.2.2.1, o3, P_fBor wf (BI_cx h3 hk) hk (show o < onA a k by omega) hv (lb := lbA a k (cL a k) o) (lbA_e h16 (cL_e wf hk h4.2.1)), r1_s, r1_s]; rfl
      · obtain ⟨N1, g1, g2, g3, g4⟩ := BI_first (sc := sc) (BI_eq hN h3) hk
        obtain ⟨f1, f2⟩ := P_mErrO (sc := sc) g3 hk o1 o2 (g4 k hk)
        have gt := P_mErrO (sc := sc) (BI_thr (x := 0) g3) hk o1 o2 (knR_tag (fun j i hj => u_mis (by omega)) (g4 k hk))
        refine ⟨cB a k o, sm_u N1 10 0 0 0 0, ?_, u_hit, fun _ => rfl, frS_t (frS_w g2 (fun _ _ _ _ z => Or.inl z)) thr_fr, BI_thr g3⟩
        dsimp only; rw [E_Model_borrower_0, P_isThird, r1_s, hW, if_neg (show ¬ bI true = 0 by decide), g1, r1_s, E_Model_borrower_3, P_isThird, r1_s, hW, if_neg (show ¬ bI true = 0 by decide), if_neg z, o3, f1, r1_s, if_pos eE, E_Model_borrower_9, u_hit, if_neg (by decide), gt.2 (by omega), r1_s]
    · refine ⟨3, 0, M1, by rw [if_neg z5], h2, fun N hN => ?_⟩
      obtain ⟨N1, g1, g2, g3, g4⟩ := BI_first (sc := sc) (BI_eq hN h3) hk
      refine ⟨0, sm_u N1 10 0 0 0 2, ?_, u_hit, fun h => by omega, frS_t (frS_w g2 (fun _ _ _ _ z => Or.inl z)) thr_fr, BI_thr g3⟩
      dsimp only; rw [E_Model_borrower_0, P_isThird, r1_s, hW, if_neg (show ¬ bI true = 0 by decide), g1, r1_s, E_Model_borrower_3, P_isThird, r1_s, hW, if_neg (show ¬ bI true = 0 by decide)]
      by_cases z : cO a k = -1
      · rw [if_pos z, e9 _ _ _ (Or.inr rfl)]
      · obtain ⟨o, o1, o2, o3⟩ := cO_of h16 z
        have eE : ¬ cE a k o = 5 := by unfold cF at z5; rw [if_neg z, o3, i_cl (by omega)] at z5; exact z5
        rw [if_neg z, o3, (P_mErrO g3 hk o1 o2 (g4 k hk)).1, r1_s, if_neg eE, e9 _ _ _ (Or.inr rfl)]
