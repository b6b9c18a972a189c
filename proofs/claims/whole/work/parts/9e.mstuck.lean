/-! LEVEL B: layouts: the reference's search -/
def RSP (d : Option sm_R) (N : sm_M) (x : Option (Nat → Nat)) : Prop := (x = none → d = some (0, .inl 0, N)) ∧ ∀ h', x = some h' → ∃ N', d = some (0, .inl 1, N') ∧ rdN N' h' ∧ frS sSt N N'
theorem RSP_n {N : sm_M} : RSP (some (0, .inl 0, N)) N none := ⟨fun _ => rfl, fun _ h => by cases h⟩
theorem RSP_s {d : Option sm_R} {N : sm_M} {h : Nat → Nat} (e : ∃ N', d = some (0, .inl 1, N') ∧ rdN N' h ∧ frS sSt N N') : RSP d N (some h) := ⟨fun h => by (cases h), fun h' hh => by obtain rfl := Option.some.inj hh; exact e⟩
theorem P_mS7 {sc : Nat × (Nat → Int32)} {N : sm_M} {h : Nat → Nat} {p : Nat} (rd : rdN N h) (hp : p < 3) (h32 : h p < 32) : ∃ N', dn sc kModel_stepsOn 7 [.inr (.inr (10, 0, 0)), .inl (nI p)] [] N = some (0, .inl 1, N') ∧ rdN N' (up h p (h p + 32)) ∧ frS sSt N N' := by
  refine ⟨sm_u N 10 0 23 p 1, ?_, ⟨fun q hq => ?_, fun k hk => ?_⟩, frS_u (by unfold sSt; omega)⟩
  · rw [E_Model_stepsOn_7, i_ib hp (by decide), if_pos rfl, i_cl (show p < 2147483648 by omega)]; rfl
  · obtain ⟨r1, r2⟩ := rd.1 q hq
    rw [u_mis (by omega), r1]
    by_cases z : q = p
    · subst z
      rw [u_hit, up_h, show (h q + 32) % 32 = h q % 32 by omega, show (h q + 32) / 32 = 1 by omega]
      exact ⟨rfl, rfl⟩
    · rw [u_mis (by omega), up_m z]
      exact ⟨rfl, r2⟩
  · rw [u_mis (by omega), up_m (by omega)]
    exact rd.2 k hk
theorem P_mS5 {sc : Nat × (Nat → Int32)} {a : Nat → Nat → Int32} {N : sm_M} {h : Nat → Nat} {p : Nat} {w : Bool} (wf : wfA a) (r : cr a N) (rd : rdN N h) (hp : p < 3) (k : ok1 a p) (g : Gd a h) (h32 : h p < 32) (hw : w = true → h p < onA a p ∧ opW a p (h p) = 11) :
    RSP (dn sc kModel_stepsOn 5 [.inr (.inr (10, 0, 0)), .inl (nI p), .inl (bI w)] [] N) N (nxL a h p (bN w)) := by
  have h16 := on16 wf hp
  obtain ⟨g1, g2, g3⟩ := g.1 p hp
  have e32 : h p % 32 = h p := by omega
  have at' : N.1 10 0 22 p = nI (h p) := by rw [(rd.1 p hp).1, e32]
  unfold nxL
  rw [if_neg (show ¬ ¬ h p / 32 = 0 from fun y => y (by omega)), e32, E_Model_stepsOn_5, i_ib hp (by decide), i_cl (show p < 2147483648 by omega), at', cr_n wf r hp]
  simp only [if_true]
  by_cases zo : h p < onA a p
  rotate_left
  · rw [if_pos (show nI (h p) = nI (onA a p) by rw [show h p = onA a p by omega]), if_pos (Or.inl zo)]
    cases w with
    | true => exact absurd (hw rfl).1 zo
    | false => exact RSP_s (P_mS7 rd hp h32)
  rw [if_neg (show ¬ nI (h p) = nI (onA a p) by rw [i_eq (by omega) (by omega)]; omega), P_mStop wf r hp (by omega), r1_s, decide_eq_true zo, Bool.true_and]
  by_cases z13 : opW a p (h p) = 13
  · rw [decide_eq_true z13, if_neg (show ¬ bI true = 0 by decide), if_pos (Or.inr z13)]
    cases w with
    | true => have := (hw rfl).2; rw [z13] at this; exact absurd this (by decide)
    | false => exact RSP_s (P_mS7 rd hp h32)
  have hk : 16 * p + h p < 48 := by omega
  obtain ⟨o1, o2, o3⟩ := cr_op r p (h p)
  rw [decide_eq_false z13, if_pos (show bI false = 0 from rfl), if_neg (show ¬ (¬ h p < onA a p ∨ opW a p (h p) = 13) from fun y => y.elim (fun y => y zo) z13), show (16 : Int32) = nI 16 from rfl, i_mul, at', nI_add, i_ib hk (by decide), i_cl (show 16 * p + h p < 2147483648 by omega), o1]
  simp only [if_true]
  have hw2 : ¬ (bN w = 1 ∧ ¬ opW a p (h p) = 11) := by
    rintro ⟨y1, y2⟩
    cases w with
    | true => exact y2 (hw rfl).2
    | false => exact absurd y1 (by decide)
  rw [if_neg hw2]
  have wf0 : (opW a p (h p) = 7 ∨ opW a p (h p) = 8 ∨ opW a p (h p) = 9 ∨ opW a p (h p) = 10) → w = false := by
    intro y
    cases w with
    | false => rfl
    | true =>
      have := (hw rfl).2
      rw [this] at y
      exact absurd y (by decide)
  have snd : opW a p (h p) = 7 ∨ opW a p (h p) = 9 → RSP (dn sc kModel_stepsOn 10 [.inr (.inr (10, 0, 0)), .inl (nI p), .inl (bI w), .inl (nI (16 * p + h p)), .inl 0] [] N) N (if ¬ h (tQ a p (h p)) / 8 = 0 then none else some (up (up h (tQ a p (h p)) (apQ (h (tQ a p (h p))) (mgL a p (h p)))) p (nxO a p (h p) false))) := by
    intro h7
    obtain rfl := wf0 (by rcases h7 with y | y; · exact Or.inl y
                          · exact Or.inr (Or.inr (Or.inl y)))
    obtain ⟨s1, s2⟩ := P_mSend (sc := sc) wf r rd hp k g h32 zo h7
    by_cases z : h (tQ a p (h p)) / 8 = 0
    · rw [if_neg (fun y => y z)]
      exact RSP_s (s2 z)
    · rw [if_pos z]
      rw [show bI false = 0 from rfl, s1 z]
      exact RSP_n
  have tke : opW a p (h p) = 8 ∨ opW a p (h p) = 10 → RSP (dn sc kModel_stepsOn 18 [.inr (.inr (10, 0, 0)), .inl (nI p), .inl (bI w), .inl (nI (16 * p + h p))] [] N) N (if h (fQ a p (h p)) % 8 = 0 then none else some (up (up h (fQ a p (h p)) (h (fQ a p (h p)) / 8)) p (nxO a p (h p) (decide (opW a p (h p) = 10 ∧ h (fQ a p (h p)) % 8 = 5))))) := by
    intro h8
    obtain rfl := wf0 (by rcases h8 with y | y; · exact Or.inr (Or.inl y)
                          · exact Or.inr (Or.inr (Or.inr y)))
    obtain ⟨s1, s2⟩ := P_mTake (sc := sc) wf r rd hp k g h32 zo h8
    by_cases z : h (fQ a p (h p)) % 8 = 0
    · rw [if_pos z]
      rw [show bI false = 0 from rfl, s1 z]
      exact RSP_n
    · rw [if_neg z]
      exact RSP_s (s2 z)
  by_cases q7 : opW a p (h p) = 7
  · rw [if_pos q7, if_pos (Or.inl q7)]
    exact snd (Or.inl q7)
  rw [if_neg q7]
  by_cases q9 : opW a p (h p) = 9
  · rw [if_pos q9, if_pos (Or.inr q9)]
    exact snd (Or.inr q9)
  rw [if_neg q9, if_neg (show ¬ (opW a p (h p) = 7 ∨ opW a p (h p) = 9) from fun y => y.elim q7 q9)]
  by_cases q8 : opW a p (h p) = 8
  · rw [if_pos q8, if_pos (Or.inl q8)]
    exact tke (Or.inl q8)
  rw [if_neg q8]
  by_cases q10 : opW a p (h p) = 10
  · rw [if_pos q10, if_pos (Or.inr q10)]
    exact tke (Or.inr q10)
  rw [if_neg q10, if_neg (show ¬ (opW a p (h p) = 8 ∨ opW a p (h p) = 10) from fun y => y.elim q8 q10)]
  refine RSP_s (P_mS25 (w := w) (c := false) wf r rd hp h32 zo (by cases w <;> rfl) (fun y => Or.inr ?_))
  have := of_decide_eq_true y
  cases w with
  | true => exact (hw rfl).2
  | false => exact absurd this (by decide)
theorem P_mSOn {sc : Nat × (Nat → Int32)} {a : Nat → Nat → Int32} {N : sm_M} {h : Nat → Nat} {p : Nat} {w : Bool} (wf : wfA a) (r : cr a N) (rd : rdN N h) (hp : p < 3) (k : ok1 a p) (g : Gd a h) :
    RSP (dn sc kModel_stepsOn 0 [.inr (.inr (10, 0, 0)), .inl (nI p), .inl (bI w)] [] N) N (nxL a h p (bN w)) := by
  have h16 := on16 wf hp
  obtain ⟨g1, g2, g3⟩ := g.1 p hp
  obtain ⟨r1, r2⟩ := rd.1 p hp
  rw [E_Model_stepsOn_0, i_ib hp (by decide), if_pos rfl, i_cl (show p < 2147483648 by omega), r2, r1]
  by_cases z0 : h p / 32 = 0
  rotate_left
  · rw [if_neg (show ¬ nI (h p / 32) = 0 from fun y => z0 ((i_eq (by omega) (by decide)).mp y))]
    unfold nxL
    rw [if_pos z0]
    exact RSP_n
  rw [if_pos (show nI (h p / 32) = 0 by rw [z0]; rfl), show h p % 32 = h p by omega]
  cases w with
  | false =>
    rw [if_pos (show bI false = 0 from rfl)]
    exact P_mS5 (w := false) wf r rd hp k g (by omega) (fun y => absurd y (by decide))
  | true =>
    have hk : h p < onA a p → 16 * p + h p < 48 := by omega
    obtain ⟨o1, o2, o3⟩ := cr_op r p (h p)
    rw [if_neg (show ¬ bI true = 0 by decide), if_pos rfl, if_pos rfl, cr_n wf r hp]
    by_cases zo : h p < onA a p
    rotate_left
    · rw [if_pos (show nI (h p) = nI (onA a p) by rw [show h p = onA a p by omega])]
      unfold nxL
      rw [if_neg (show ¬ ¬ h p / 32 = 0 from fun y => y z0), show h p % 32 = h p by omega, if_pos (Or.inl zo), if_pos (show bN true = 1 from rfl)]
      exact RSP_n
    rw [if_neg (show ¬ nI (h p) = nI (onA a p) by rw [i_eq (by omega) (by omega)]; omega), if_pos rfl, show (16 : Int32) = nI 16 from rfl, i_mul, nI_add, i_ib (hk zo) (by decide), if_pos rfl, i_cl (show 16 * p + h p < 2147483648 by omega), o1]
    by_cases z11 : opW a p (h p) = 11
    · rw [if_pos z11]
      exact P_mS5 (w := true) wf r rd hp k g (by omega) (fun _ => ⟨zo, z11⟩)
    · rw [if_neg z11]
      unfold nxL
      rw [if_neg (show ¬ ¬ h p / 32 = 0 from fun y => y z0), show h p % 32 = h p by omega]
      by_cases z13 : opW a p (h p) = 13
      · rw [if_pos (Or.inr z13), if_pos (show bN true = 1 from rfl)]; exact RSP_n
      · rw [if_neg (show ¬ (¬ h p < onA a p ∨ opW a p (h p) = 13) from fun y => y.elim (fun y => y zo) z13), if_pos ⟨rfl, z11⟩]; exact RSP_n
theorem goS_full {a : Nat → Nat → Int32} {r : Nat → Nat} : ∀ n i (s : (Nat → Nat → Nat) × Nat), ¬ s.2 < 1001 → goS a r n i (s, true) = (s, true) := by
  intro n
  induction n with
  | zero => intro i s _; rfl
  | succ n ih =>
    intro i s hs
    have e : gLs a r i (s, true) = (s, true) := by
      unfold gLs
      split
      · rfl
      · rw [adS_n (fun z => hs z.1)]
    show goS a r n (i + 1) (gLs a r i (s, true)) = _
    rw [e]
    exact ih (i + 1) s hs
theorem i_half : ∀ i, i < 6 → nI i / 2 = nI (i / 2) ∧ (nI i - nI i / 2 * 2 = 1) = (i % 2 = 1) := by decide
theorem P_mSt14 {sc : Nat × (Nat → Int32)} {a : Nat → Nat → Int32} {f : Int32} {k : Nat} {r : Nat → Nat} (wf : wfA a) (ok : ∀ p, p < 3 → ok1 a p) (g : Gd a r) : ∀ n i (N : sm_M) (s : (Nat → Nat → Nat) × Nat) (m : Bool), i + n = 6 → cr a N → MT a N s → k < s.2 → s.1 k = r → (¬ s.2 ≤ 1000 → m = true) →
    ∃ N', dn sc kModel_stuck 14 [.inr (.inr (10, 0, 0)), .inl (bI (decide (s.2 ≤ 1000))), .inl f, .inl (nI k), .inl (bI m), .inl (nI i)] [] N = dn sc kModel_stuck 22 [.inr (.inr (10, 0, 0)), .inl (bI (decide ((goS a r n i (s, m)).1.2 ≤ 1000))), .inl f, .inl (nI k), .inl (bI (goS a r n i (s, m)).2)] [] N' ∧ MT a N' (goS a r n i (s, m)).1 ∧ fr10 N N' := by
  intro n
  induction n with
  | zero =>
    intro i N s m hi c mt hk hr hm
    obtain rfl : i = 6 := by omega
    refine ⟨N, ?_, mt, fr10_r⟩
    rw [E_Model_stuck_14, if_neg (by decide)]
    rfl
  | succ n ih =>
    intro i N s m hi c mt hk hr hm
    have hs := mt.2.1
    by_cases z : s.2 ≤ 1000
    rotate_left
    · have e := goS_full (a := a) (r := r) (n + 1) i s (by omega)
      rw [hm z, e, E_Model_stuck_14, show (6 : Int32) = nI 6 from rfl, if_pos (by rw [i_lt (by omega) (by decide)]; omega)]
      refine ⟨N, ?_, mt, fr10_r⟩
      rw [decide_eq_false z, if_pos (show bI false = 0 from rfl)]
    · obtain ⟨N1, a1, a2, a3, a4, a5⟩ := P_mReads (sc := sc) (N := N) (Gd_w g)
      obtain ⟨h1, h2⟩ := i_half i (by omega)
      have hp : i / 2 < 3 := by omega
      have mt1 := MT_e a5 a4 mt
      have rw0 := (mt.2.2 k hk).1
      rw [hr] at rw0
      have hw : bN (decide (i % 2 = 1)) = i % 2 := by
        by_cases y : i % 2 = 1
        · rw [decide_eq_true y, y]; rfl
        · rw [decide_eq_false y]; show 0 = i % 2; omega
      have st := P_mSOn (sc := sc) (w := decide (i % 2 = 1)) wf (cr_10 a3 c) a2 hp (ok _ hp) g
      rw [hw] at st
      have e14 : dn sc kModel_stuck 14 [.inr (.inr (10, 0, 0)), .inl (bI (decide (s.2 ≤ 1000))), .inl f, .inl (nI k), .inl (bI m), .inl (nI i)] [] N = dn sc kModel_stuck 19 [.inr (.inr (10, 0, 0)), .inl (bI (decide (s.2 ≤ 1000))), .inl f, .inl (nI k), .inl (bI m), .inl (nI i)] [.inl (bI (decide (i % 2 = 1))), .inl (nI (i / 2)), .inr (.inr (10, 0, 0))] N1 := by
        rw [E_Model_stuck_14, show (6 : Int32) = nI 6 from rfl, if_pos (by rw [i_lt (by omega) (by decide)]; omega), decide_eq_true z, if_neg (show ¬ bI true = 0 by decide), i_ib (show k < 1001 by omega) (by decide), if_pos rfl, i_cl (show k < 2147483648 by omega), rw0, a1, r0_s, h1]
        rw [h1] at h2
        by_cases y : i % 2 = 1
        · rw [if_pos (h2.symm ▸ y), decide_eq_true y]; rfl
        · rw [if_neg (fun x => y (h2 ▸ x)), decide_eq_false y]; rfl
      rw [e14, E_Model_stuck_19]
      show ∃ N', _ = dn sc kModel_stuck 22 [_, .inl (bI (decide ((goS a r n (i + 1) (gLs a r i (s, m))).1.2 ≤ 1000))), _, _, .inl (bI (goS a r n (i + 1) (gLs a r i (s, m))).2)] [] N' ∧ MT a N' (goS a r n (i + 1) (gLs a r i (s, m))).1 ∧ fr10 N N'
      cases e : nxL a r (i / 2) (i % 2) with
      | none =>
        have eg : gLs a r i (s, m) = (s, m) := by unfold gLs; rw [e]
        obtain ⟨N2, b1, b2, b3⟩ := ih (i + 1) N1 s m (by omega) (cr_10 a3 c) mt1 hk hr hm
        refine ⟨N2, ?_, by rw [eg]; exact b2, fr10_t a3 b3⟩
        rw [st.1 e, r1_s, if_pos rfl, nI_1, eg]
        exact b1
      | some h' =>
        have eg : gLs a r i (s, m) = (adS s h', true) := by unfold gLs; rw [e]
        obtain ⟨N2, b1, b2, b3⟩ := st.2 h' e
        have g' := Gd_nx wf hp (ok _ hp) g e
        have mt2 : MT a N2 s := MT_e (b3.2 10 0 0 20 (by unfold sSt; omega)) b3.1 mt1
        obtain ⟨N3, c1, c2, c3⟩ := P_mKeep (sc := sc) wf mt2 (by omega) g' b2
        have ak := adS_k (s := s) (h := h')
        obtain ⟨N4, d1, d2, d3⟩ := ih (i + 1) N3 (adS s h') true (by omega) (cr_10 (fr10_t a3 (fr10_t (st_10 b3) c3)) c) c2 (by omega) ((ak.2 k hk).trans hr) (fun _ => rfl)
        refine ⟨N4, ?_, by rw [eg]; exact d2, fr10_t a3 (fr10_t (st_10 b3) (fr10_t c3 d3))⟩
        rw [b1, r1_s, if_neg (by decide), c1, r1_s, nI_1, eg]
        exact d1
theorem GT_k {a : Nat → Nat → Int32} {N : sm_M} {s : (Nat → Nat → Nat) × Nat} {k : Nat} (mt : MT a N s) (hk : k < s.2) : N.2 10 0 20 k = lN (rN (s.1 k)) := (mt.2.2 k hk).1
theorem allE_3 {h : Nat → Nat} : allE h = (!decide (h 0 / 32 = 0) && (!decide (h 1 / 32 = 0) && (!decide (h 2 / 32 = 0) && true))) := rfl
/-- behind a row -/
theorem P_mSt22 {sc : Nat × (Nat → Int32)} {a : Nat → Nat → Int32} {l f m : Bool} {k : Nat} {N : sm_M} {s : (Nat → Nat → Nat) × Nat} (mt : MT a N s) (hk : k < s.2) :
    ∃ N', dn sc kModel_stuck 22 [.inr (.inr (10, 0, 0)), .inl (bI l), .inl (bI f), .inl (nI k), .inl (bI m)] [] N = dn sc kModel_stuck 11 [.inr (.inr (10, 0, 0)), .inl (bI l), .inl (bI (f || (!m && !allE (s.1 k)))), .inl (nI (k + 1))] [] N' ∧ MT a N' s ∧ fr10 N N' := by
  have hs := mt.2.1
  obtain ⟨r1, g⟩ := mt.2.2 k hk
  obtain ⟨N1, a1, a2, a3, a4, a5⟩ := P_mReads (sc := sc) (N := N) (Gd_w g)
  refine ⟨N1, ?_, MT_e a5 a4 mt, a3⟩
  have ov : ∀ p, p < 3 → (N1.1 10 0 23 p = 0) = (s.1 k p / 32 = 0) := fun p hp => by
    have := (g.1 p hp).1
    rw [(a2.1 p hp).2, show (0 : Int32) = nI 0 from rfl, i_eq (by omega) (by decide)]
  have o0 := ov 0 (by decide)
  have o1 := ov 1 (by decide)
  have o2 := ov 2 (by decide)
  rw [E_Model_stuck_22, i_ib (show k < 1001 by omega) (by decide), if_pos rfl, i_cl (show k < 2147483648 by omega), r1, a1, r0_s, nI_1]
  cases f with
  | true => rw [if_neg (show ¬ bI true = 0 by decide)]; rfl
  | false =>
    rw [if_pos (show bI false = 0 from rfl)]
    cases m with
    | true => rw [if_neg (show ¬ bI true = 0 by decide)]; rfl
    | false =>
      rw [if_pos (show bI false = 0 from rfl), show sm_ib 0 3 = true from rfl, show sm_ib 1 3 = true from rfl, show sm_ib 2 3 = true from rfl, if_pos rfl, if_pos rfl, if_pos rfl, show (0 : Int32).toNatClampNeg = 0 from rfl, show (1 : Int32).toNatClampNeg = 1 from rfl, show (2 : Int32).toNatClampNeg = 2 from rfl, allE_3]
      by_cases z0 : s.1 k 0 / 32 = 0
      · rw [if_pos (o0.symm ▸ z0), decide_eq_true z0]; rfl
      rw [if_neg (fun y => z0 (o0 ▸ y)), decide_eq_false z0]
      by_cases z1 : s.1 k 1 / 32 = 0
      · rw [if_pos (o1.symm ▸ z1), decide_eq_true z1]; rfl
      rw [if_neg (fun y => z1 (o1 ▸ y)), decide_eq_false z1]
      by_cases z2 : s.1 k 2 / 32 = 0
      · rw [if_pos (o2.symm ▸ z2), decide_eq_true z2]; rfl
      rw [if_neg (fun y => z2 (o2 ▸ y)), decide_eq_false z2]; rfl
theorem P_mSt30 {sc : Nat × (Nat → Int32)} {N : sm_M} {s : (Nat → Nat → Nat) × Nat} {f : Bool} : dn sc kModel_stuck 30 [.inl (bI (decide (s.2 ≤ 1000))), .inl (bI f)] [] N = some (0, .inl (finS s f), N) := by
  rw [E_Model_stuck_30]
  unfold finS
  by_cases z : s.2 ≤ 1000
  · rw [decide_eq_true z, if_neg (show ¬ bI true = 0 by decide), if_neg (show ¬ 1000 < s.2 by omega)]
    cases f <;> rfl
  · rw [decide_eq_false z, if_pos (show bI false = 0 from rfl), if_pos (show 1000 < s.2 by omega)]
theorem P_mSt11 {sc : Nat × (Nat → Int32)} {a : Nat → Nat → Int32} (wf : wfA a) (ok : ∀ p, p < 3 → ok1 a p) : ∀ K i (N : sm_M) (s : (Nat → Nat → Nat) × Nat) (f : Bool), i + K = 1001 → cr a N → MT a N s →
    ∃ N', dn sc kModel_stuck 11 [.inr (.inr (10, 0, 0)), .inl (bI (decide (s.2 ≤ 1000))), .inl (bI f), .inl (nI i)] [] N = some (0, .inl (seS a K i s f), N') ∧ fr10 N N' := by
  intro K
  induction K with
  | zero =>
    intro i N s f hi c mt
    have := mt.2.1
    refine ⟨N, ?_, fr10_r⟩
    rw [E_Model_stuck_11, mt.1, if_neg (by rw [i_lt (by omega) (by omega)]; omega), P_mSt30]; rfl
  | succ K ih =>
    intro i N s f hi c mt
    have hs := mt.2.1
    rw [E_Model_stuck_11, mt.1]
    unfold seS
    by_cases z1 : i < s.2
    rotate_left
    · refine ⟨N, ?_, fr10_r⟩
      rw [if_neg (by rw [i_lt (by omega) (by omega)]; exact z1), if_neg (fun z => z1 z.1), P_mSt30]
    by_cases z3 : s.2 ≤ 1000
    rotate_left
    · refine ⟨N, ?_, fr10_r⟩
      rw [if_pos (by rw [i_lt (by omega) (by omega)]; exact z1), P_mSt30, if_pos (by rw [decide_eq_false z3]; rfl), if_neg (fun z => z3 z.2.2)]
    have z2 : i < 1000 := by omega
    obtain ⟨r1, r2⟩ := mt.2.2 i z1
    obtain ⟨N1, a1, a2, a3⟩ := P_mSt14 (sc := sc) (f := bI f) (k := i) wf ok r2 6 0 N s false (by decide) c mt z1 rfl (fun y => absurd z3 y)
    have gk := goS_k (a := a) (r := s.1 i) 6 0 (s, false)
    obtain ⟨N2, b1, b2, b3⟩ := P_mSt22 (sc := sc) (l := decide ((goS a (s.1 i) 6 0 (s, false)).1.2 ≤ 1000)) (f := f) (m := (goS a (s.1 i) 6 0 (s, false)).2) (k := i) a2 (Nat.lt_of_lt_of_le z1 gk.1)
    obtain ⟨N3, c1, c2⟩ := ih (i + 1) N2 _ (f || (!(goS a (s.1 i) 6 0 (s, false)).2 && !allE (s.1 i))) (by omega) (cr_10 (fr10_t a3 b3) c) b2
    refine ⟨N3, ?_, fr10_t a3 (fr10_t b3 c2)⟩
    rw [if_pos (by rw [i_lt (by omega) (by omega)]; exact z1), if_neg (show ¬ bI (decide (s.2 ≤ 1000)) = 0 by rw [decide_eq_true z3]; decide), if_pos (show i < s.2 ∧ i < 1000 ∧ s.2 ≤ 1000 from ⟨z1, z2, z3⟩)]
    rw [gk.2 i z1] at b1
    exact Eq.trans a1 (b1.trans c1)
/-- the reference's search, without errors -/
theorem P_mSt8 {sc : Nat × (Nat → Int32)} {a : Nat → Nat → Int32} {N : sm_M} (wf : wfA a) (ok : ∀ p, p < 3 → ok1 a p) (c : cr a N) : ∃ N', dn sc kModel_stuck 8 [.inr (.inr (10, 0, 0))] [.inl 0, .inr (.inr (10, 0, 0))] N = some (0, .inl (stkA a), N') ∧ fr10 (sm_u N 10 0 0 0 0) N' := by
  have c0 : cr a (sm_u N 10 0 0 0 0) := cr_fr (S := fun c p j i => c = 10 ∧ p = 0 ∧ j = 0 ∧ i = 0) (frS_u ⟨rfl, rfl, rfl, rfl⟩) (fun j i z => by omega) c
  have g := Gd_0 wf ok
  obtain ⟨N1, a1, a2, a3, a4, a5⟩ := P_mReads (sc := sc) (N := sm_u N 10 0 0 0 0) (Gd_w g)
  have f2 : fr10 N1 (sm_u N1 10 0 0 20 0) := fr10_u (by unfold s10l; omega)
  have rd : rdN (sm_u N1 10 0 0 20 0) (fun _ => 0) := ⟨fun p hp => by
    obtain ⟨x, y⟩ := a2.1 p hp
    exact ⟨(u_mis (by omega)).trans x, (u_mis (by omega)).trans y⟩, fun k hk => (u_mis (by omega)).trans (a2.2 k hk)⟩
  have mt : MT a (sm_u N1 10 0 0 20 0) noS := ⟨u_hit, by decide, fun k hk => absurd hk (Nat.not_lt_zero _)⟩
  obtain ⟨N2, b1, b2, b3⟩ := P_mKeep (sc := sc) wf mt (by decide) g rd
  obtain ⟨N3, d1, d2⟩ := P_mSt11 (sc := sc) wf ok 1001 0 N2 _ false (by decide) (cr_10 (fr10_t a3 (fr10_t f2 b3)) c0) b2
  refine ⟨N3, ?_, fr10_t a3 (fr10_t f2 (fr10_t b3 d2))⟩
  rw [E_Model_stuck_8, u_hit, if_neg (by decide)]
  rw [show lN (rN (fun _ => 0)) = (0 : Int64) from rfl] at a1
  rw [a1, r0_s, b1, r1_s]
  exact d1
