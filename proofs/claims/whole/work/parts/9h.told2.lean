/-! LEVEL B: telling in one shape: the four calls -/
theorem GS_step {sc : Nat × (Nat → Int32)} {a : Nat → Nat → Int32} {M : sm_M} {B B' : Nat} (g0 : GI a M B) (hB : B ≤ B') (p w x y : Int32) : GSM (dn sc kTop_step 0 [.inr (.inr (9, 0, 0)), .inl p, .inl w, .inl x, .inl y] [] M) (fun N => dn sc kModel_step 0 [.inr (.inr (10, 0, 0)), .inl p, .inl w, .inl x, .inl y] [] N) nI B' := by
  have g := GI_tel g0
  obtain ⟨b, j, l⟩ := g
  have wf := b.2.1
  rcases S_step (sc := sc) b.1 wf p w x y with ⟨e, he, h1, h2⟩ | ⟨k, n, hk, hn, hh, h1, h2⟩
  · exact ⟨e + 1, 0, M, h1, fun N hN => ⟨0, _, h2 N hN, u_hit, fun z => by omega, _, GI_thr ⟨b, j, l⟩ hB hN⟩⟩
  · refine ⟨0, nI n, _, h1, fun N hN => ?_⟩
    obtain ⟨k1, k2, k3⟩ := h2 N hN
    have fr : frw (fun c p j i => 10 < c ∨ c = 8 ∨ (c = 10 ∧ p = 0 ∧ ((2 ≤ j ∧ j ≤ 5) ∨ (j = 0 ∧ i = 0)))) M (stM N k n w x y) := by
      intro c p j i z
      unfold stM
      rw [u_mis (by omega), u_mis (by omega), u_mis (by omega), u_mis (by omega), u_mis (by omega), eqT_cell hN (by omega)]
      unfold stC
      rw [u_mis (by omega), u_mis (by omega), u_mis (by omega), u_mis (by omega)]
    have eA : mA N = mA M := (eqT_mA hN).trans (by
      funext j i
      show (stC M k n w x y).1 10 0 j i = M.1 10 0 j i
      unfold stC
      rw [u_mis (by omega), u_mis (by omega), u_mis (by omega), u_mis (by omega)])
    have ct : telE (stA (mA M) k n w x y) (mA (stM N k n w x y)) := by rw [← eA]; exact stM_telE
    have wst : wfA (stA (mA M) k n w x y) := wfA_a (telE_s ct) k3
    have sm : ∀ q, simA (mA M) (mA (stM N k n w x y)) q := fun q => simA_t (sim_step wf hn hh q) (sim_tel ct q)
    have c1 := stA_chE (a := mA M) (w := w) (x := x) (y := y) hn hh
    have bn : BI (mA (stM N k n w x y)) (stM N k n w x y) := BI_told wf b k2 k3 ⟨rfl, fun _ _ _ => rfl⟩ (fun q hq => ⟨fr 4 q 0 0 (by omega), Or.inr ⟨sm q, fun j i => fr 4 q j i (by omega)⟩⟩) (fr 10 0 0 18 (by omega)) (Or.inr ⟨fun q _ => sm q, fr 10 0 0 13 (by omega), fun j i hj => fr 10 0 j i (by omega)⟩)
    have jn : JR (mA M) (stM N k n w x y) B' := JR_frw fr (fun c p j i z => by omega) hB j
    have ln : LI (mA M) (stM N k n w x y) := LI_c (fr 5 0 0 6 (by omega)) (fr 5 0 0 7 (by omega)) l
    refine ⟨nI n, _, k1, ?_, fun _ => rfl, _, bn, JR_ch (ch_tel ct) (fun p _ => on_tel ct p) (JR_ch c1 (fun p _ => ?_) jn), LI_sim (ch_tel ct) (fun q _ => sim_tel ct q) wst k3 (LI_sim c1 (fun q _ => sim_step wf hn hh q) wf wst ln)⟩
    · unfold stM
      rw [u_mis (by omega), u_mis (by omega), u_mis (by omega), u_mis (by omega), u_hit]; rfl
    · unfold onA
      rw [stA_o (Or.inr (by decide))]
/-- behind a telling that ends the run -/
theorem GI_off {a b' : Nat → Nat → Int32} {M N1 : sm_M} {B B' : Nat} (b : BI a M) (j : JR a M B) (hB : B ≤ B') (fr : frw (fun c p j i => 10 < c ∨ c = 1 ∨ c = 2 ∨ (c = 4 ∧ j = 0 ∧ i = 10) ∨ (c = 5 ∧ p = 0 ∧ j = 0 ∧ i = 6) ∨ (c = 3 ∧ p = 0 ∧ j = 0 ∧ i = 5) ∨ (c = 10 ∧ p = 0 ∧ ((2 ≤ j ∧ j ≤ 13) ∨ (j = 0 ∧ (i = 0 ∨ i = 5 ∨ i = 13 ∨ i = 24))))) M N1)
    (rT : rTel b' N1) (wb : wfA b') (cb : cr b' N1) (hk : ∀ q, q < 3 → N1.1 4 q 0 10 = 0 ∨ (simA a b' q ∧ N1.1 4 q 0 10 = M.1 4 q 0 10)) (h13 : N1.1 10 0 0 13 = 0) (o1 : N1.1 3 0 0 5 = 0) (o2 : N1.1 10 0 0 24 = 0) (l6 : N1.1 5 0 0 6 = 0) : GI b' N1 B' :=
  ⟨BI_told b.2.1 b rT wb cb (fun q hq => ⟨fr 4 q 0 0 (by omega), (hk q hq).imp id (fun ⟨s, e⟩ => ⟨s, fun j i => by
    by_cases z : j = 0 ∧ i = 10
    · obtain ⟨rfl, rfl⟩ := z
      exact e
    · exact fr 4 q j i (by omega)⟩)⟩) (fr 10 0 0 18 (by omega)) (Or.inl h13), JR_off fr (fun c p j i z => by omega) hB o1 o2 j, Or.inl l6⟩
theorem GS_op {sc : Nat × (Nat → Int32)} {a : Nat → Nat → Int32} {M : sm_M} {B B' : Nat} (g0 : GI a M B) (hB : B ≤ B') (p w x y : Int32) : GSM (dn sc kTop_op 0 [.inr (.inr (9, 0, 0)), .inl p, .inl w, .inl x, .inl y] [] M) (fun N => dn sc kModel_op 0 [.inr (.inr (10, 0, 0)), .inl p, .inl w, .inl x, .inl y] [] N) nI B' := by
  have g := GI_tel g0
  obtain ⟨b, j, l⟩ := g
  have wf := b.2.1
  rcases S_op (sc := sc) b.1 wf p w x y with ⟨e, he, h1, h2⟩ | ⟨k, n, hk, hn, hh, h1, h2⟩
  · exact ⟨e + 1, 0, M, h1, fun N hN => ⟨0, _, h2 N hN, u_hit, fun z => by omega, _, GI_thr ⟨b, j, l⟩ hB hN⟩⟩
  · refine ⟨0, nI n, _, h1, fun N hN => ?_⟩
    obtain ⟨k1, k2, k3⟩ := h2 N hN
    have cN : ∀ c p j i, c ≤ 10 → N.1 c p j i = (opC M k n w x y).1 c p j i := fun c p j i hc => eqT_cell hN hc p j i
    have eC : ∀ c p j i, ¬ (c = 2 ∨ (c = 4 ∧ p = k ∧ j = 0 ∧ i = 10) ∨ (c = 5 ∧ p = 0 ∧ j = 0 ∧ i = 6) ∨ (c = 3 ∧ p = 0 ∧ j = 0 ∧ i = 5)) → (opC M k n w x y).1 c p j i = M.1 c p j i := by
      intro c p j i z
      unfold opC forgets
      rw [u_mis (by omega), u_mis (by omega), u_mis (by omega), u_mis (by omega), u_mis (by omega), u_mis (by omega), u_mis (by omega)]
    have eM : ∀ c p j i, ¬ (c = 10 ∧ p = 0 ∧ ((10 ≤ j ∧ j ≤ 13) ∨ (j = 0 ∧ (i = 0 ∨ i = 13 ∨ i = 24)))) → (opM N k n w x y).1 c p j i = N.1 c p j i := by
      intro c p j i z
      unfold opM changed
      rw [u_mis (by omega), u_mis (by omega), u_mis (by omega), u_mis (by omega), u_mis (by omega), u_mis (by omega), u_mis (by omega)]
    have eA : mA N = mA M := (eqT_mA hN).trans (by
      funext j i
      exact eC 10 0 j i (by omega))
    have ct : telE (opA (mA M) k n w x y) (mA (opM N k n w x y)) := by rw [← eA]; exact opM_telE
    have z4 : (opM N k n w x y).1 4 k 0 10 = 0 := by
      rw [eM _ _ _ _ (by omega), cN _ _ _ _ (by decide)]
      unfold opC forgets
      rw [u_mis (by omega), u_mis (by omega), u_mis (by omega), u_mis (by omega), u_mis (by omega), u_mis (by omega), u_hit]
    refine ⟨nI n, _, k1, ?_, fun _ => rfl, _, GI_off (b' := mA (opM N k n w x y)) b j hB (fun c p j i z => ?_) k2 k3 ⟨rfl, fun _ _ _ => rfl⟩ (fun q hq => ?_) ?_ ?_ ?_ ?_⟩
    · unfold opM changed
      rw [u_mis (by omega), u_mis (by omega), u_mis (by omega), u_mis (by omega), u_mis (by omega), u_mis (by omega), u_hit]; rfl
    · rw [eM c p j i (by omega), cN _ _ _ _ (by omega), eC c p j i (by omega)]
    · by_cases z : q = k
      · subst z; exact Or.inl z4
      · refine Or.inr ⟨simA_t (sim_op wf hn hq z) (sim_tel ct q), ?_⟩
        rw [eM _ _ _ _ (by omega), cN _ _ _ _ (by decide), eC _ _ _ _ (by omega)]
    · unfold opM changed
      rw [u_mis (by omega), u_hit]
    · rw [eM _ _ _ _ (by omega), cN _ _ _ _ (by decide)]
      unfold opC forgets
      rw [u_mis (by omega), u_mis (by omega), u_mis (by omega), u_mis (by omega), u_hit]
    · unfold opM changed
      rw [u_hit]
    · rw [eM _ _ _ _ (by omega), cN _ _ _ _ (by decide)]
      unfold opC forgets
      rw [u_mis (by omega), u_mis (by omega), u_mis (by omega), u_mis (by omega), u_mis (by omega), u_hit]
def mpU (e : Nat) : Int32 := if e = 3 then 2 else nI e
theorem GS_unop {sc : Nat × (Nat → Int32)} {a : Nat → Nat → Int32} {M : sm_M} {B B' : Nat} (g0 : GI a M B) (hB : B ≤ B') (p : Int32) : GSM (dn sc kTop_unop 0 [.inr (.inr (9, 0, 0)), .inl p] [] M) (fun N => dn sc kModel_unop 0 [.inr (.inr (10, 0, 0)), .inl p] [] N) mpU B' := by
  have g := GI_tel g0
  obtain ⟨b, j, l⟩ := g
  have wf := b.2.1
  rcases S_unop (sc := sc) b.1 wf p with ⟨e, f, he, h1, h2⟩ | ⟨k, n, hk, hn, hh, h1, h2⟩
  · refine ⟨e, 0, M, h1, fun N hN => ⟨0, _, h2 N hN, ?_, fun z => by omega, _, GI_thr ⟨b, j, l⟩ hB hN⟩⟩
    rw [u_hit]
    rcases he with ⟨rfl, rfl⟩ | ⟨rfl, rfl⟩ <;> rfl
  · refine ⟨0, nI n, _, h1, fun N hN => ?_⟩
    obtain ⟨k1, k2, k3⟩ := h2 N hN
    have cN : ∀ c p j i, c ≤ 10 → N.1 c p j i = (unC M k n).1 c p j i := fun c p j i hc => eqT_cell hN hc p j i
    have eC : ∀ c p j i, ¬ (c = 2 ∨ (c = 4 ∧ p = k ∧ j = 0 ∧ i = 10) ∨ (c = 5 ∧ p = 0 ∧ j = 0 ∧ i = 6) ∨ (c = 3 ∧ p = 0 ∧ j = 0 ∧ i = 5)) → (unC M k n).1 c p j i = M.1 c p j i := by
      intro c p j i z
      unfold unC forgets
      rw [u_mis (by omega), u_mis (by omega), u_mis (by omega), u_mis (by omega)]
    have eM : ∀ c p j i, ¬ (c = 10 ∧ p = 0 ∧ ((10 ≤ j ∧ j ≤ 13) ∨ (j = 0 ∧ (i = 0 ∨ i = 13 ∨ i = 24)))) → (unM N k n).1 c p j i = N.1 c p j i := by
      intro c p j i z
      unfold unM changed
      rw [u_mis (by omega), u_mis (by omega), u_mis (by omega), u_mis (by omega)]
    have eA : mA N = mA M := (eqT_mA hN).trans (by
      funext j i
      exact eC 10 0 j i (by omega))
    have ct : telE (unA (mA M) k n) (mA (unM N k n)) := by rw [← eA]; exact unM_telE
    refine ⟨nI n, _, k1, ?_, fun _ => rfl, _, GI_off (b' := mA (unM N k n)) b j hB (fun c p j i z => ?_) k2 k3 ⟨rfl, fun _ _ _ => rfl⟩ (fun q hq => ?_) ?_ ?_ ?_ ?_⟩
    · unfold unM changed
      rw [u_mis (by omega), u_mis (by omega), u_mis (by omega), u_hit]; rfl
    · rw [eM c p j i (by omega), cN _ _ _ _ (by omega), eC c p j i (by omega)]
    · by_cases z : q = k
      · subst z
        refine Or.inl ?_
        rw [eM _ _ _ _ (by omega), cN _ _ _ _ (by decide)]
        unfold unC forgets
        rw [u_mis (by omega), u_mis (by omega), u_mis (by omega), u_hit]
      · refine Or.inr ⟨simA_t (sim_unop wf (by omega) z) (sim_tel ct q), ?_⟩
        rw [eM _ _ _ _ (by omega), cN _ _ _ _ (by decide), eC _ _ _ _ (by omega)]
    · unfold unM changed
      rw [u_mis (by omega), u_hit]
    · rw [eM _ _ _ _ (by omega), cN _ _ _ _ (by decide)]
      unfold unC forgets
      rw [u_mis (by omega), u_hit]
    · unfold unM changed
      rw [u_hit]
    · rw [eM _ _ _ _ (by omega), cN _ _ _ _ (by decide)]
      unfold unC forgets
      rw [u_mis (by omega), u_mis (by omega), u_hit]
theorem GS_channel {sc : Nat × (Nat → Int32)} {a : Nat → Nat → Int32} {M : sm_M} {B B' : Nat} (g0 : GI a M B) (hB : B ≤ B') (p x y : Int32) : GSM (dn sc kTop_channel 0 [.inr (.inr (9, 0, 0)), .inl p, .inl x, .inl y] [] M) (fun N => dn sc kModel_channel 0 [.inr (.inr (10, 0, 0)), .inl p, .inl x, .inl y] [] N) nI B' := by
  have g := GI_tel g0
  obtain ⟨b, j, l⟩ := g
  have wf := b.2.1
  rcases S_channel (sc := sc) b.1 wf p x y with ⟨e, he, h1, h2⟩ | ⟨q, l0, r0, M', hq, hl, hr, hlr, hc, md, h1, h2⟩
  · exact ⟨e + 1, 0, M, h1, fun N hN => ⟨0, _, h2 N hN, u_hit, fun z => by omega, _, GI_thr ⟨b, j, l⟩ hB hN⟩⟩
  · refine ⟨0, nI (cnA (mA M)), _, h1, fun N hN => ?_⟩
    obtain ⟨k1, k2, k3⟩ := h2 N hN
    have cN : ∀ c p j i, c ≤ 10 → N.1 c p j i = (sm_u M' 1 0 0 6 (nI (cnA (mA M) + 1))).1 c p j i := fun c p j i hc => eqT_cell hN hc p j i
    have eC0 : ∀ c p j i, ¬ c = 1 → (sm_u M' 1 0 0 6 (nI (cnA (mA M) + 1))).1 c p j i = (forgets (forgets M l0) r0).1 c p j i := by
      intro c p j i z
      rw [u_mis (by omega), md.1 c p j i (by omega)]
      unfold ch3
      rw [u_mis (by omega), u_mis (by omega), u_mis (by omega)]
    have eC : ∀ c p j i, ¬ (c = 1 ∨ (c = 4 ∧ (p = l0 ∨ p = r0) ∧ j = 0 ∧ i = 10) ∨ (c = 5 ∧ p = 0 ∧ j = 0 ∧ i = 6) ∨ (c = 3 ∧ p = 0 ∧ j = 0 ∧ i = 5)) → (sm_u M' 1 0 0 6 (nI (cnA (mA M) + 1))).1 c p j i = M.1 c p j i := by
      intro c p j i z
      rw [eC0 c p j i (by omega)]
      unfold forgets
      rw [u_mis (by omega), u_mis (by omega), u_mis (by omega), u_mis (by omega), u_mis (by omega), u_mis (by omega)]
    have eM : ∀ c p j i, ¬ (c = 10 ∧ p = 0 ∧ ((7 ≤ j ∧ j ≤ 9) ∨ (j = 0 ∧ (i = 0 ∨ i = 5 ∨ i = 13 ∨ i = 24)))) → (mch N (cnA (mA M)) (nI q) (nI l0) (nI r0)).1 c p j i = N.1 c p j i := by
      intro c p j i z
      unfold mch changed
      rw [u_mis (by omega), u_mis (by omega), u_mis (by omega), u_mis (by omega), u_mis (by omega), u_mis (by omega), u_mis (by omega)]
    have eA : mA N = mA M := (eqT_mA hN).trans (by
      funext j i
      exact eC 10 0 j i (by omega))
    have ct : telE (chA (mA M) (cnA (mA M)) q l0 r0) (mA (mch N (cnA (mA M)) (nI q) (nI l0) (nI r0))) := by
      have h : telE (chA (mA N) (cnA (mA M)) q l0 r0) (mA (mch N (cnA (mA M)) (nI q) (nI l0) (nI r0))) := mch_telE
      rwa [eA] at h
    refine ⟨nI (cnA (mA M)), _, k1, ?_, fun _ => rfl, _, GI_off (b' := mA (mch N (cnA (mA M)) (nI q) (nI l0) (nI r0))) b j hB (fun c p j i z => ?_) k2 k3 ⟨rfl, fun _ _ _ => rfl⟩ (fun q' hq' => ?_) ?_ ?_ ?_ ?_⟩
    · unfold mch changed
      rw [u_mis (by omega), u_mis (by omega), u_mis (by omega), u_mis (by omega), u_mis (by omega), u_mis (by omega), u_hit]; rfl
    · rw [eM c p j i (by omega), cN _ _ _ _ (by omega), eC c p j i (by omega)]
    · by_cases z : q' = r0
      · subst z
        refine Or.inl ?_
        rw [eM _ _ _ _ (by omega), cN _ _ _ _ (by decide), eC0 _ _ _ _ (by decide)]
        unfold forgets
        rw [u_mis (by omega), u_mis (by omega), u_hit]
      by_cases z2 : q' = l0
      · subst z2
        refine Or.inl ?_
        rw [eM _ _ _ _ (by omega), cN _ _ _ _ (by decide), eC0 _ _ _ _ (by decide)]
        unfold forgets
        rw [u_mis (by omega), u_mis (by omega), u_mis (by omega), u_mis (by omega), u_mis (by omega), u_hit]
      · refine Or.inr ⟨simA_t (sim_chan wf hc hq hl hr z2 z) (sim_tel ct q'), ?_⟩
        rw [eM _ _ _ _ (by omega), cN _ _ _ _ (by decide), eC _ _ _ _ (by omega)]
    · unfold mch changed
      rw [u_mis (by omega), u_hit]
    · rw [eM _ _ _ _ (by omega), cN _ _ _ _ (by decide), eC0 _ _ _ _ (by decide)]
      unfold forgets
      rw [u_hit]
    · unfold mch changed
      rw [u_hit]
    · rw [eM _ _ _ _ (by omega), cN _ _ _ _ (by decide), eC0 _ _ _ _ (by decide)]
      unfold forgets
      rw [u_mis (by omega), u_hit]
