/-! LEVEL B: channel on both sides -/
theorem S_channel {sc : Nat × (Nat → Int32)} {M : sm_M} (r : rTel (mA M) M) (wf : wfA (mA M)) (p x y : Int32) :
    (∃ e, e < 3 ∧ dn sc kTop_channel 0 [.inr (.inr (9, 0, 0)), .inl p, .inl x, .inl y] [] M = some (e + 1, .inl 0, M) ∧ ∀ N, eqT M N → dn sc kModel_channel 0 [.inr (.inr (10, 0, 0)), .inl p, .inl x, .inl y] [] N = some (0, .inl 0, sm_u N 10 0 0 0 (nI (e + 1)))) ∨
    (∃ q l r' M', q < 3 ∧ l < 3 ∧ r' < 3 ∧ l ≠ r' ∧ cnA (mA M) < 3 ∧ mid (cnA (mA M)) l r' (wA (mA M) q) (kA (mA M) q) (bA (mA M) q) (pnA (mA M) q) (ch3 (forgets (forgets M l) r') (cnA (mA M)) (nI q) (nI l) (nI r')) M' ∧
      dn sc kTop_channel 0 [.inr (.inr (9, 0, 0)), .inl p, .inl x, .inl y] [] M = some (0, .inl (nI (cnA (mA M))), sm_u M' 1 0 0 6 (nI (cnA (mA M) + 1))) ∧
      ∀ N, eqT (sm_u M' 1 0 0 6 (nI (cnA (mA M) + 1))) N → dn sc kModel_channel 0 [.inr (.inr (10, 0, 0)), .inl p, .inl x, .inl y] [] N = some (0, .inl (nI (cnA (mA M))), mch N (cnA (mA M)) (nI q) (nI l) (nI r')) ∧ rTel (mA (mch N (cnA (mA M)) (nI q) (nI l) (nI r'))) (mch N (cnA (mA M)) (nI q) (nI l) (nI r')) ∧ wfA (mA (mch N (cnA (mA M)) (nI q) (nI l) (nI r')))) := by
  have nIi : ∀ {u v : Nat}, u < 3 → v < 3 → nI u = nI v → u = v := fun hu hv h => (nI_eq (by omega) (by omega)).mp h
  rcases P_tChannel (sc := sc) r p x y with ⟨h1, h2⟩ | ⟨q, l, r', hq, hl, hr, rfl, rfl, rfl, h⟩
  · refine Or.inl ⟨0, by decide, h2, fun N hN => ?_⟩
    have hm := eqT_mA hN
    rcases P_mChannel (sc := sc) (M := N) (hm ▸ wf) p x y with ⟨_, h4⟩ | ⟨q, l, r', hq, hl, hr, rfl, rfl, rfl, _⟩
    · exact h4
    · rw [show (3 : Int32) = nI 3 from rfl, wN_nI (by omega) (by decide), wN_nI (by omega) (by decide), wN_nI (by omega) (by decide), decide_eq_true hq, decide_eq_true hl, decide_eq_true hr] at h1
      cases h1
  · have hg : ¬ (wN (nI q) 3 && (wN (nI l) 3 && wN (nI r') 3)) = false := by
      rw [show (3 : Int32) = nI 3 from rfl, wN_nI (by omega) (by decide), wN_nI (by omega) (by decide), wN_nI (by omega) (by decide), decide_eq_true hq, decide_eq_true hl, decide_eq_true hr]
      decide
    have mod : ∀ N, mA N = mA M → _ := fun N hm => (P_mChannel (sc := sc) (M := N) (hm ▸ wf) (nI q) (nI l) (nI r')).resolve_left (fun z => hg z.1)
    rcases h with ⟨e, h2⟩ | ⟨e, hc, h2⟩ | ⟨e, hc, hw, M', hmid, h2⟩
    · refine Or.inl ⟨1, by decide, h2, fun N hN => ?_⟩
      obtain ⟨q1, l1, r1, a1, a2, a3, b1, b2, b3, hh⟩ := mod N (eqT_mA hN)
      obtain rfl := nIi hq a1 b1
      obtain rfl := nIi hl a2 b2
      obtain rfl := nIi hr a3 b3
      rcases hh with ⟨_, h5⟩ | ⟨e', _⟩ | ⟨e', _⟩
      · exact h5
      · exact absurd e e'
      · exact absurd e e'
    · refine Or.inl ⟨2, by decide, h2, fun N hN => ?_⟩
      have hm := eqT_mA hN
      obtain ⟨q1, l1, r1, a1, a2, a3, b1, b2, b3, hh⟩ := mod N hm
      obtain rfl := nIi hq a1 b1
      obtain rfl := nIi hl a2 b2
      obtain rfl := nIi hr a3 b3
      rw [hm] at hh
      rcases hh with ⟨e', _⟩ | ⟨_, _, h5⟩ | ⟨_, c3, w3, _⟩
      · exact absurd e' e
      · exact h5
      · rw [w3, decide_eq_false (by omega)] at hc
        cases hc
    · refine Or.inr ⟨q, l, r', M', hq, hl, hr, e, hc, hmid, h2, fun N hN => ?_⟩
      have hM' : mA (sm_u M' 1 0 0 6 (nI (cnA (mA M) + 1))) = mA M := by
        funext j i
        exact hmid.1 10 0 j i (by omega)
      have hm := (eqT_mA hN).trans hM'
      obtain ⟨q1, l1, r1, a1, a2, a3, b1, b2, b3, hh⟩ := mod N hm
      obtain rfl := nIi hq a1 b1
      obtain rfl := nIi hl a2 b2
      obtain rfl := nIi hr a3 b3
      rw [hm] at hh
      refine ⟨?_, ?_, ?_⟩
      · rcases hh with ⟨e', _⟩ | ⟨_, c3, _⟩ | ⟨_, _, _, h5⟩
        · exact absurd e' e
        · rw [hw, decide_eq_false (show ¬ cnA (mA M) = 3 by omega)] at c3
          cases c3
        · exact h5
      · refine rTel_a mch_telE ?_
        rw [hm]
        exact rTel_M (rTel_chan r hq hl hr e hc hmid) (hN 1 (by decide)).1 (hN 2 (by decide)).1 (hN 8 (by decide)).1
      · refine wfA_a mch_telE ?_
        rw [hm]
        exact wfA_chan wf hq hl hr e hc hw
