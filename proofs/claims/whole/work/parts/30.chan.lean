/-! LEVEL B: channel -/
/-- the memory where a channel's protocol and sides were put -/
def ch3 (M : sm_M) (c : Nat) (p l r' : Int32) : sm_M := sm_u (sm_u (sm_u M 1 0 1 c p) 1 0 2 c l) 1 0 3 c r'
theorem P_cAdd {sc : Nat × (Nat → Int32)} {a : Nat → Nat → Int32} {M : sm_M} (r : rCh a M) {q n l r' : Nat} {W A B : Nat → Int32} (p : Int32) (hq : rP M q n W A B) (hl : l < 3) (hr : r' < 3) (hlr : l ≠ r') (hc : cnA a < 3) :
    ∃ M', mid (cnA a) l r' W A B n (ch3 M (cnA a) p (nI l) (nI r')) M' ∧ dn sc kChannels_add 0 [.inr (.inr (1, 0, 0)), .inl p, .inr (.inr (8, q, 0)), .inl (nI l), .inl (nI r')] [] M = some (0, .inl (nI (cnA a)), sm_u M' 1 0 0 6 (nI (cnA a + 1))) := by
  have h := r.1
  have hq3 : rP (ch3 M (cnA a) p (nI l) (nI r')) q n W A B := hq
  have h3 : (ch3 M (cnA a) p (nI l) (nI r')).1 1 0 0 6 = nI (cnA a) := h
  obtain ⟨M', hm, e⟩ := P_cAdd5 (sc := sc) hq3 hl hr hlr hc h3 n 0 _ (by omega) mid_0
  refine ⟨M', hm, ?_⟩
  have hM' : M'.1 1 0 0 6 = nI (cnA a) := (hm.1 1 0 0 6 (by omega)).trans h3
  rw [E_Channels_add_0, P_cFull r, r1_s, decide_eq_false (by omega), if_pos (show bI false = 0 from rfl), P_within, r1_s, show (3 : Int32) = nI 3 from rfl, within_nI (by omega) (by decide), decide_eq_true hl, if_neg (show ¬ bI true = 0 by decide), P_within, r1_s, within_nI (by omega) (by decide), decide_eq_true hr, if_neg (show ¬ bI true = 0 by decide)]
  simp only [u_1, Nat.reduceEqDiff, false_and, and_false, if_false, h, i_ib hc (by decide), if_true, i_cl (show cnA a < 2147483648 by omega)]
  refine Eq.trans e ?_
  rw [E_Channels_add_8, hM', u_1, if_pos (show (1 = 1 ∧ 0 = 0 ∧ 0 = 0 ∧ 6 = 6) by decide), nI_1, nI_pred]
theorem rCh_forgets {a : Nat → Nat → Int32} {M : sm_M} {k : Nat} (r : rCh a M) : rCh a (forgets M k) := r
theorem P_tChannel {sc : Nat × (Nat → Int32)} {a : Nat → Nat → Int32} {M : sm_M} (r : rTel a M) (p x y : Int32) :
    (wN p 3 && (wN x 3 && wN y 3)) = false ∧ dn sc kTop_channel 0 [.inr (.inr (9, 0, 0)), .inl p, .inl x, .inl y] [] M = some (1, .inl 0, M) ∨
    (∃ q l r', q < 3 ∧ l < 3 ∧ r' < 3 ∧ p = nI q ∧ x = nI l ∧ y = nI r' ∧
      (l = r' ∧ dn sc kTop_channel 0 [.inr (.inr (9, 0, 0)), .inl p, .inl x, .inl y] [] M = some (2, .inl 0, M) ∨
       l ≠ r' ∧ (decide (cnA a = 3) || !(((List.range' 0 (pnA a q)).all (whS (pnA a q) (wA a q) (kA a q) (bA a q))) && decide (0 < pnA a q))) = true ∧ dn sc kTop_channel 0 [.inr (.inr (9, 0, 0)), .inl p, .inl x, .inl y] [] M = some (3, .inl 0, M) ∨
       l ≠ r' ∧ cnA a < 3 ∧ (((List.range' 0 (pnA a q)).all (whS (pnA a q) (wA a q) (kA a q) (bA a q))) && decide (0 < pnA a q)) = true ∧
         ∃ M', mid (cnA a) l r' (wA a q) (kA a q) (bA a q) (pnA a q) (ch3 (forgets (forgets M l) r') (cnA a) (nI q) (nI l) (nI r')) M' ∧ dn sc kTop_channel 0 [.inr (.inr (9, 0, 0)), .inl p, .inl x, .inl y] [] M = some (0, .inl (nI (cnA a)), sm_u M' 1 0 0 6 (nI (cnA a + 1))))) := by
  rw [E_Top_channel_0, P_within, r1_s, show (!decide (p < 0) && decide (p < 3)) = wN p 3 from rfl]
  cases hp : wN p 3 with
  | false => refine Or.inl ⟨rfl, ?_⟩; rw [if_pos (show bI false = 0 from rfl)]
  | true =>
    rw [if_neg (show ¬ bI true = 0 by decide), P_within, r1_s, show (!decide (x < 0) && decide (x < 3)) = wN x 3 from rfl]
    cases hx : wN x 3 with
    | false => refine Or.inl ⟨rfl, ?_⟩; rw [if_pos (show bI false = 0 from rfl)]
    | true =>
      rw [if_neg (show ¬ bI true = 0 by decide), P_within, r1_s, show (!decide (y < 0) && decide (y < 3)) = wN y 3 from rfl]
      cases hy : wN y 3 with
      | false => refine Or.inl ⟨rfl, ?_⟩; rw [if_pos (show bI false = 0 from rfl)]
      | true =>
        obtain ⟨q, hq, rfl⟩ := wN_of (n := 3) (by decide) hp
        obtain ⟨l, hl, rfl⟩ := wN_of (n := 3) (by decide) hx
        obtain ⟨r', hr, rfl⟩ := wN_of (n := 3) (by decide) hy
        refine Or.inr ⟨q, l, r', hq, hl, hr, rfl, rfl, rfl, ?_⟩
        have rq := r.1 q hq
        have hc := r.2.2.2.1
        rw [if_neg (show ¬ bI true = 0 by decide)]
        by_cases e : l = r'
        · refine Or.inl ⟨e, ?_⟩
          rw [if_pos (by rw [e])]
        rw [if_neg (by rw [i_eq (by omega) (by omega)]; exact e), P_cFull r.2.2, r1_s]
        by_cases c3 : cnA a = 3
        · refine Or.inr (Or.inl ⟨e, by rw [decide_eq_true c3]; rfl, ?_⟩)
          rw [decide_eq_true c3, if_neg (show ¬ bI true = 0 by decide)]
        rw [decide_eq_false c3, if_pos (show bI false = 0 from rfl), i_ib hq (by decide), if_pos rfl, i_cl (by omega), P_pWhole rq, r1_s]
        cases hw : ((List.range' 0 (pnA a q)).all (whS (pnA a q) (wA a q) (kA a q) (bA a q))) && decide (0 < pnA a q) with
        | false =>
          refine Or.inr (Or.inl ⟨e, rfl, ?_⟩)
          rw [if_pos (show bI false = 0 from rfl)]
        | true =>
          refine Or.inr (Or.inr ⟨e, by omega, rfl, ?_⟩)
          obtain ⟨M', hm, e'⟩ := P_cAdd (sc := sc) (M := forgets (forgets M l) r') (rCh_forgets (rCh_forgets r.2.2)) (nI q) (show rP (forgets (forgets M l) r') q (pnA a q) (wA a q) (kA a q) (bA a q) from rq) hl hr e (by omega)
          refine ⟨M', hm, ?_⟩
          rw [if_neg (show ¬ bI true = 0 by decide), P_tForget hl, r0_s, P_tForget hr, r0_s, if_pos rfl, e', r1_s]
