/-! LEVEL B: a channel is made, in the class -/
theorem P_turned (sc : Nat × (Nat → Int32)) (M : sm_M) (x : Int32) : dn sc kChannels_turned 0 [.inl x] [] M = some (0, .inl (trn x), M) := by
  rw [E_Channels_turned_0]
  unfold trn
  repeat' split
  all_goals rfl
/-- the tables of a channel c between l and r' are written up to the step i, of n steps W, A, B -/
def mid (c l r' : Nat) (W A B : Nat → Int32) (i : Nat) (M0 M : sm_M) : Prop :=
  (∀ c' p' j' i', ¬ (c' = 1 ∧ p' = 0 ∧ (j' = 4 ∨ j' = 5 ∨ j' = 6)) → M.1 c' p' j' i' = M0.1 c' p' j' i') ∧ M.2 = M0.2 ∧
  (∀ d p s, p < 3 → s < 8 → M.1 1 0 4 ((d * 3 + p) * 8 + s) = if d = c ∧ s < i ∧ p = l then W s else if d = c ∧ s < i ∧ p = r' then trn (W s) else M0.1 1 0 4 ((d * 3 + p) * 8 + s)) ∧
  (∀ d s, s < 8 → M.1 1 0 5 (d * 8 + s) = if d = c ∧ s < i then A s else M0.1 1 0 5 (d * 8 + s)) ∧
  (∀ d s way, s < 8 → way < 2 → M.1 1 0 6 ((d * 8 + s) * 2 + way) = if d = c ∧ s < i then nxS W A B s way else M0.1 1 0 6 ((d * 8 + s) * 2 + way))
theorem mid_0 {c l r' : Nat} {W A B : Nat → Int32} {M : sm_M} : mid c l r' W A B 0 M M := by
  refine ⟨fun _ _ _ _ _ => rfl, rfl, fun d p s _ _ => ?_, fun d s _ => ?_, fun d s way _ _ => ?_⟩
  · rw [if_neg (by omega), if_neg (by omega)]
  · rw [if_neg (by omega)]
  · rw [if_neg (by omega)]
def addS (c l r' i : Nat) (W A B : Nat → Int32) (M : sm_M) : sm_M :=
  sm_u (sm_u (sm_u (sm_u (sm_u M 1 0 4 ((c * 3 + l) * 8 + i) (W i)) 1 0 4 ((c * 3 + r') * 8 + i) (trn (W i))) 1 0 5 (c * 8 + i) (A i)) 1 0 6 ((c * 8 + i) * 2) (nxS W A B i 0)) 1 0 6 ((c * 8 + i) * 2 + 1) (nxS W A B i 1)
theorem mid_s {c l r' : Nat} {W A B : Nat → Int32} {i : Nat} {M0 M : sm_M} (hl : l < 3) (hr : r' < 3) (hlr : l ≠ r') (hi : i < 8) (m : mid c l r' W A B i M0 M) : mid c l r' W A B (i + 1) M0 (addS c l r' i W A B M) := by
  obtain ⟨m1, m2, m3, m4, m5⟩ := m
  refine ⟨fun c' p' j' i' h => ?_, m2, fun d p s hp hs => ?_, fun d s hs => ?_, fun d s way hs hw => ?_⟩
  · unfold addS
    simp only [u_1]
    rw [if_neg (fun q => h ⟨q.1, q.2.1, Or.inr (Or.inr q.2.2.1)⟩), if_neg (fun q => h ⟨q.1, q.2.1, Or.inr (Or.inr q.2.2.1)⟩), if_neg (fun q => h ⟨q.1, q.2.1, Or.inr (Or.inl q.2.2.1)⟩), if_neg (fun q => h ⟨q.1, q.2.1, Or.inl q.2.2.1⟩), if_neg (fun q => h ⟨q.1, q.2.1, Or.inl q.2.2.1⟩)]
    exact m1 c' p' j' i' h
  · unfold addS
    simp only [u_1, true_and, Nat.reduceEqDiff, false_and, if_false]
    rw [m3 d p s hp hs]
    by_cases q : d = c ∧ s = i
    · obtain ⟨rfl, rfl⟩ := q
      by_cases ql : p = l
      · subst ql
        rw [if_neg (by omega), if_pos rfl, if_pos ⟨rfl, by omega, rfl⟩]
      · by_cases qr : p = r'
        · subst qr
          rw [if_pos rfl, if_neg (fun z => ql z.2.2), if_pos ⟨rfl, by omega, rfl⟩]
        · rw [if_neg (by omega), if_neg (by omega), if_neg (by omega), if_neg (by omega), if_neg (fun z => ql z.2.2), if_neg (fun z => qr z.2.2)]
    · rw [if_neg (by omega), if_neg (by omega)]
      by_cases q1 : d = c ∧ s < i ∧ p = l
      · rw [if_pos q1, if_pos ⟨q1.1, by omega, q1.2.2⟩]
      rw [if_neg q1, if_neg (show ¬(d = c ∧ s < i + 1 ∧ p = l) by omega)]
      by_cases q2 : d = c ∧ s < i ∧ p = r'
      · rw [if_pos q2, if_pos ⟨q2.1, by omega, q2.2.2⟩]
      rw [if_neg q2, if_neg (show ¬(d = c ∧ s < i + 1 ∧ p = r') by omega)]
  · unfold addS
    simp only [u_1, true_and, Nat.reduceEqDiff, false_and, if_false]
    rw [m4 d s hs]
    by_cases q : d = c ∧ s = i
    · obtain ⟨rfl, rfl⟩ := q
      rw [if_pos rfl, if_pos ⟨rfl, by omega⟩]
    · rw [if_neg (by omega)]
      by_cases q1 : d = c ∧ s < i
      · rw [if_pos q1, if_pos ⟨q1.1, by omega⟩]
      · rw [if_neg q1, if_neg (by omega)]
  · unfold addS
    simp only [u_1, true_and, Nat.reduceEqDiff, false_and, if_false]
    rw [m5 d s way hs hw]
    by_cases q : d = c ∧ s = i
    · obtain ⟨rfl, rfl⟩ := q
      rcases (show way = 0 ∨ way = 1 by omega) with rfl | rfl
      · rw [if_neg (by omega), if_pos (by omega), if_pos ⟨rfl, by omega⟩]
      · rw [if_pos rfl, if_pos ⟨rfl, by omega⟩]
    · rw [if_neg (by omega), if_neg (by omega)]
      by_cases q1 : d = c ∧ s < i
      · rw [if_pos q1, if_pos ⟨q1.1, by omega⟩]
      · rw [if_neg q1, if_neg (by omega)]
theorem rP_u1 {M : sm_M} {p n : Nat} {w a b : Nat → Int32} {j i : Nat} {x : Int32} (r : rP M p n w a b) : rP (sm_u M 1 0 j i x) p n w a b := r
theorem P_cAdd5 {sc : Nat × (Nat → Int32)} {M0 : sm_M} {q n c l r' : Nat} {W A B : Nat → Int32} (hq : rP M0 q n W A B) (hl : l < 3) (hr : r' < 3) (hlr : l ≠ r') (hc : c < 3) (h0 : M0.1 1 0 0 6 = nI c) : ∀ (k i : Nat) (M : sm_M), i + k = n → mid c l r' W A B i M0 M →
    ∃ M', mid c l r' W A B n M0 M' ∧ dn sc kChannels_add 5 [.inr (.inr (1, 0, 0)), .inr (.inr (8, q, 0)), .inl (nI l), .inl (nI r'), .inl (nI i)] [] M = dn sc kChannels_add 8 [.inr (.inr (1, 0, 0))] [] M' := by
  have hn := hq.2.1
  intro k
  induction k with
  | zero =>
    intro i M hi m
    have e : M.1 8 q 0 3 = nI n := (m.1 8 q 0 3 (by omega)).trans hq.1
    refine ⟨M, (show i = n by omega) ▸ m, ?_⟩
    rw [E_Channels_add_5, P_pSize, r1_s, e, if_neg (by rw [i_lt (by omega) (by omega)]; omega)]
  | succ k ih =>
    intro i M hi m
    have hqM : rP M q n W A B := ⟨(m.1 8 q 0 3 (by omega)).trans hq.1, hn, fun s hs => ⟨(m.1 8 q 1 s (by omega)).trans (hq.2.2 s hs).1, (m.1 8 q 2 s (by omega)).trans (hq.2.2 s hs).2.1, (m.1 8 q 3 s (by omega)).trans (hq.2.2 s hs).2.2⟩⟩
    have hcM : M.1 1 0 0 6 = nI c := (m.1 1 0 0 6 (by omega)).trans h0
    obtain ⟨M', hm', e'⟩ := ih (i + 1) (addS c l r' i W A B M) (by omega) (mid_s hl hr hlr (by omega) m)
    refine ⟨M', hm', ?_⟩
    rw [← e']
    have eA : ∀ p, p < 3 → ((nI c * 3 + nI p) * 8 + nI i) = nI ((c * 3 + p) * 8 + i) := fun p _ => by rw [show (3 : Int32) = nI 3 from rfl, show (8 : Int32) = nI 8 from rfl, i_mul, nI_add, i_mul, nI_add]
    have eB : nI c * 8 + nI i = nI (c * 8 + i) := by rw [show (8 : Int32) = nI 8 from rfl, i_mul, nI_add]
    have eC : nI (c * 8 + i) * 2 = nI ((c * 8 + i) * 2) := by rw [show (2 : Int32) = nI 2 from rfl, i_mul]
    have eD : nI ((c * 8 + i) * 2) + 1 = nI ((c * 8 + i) * 2 + 1) := nI_1 _
    have hin : i < n := by omega
    rw [E_Channels_add_5, P_pSize, r1_s, hqM.1, if_pos (by rw [i_lt (by omega) (by omega)]; omega), show (8 : Int32) = nI 8 from rfl, if_pos (by rw [i_lt (by omega) (by omega)]; omega), P_pWhat hqM hin, r1_s, show nI 8 = (8 : Int32) from rfl, hcM, eA l hl, i_ib (show (c * 3 + l) * 8 + i < 72 by omega) (by decide), if_pos rfl, i_cl (by omega), P_pWhat (rP_u1 hqM) hin, r1_s, P_turned, r1_s]
    simp only [u_1, Nat.reduceEqDiff, false_and, and_false, if_false, hcM, eA r' hr, i_ib (show (c * 3 + r') * 8 + i < 72 by omega) (by decide), if_true, i_cl (show (c * 3 + r') * 8 + i < 2147483648 by omega)]
    rw [P_pKind (rP_u1 (rP_u1 hqM)) hin, r1_s]
    simp only [u_1, Nat.reduceEqDiff, false_and, and_false, if_false, hcM, eB, i_ib (show c * 8 + i < 24 by omega) (by decide), if_true, i_cl (show c * 8 + i < 2147483648 by omega)]
    rw [show (0 : Int32) = nI 0 from rfl, P_pNext (rP_u1 (rP_u1 (rP_u1 hqM))) hin (by decide), r1_s]
    simp only [u_1, Nat.reduceEqDiff, false_and, and_false, if_false, hcM, eB, eC, i_ib (show (c * 8 + i) * 2 < 48 by omega) (by decide), if_true, i_cl (show (c * 8 + i) * 2 < 2147483648 by omega)]
    rw [show (1 : Int32) = nI 1 from rfl, P_pNext (rP_u1 (rP_u1 (rP_u1 (rP_u1 hqM)))) hin (by decide), r1_s]
    simp only [u_1, Nat.reduceEqDiff, false_and, and_false, if_false, hcM, eB, eC, nI_add, i_ib (show (c * 8 + i) * 2 + 1 < 48 by omega) (by decide), if_true, i_cl (show (c * 8 + i) * 2 + 1 < 2147483648 by omega)]
    rfl
