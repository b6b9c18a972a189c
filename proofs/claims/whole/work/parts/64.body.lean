/-! LEVEL B: the run: a body of the class -/
def hC (M : sm_M) (p v : Nat) : Int32 := M.1 0 p 2 v
def xC (M : sm_M) (p v : Nat) : Int32 := M.1 0 p 3 v
def kC (M : sm_M) (p v : Nat) : Int32 := M.1 0 p 4 v
def sC (M : sm_M) (p v : Nat) : Int32 := M.1 0 p 5 v
def lpC (M : sm_M) (p v : Nat) : Bool := bt (M.1 0 p 0 6) v
theorem P_bValue {sc : Nat × (Nat → Int32)} {M : sm_M} {p v : Nat} (hv : v < 6) : dn sc kBody_valueOf 0 [.inr (.inr (0, p, 0)), .inl (nI v)] [] M = some (0, .inl (if hC M p v = 0 then -1 else xC M p v), M) := by
  rw [E_Body_valueOf_0, if_neg (nI_pos (by omega)), show (6 : Int32) = nI 6 from rfl, if_pos (by rw [i_lt (by omega) (by decide)]; exact hv), i_ib hv (by decide)]
  simp only [if_true]
  rw [i_cl (by omega)]
  show (if hC M p v = 0 then some (0, Sum.inl (-1 : Int32), M) else some (0, .inl (xC M p v), M)) = _
  split <;> rfl
theorem P_bKind {sc : Nat × (Nat → Int32)} {M : sm_M} {p v : Nat} (hv : v < 6) : dn sc kBody_kindOf 0 [.inr (.inr (0, p, 0)), .inl (nI v)] [] M = some (0, .inl (kC M p v), M) := by
  rw [E_Body_kindOf_0, if_neg (nI_pos (by omega)), show (6 : Int32) = nI 6 from rfl, if_pos (by rw [i_lt (by omega) (by decide)]; exact hv), i_ib hv (by decide), if_pos rfl, i_cl (by omega)]; rfl
theorem P_bOwns {sc : Nat × (Nat → Int32)} {M : sm_M} {p v : Nat} (hv : v < 6) : dn sc kBody_owns 0 [.inr (.inr (0, p, 0)), .inl (nI v)] [] M = some (0, .inl (bI (decide (hC M p v = 1))), M) := by
  rw [E_Body_owns_0, if_neg (nI_pos (by omega)), show (6 : Int32) = nI 6 from rfl, if_pos (by rw [i_lt (by omega) (by decide)]; exact hv), i_ib hv (by decide), if_pos rfl, i_cl (by omega), ite_1]; rfl
theorem P_bOwns_n {sc : Nat × (Nat → Int32)} {M : sm_M} {p : Nat} : dn sc kBody_owns 0 [.inr (.inr (0, p, 0)), .inl (-1)] [] M = some (0, .inl 0, M) := by rw [E_Body_owns_0, if_pos (by decide)]
theorem P_bShares {sc : Nat × (Nat → Int32)} {M : sm_M} {p v : Nat} (hv : v < 6) : dn sc kBody_shares 0 [.inr (.inr (0, p, 0)), .inl (nI v)] [] M = some (0, .inl (bI (decide (hC M p v = 2))), M) := by
  rw [E_Body_shares_0, if_neg (nI_pos (by omega)), show (6 : Int32) = nI 6 from rfl, if_pos (by rw [i_lt (by omega) (by decide)]; exact hv), i_ib hv (by decide), if_pos rfl, i_cl (by omega), ite_1]; rfl
theorem P_bShares_n {sc : Nat × (Nat → Int32)} {M : sm_M} {p : Nat} : dn sc kBody_shares 0 [.inr (.inr (0, p, 0)), .inl (-1)] [] M = some (0, .inl 0, M) := by rw [E_Body_shares_0, if_pos (by decide)]
theorem P_bBorrows {sc : Nat × (Nat → Int32)} {M : sm_M} {p v : Nat} (hv : v < 6) : dn sc kBody_borrows 0 [.inr (.inr (0, p, 0)), .inl (nI v)] [] M = some (0, .inl (bI (decide (hC M p v = 3))), M) := by
  rw [E_Body_borrows_0, if_neg (nI_pos (by omega)), show (6 : Int32) = nI 6 from rfl, if_pos (by rw [i_lt (by omega) (by decide)]; exact hv), i_ib hv (by decide), if_pos rfl, i_cl (by omega), ite_1]; rfl
theorem P_bBorrows_n {sc : Nat × (Nat → Int32)} {M : sm_M} {p : Nat} : dn sc kBody_borrows 0 [.inr (.inr (0, p, 0)), .inl (-1)] [] M = some (0, .inl 0, M) := by rw [E_Body_borrows_0, if_pos (by decide)]
theorem P_bLinear {sc : Nat × (Nat → Int32)} {M : sm_M} {p v : Nat} (hv : v < 6) : dn sc kBody_ownsLinear 0 [.inr (.inr (0, p, 0)), .inl (nI v)] [] M = some (0, .inl (bI (decide (hC M p v = 1) && decide (kC M p v = 2))), M) := by
  rw [E_Body_ownsLinear_0, P_bOwns hv, r1_s]
  by_cases z : hC M p v = 1
  · rw [decide_eq_true z, if_neg (show ¬ bI true = 0 by decide), i_ib hv (by decide), if_pos rfl, i_cl (by omega), ite_1]; rfl
  · rw [decide_eq_false z, if_pos (show bI false = 0 from rfl)]; rfl
theorem P_bLinear_n {sc : Nat × (Nat → Int32)} {M : sm_M} {p : Nat} : dn sc kBody_ownsLinear 0 [.inr (.inr (0, p, 0)), .inl (-1)] [] M = some (0, .inl 0, M) := by rw [E_Body_ownsLinear_0, P_bOwns_n, r1_s, if_pos rfl]
theorem P_bLapsed {sc : Nat × (Nat → Int32)} {M : sm_M} {p v : Nat} (hv : v < 6) : dn sc kBody_isLapsed 0 [.inr (.inr (0, p, 0)), .inl (nI v)] [] M = some (0, .inl (bI ((decide (hC M p v = 2) || decide (hC M p v = 3)) && lpC M p v)), M) := by
  have e2 : dn sc kBody_isLapsed 2 [.inr (.inr (0, p, 0)), .inl (nI v)] [] M = some (0, .inl (bI (lpC M p v)), M) := by
    rw [E_Body_isLapsed_2]
    by_cases z : lpC M p v = false
    · rw [if_pos ((b_ask v (by omega) _).mpr z), z]; rfl
    · rw [if_neg (fun y => z ((b_ask v (by omega) _).mp y)), show lpC M p v = true from by cases y : lpC M p v <;> first | rfl | exact absurd y z]; rfl
  rw [E_Body_isLapsed_0, P_bShares hv, r1_s, P_bBorrows hv, r1_s, e2]
  cases decide (hC M p v = 2) with
  | true => rw [if_neg (show ¬ bI true = 0 by decide)]; rfl
  | false =>
    rw [if_pos (show bI false = 0 from rfl)]
    cases decide (hC M p v = 3) with
    | true => rw [if_neg (show ¬ bI true = 0 by decide)]; rfl
    | false => rw [if_pos (show bI false = 0 from rfl)]; rfl
theorem P_bLapsed_n {sc : Nat × (Nat → Int32)} {M : sm_M} {p : Nat} : dn sc kBody_isLapsed 0 [.inr (.inr (0, p, 0)), .inl (-1)] [] M = some (0, .inl 0, M) := by rw [E_Body_isLapsed_0, P_bShares_n, r1_s, if_pos rfl, P_bBorrows_n, r1_s, if_pos rfl]
theorem P_bClear {sc : Nat × (Nat → Int32)} {M : sm_M} {p v : Nat} (hv : v < 6) : dn sc kBody_clear 0 [.inr (.inr (0, p, 0)), .inl (nI v)] [] M = some (0, .inl 0, sm_u M 0 p 2 v 0) := by
  rw [E_Body_clear_0, if_neg (nI_pos (by omega)), show (6 : Int32) = nI 6 from rfl, if_pos (by rw [i_lt (by omega) (by decide)]; exact hv), i_ib hv (by decide), if_pos rfl, i_cl (by omega)]
/-- the class's lapsed bits -/
def lpM (M : sm_M) (p : Nat) (L : Int32) : sm_M := sm_u M 0 p 0 6 L
theorem lpM_h {M : sm_M} {p q v : Nat} {L : Int32} : hC (lpM M p L) q v = hC M q v ∧ xC (lpM M p L) q v = xC M q v ∧ kC (lpM M p L) q v = kC M q v ∧ sC (lpM M p L) q v = sC M q v :=
  ⟨u_mis (by omega), u_mis (by omega), u_mis (by omega), u_mis (by omega)⟩
theorem lpM_l {M : sm_M} {p : Nat} {L : Int32} : (lpM M p L).1 0 p 0 6 = L := u_hit
theorem lpM_u {M : sm_M} {p : Nat} {L K : Int32} : lpM (lpM M p L) p K = lpM M p K := u_over
theorem lpM_s {M : sm_M} {p : Nat} : lpM M p (M.1 0 p 0 6) = M := u_sme rfl
theorem P_eSh1 {sc : Nat × (Nat → Int32)} {M : sm_M} {p : Nat} {val : Int32} : ∀ n i K, i + n = 6 → ∃ L, dn sc kBody_endShares 1 [.inr (.inr (0, p, 0)), .inl val, .inl (nI i)] [] (lpM M p K) = some (0, .inl 0, lpM M p L) ∧ ∀ v, v < 6 → bt L v = (bt K v || (decide (i ≤ v) && (decide (hC M p v = 2) && decide (xC M p v = val)))) := by
  intro n
  induction n with
  | zero =>
    intro i K hi
    obtain rfl : i = 6 := by omega
    refine ⟨K, by rw [E_Body_endShares_1, if_neg (by decide)], fun v hv => ?_⟩
    rw [decide_eq_false (show ¬ 6 ≤ v by omega), Bool.false_and, Bool.or_false]
  | succ n ih =>
    intro i K hi
    have h2 : (lpM M p K).1 0 p 2 i = hC M p i := lpM_h.1
    have h3 : (lpM M p K).1 0 p 3 i = xC M p i := lpM_h.2.1
    rw [E_Body_endShares_1, show (6 : Int32) = nI 6 from rfl, if_pos (by rw [i_lt (by omega) (by decide)]; omega), i_ib (show i < 6 by omega) (by decide)]
    simp only [if_true]
    rw [i_cl (by omega), h2, h3, lpM_l, nI_1]
    have bits : ∀ v, v < 6 → ¬ v = i → decide (i + 1 ≤ v) = decide (i ≤ v) := fun v _ z => decide_eq_decide.mpr ⟨fun h => by omega, fun h => by omega⟩
    by_cases z : hC M p i = 2 ∧ xC M p i = val
    · rw [if_pos z.1, if_pos z.2, show sm_u (lpM M p K) 0 p 0 6 (K ||| (1 <<< (nI i &&& 31))) = lpM M p (K ||| (1 <<< (nI i &&& 31))) from u_over]
      obtain ⟨L, l1, l2⟩ := ih (i + 1) (K ||| (1 <<< (nI i &&& 31))) (by omega)
      refine ⟨L, l1, fun v hv => ?_⟩
      rw [l2 v hv, b_set i (by omega) _ (by omega)]
      by_cases y : v = i
      · rw [y, decide_eq_true rfl, decide_eq_true (Nat.le_refl i), decide_eq_true z.1, decide_eq_true z.2, Bool.or_true, Bool.true_or]
        cases bt K i <;> rfl
      · rw [decide_eq_false y, Bool.or_false, bits v hv y]
    · have e : (if hC M p i = 2 then (if xC M p i = val then dn sc kBody_endShares 1 [.inr (.inr (0, p, 0)), .inl val, .inl (nI (i + 1))] [] (sm_u (lpM M p K) 0 p 0 6 (K ||| (1 <<< (nI i &&& 31)))) else dn sc kBody_endShares 1 [.inr (.inr (0, p, 0)), .inl val, .inl (nI (i + 1))] [] (lpM M p K)) else dn sc kBody_endShares 1 [.inr (.inr (0, p, 0)), .inl val, .inl (nI (i + 1))] [] (lpM M p K)) = dn sc kBody_endShares 1 [.inr (.inr (0, p, 0)), .inl val, .inl (nI (i + 1))] [] (lpM M p K) := by
        by_cases y : hC M p i = 2
        · rw [if_pos y, if_neg (fun y2 => z ⟨y, y2⟩)]
        · rw [if_neg y]
      rw [e]
      obtain ⟨L, l1, l2⟩ := ih (i + 1) K (by omega)
      refine ⟨L, l1, fun v hv => ?_⟩
      rw [l2 v hv]
      by_cases y : v = i
      · have : (decide (hC M p i = 2) && decide (xC M p i = val)) = false := by
          cases q1 : decide (hC M p i = 2) with
          | false => rfl
          | true =>
            cases q2 : decide (xC M p i = val) with
            | false => rfl
            | true => exact absurd ⟨of_decide_eq_true q1, of_decide_eq_true q2⟩ z
        rw [y, this, Bool.and_false, Bool.and_false]
      · rw [bits v hv y]
theorem P_eLo1 {sc : Nat × (Nat → Int32)} {M : sm_M} {p u : Nat} {val : Int32} (hu : u < 6) : ∀ n i K, i + n = 6 → ∃ L, dn sc kBody_endLoans 1 [.inr (.inr (0, p, 0)), .inl val, .inl (nI u), .inl (nI i)] [] (lpM M p K) = some (0, .inl 0, lpM M p L) ∧ ∀ v, v < 6 → bt L v = (bt K v || (decide (i ≤ v) && (!decide (v = u) && (decide (hC M p v = 3) && decide (xC M p v = val))))) := by
  intro n
  induction n with
  | zero =>
    intro i K hi
    obtain rfl : i = 6 := by omega
    refine ⟨K, by rw [E_Body_endLoans_1, if_neg (by decide)], fun v hv => ?_⟩
    rw [decide_eq_false (show ¬ 6 ≤ v by omega), Bool.false_and, Bool.or_false]
  | succ n ih =>
    intro i K hi
    have h2 : (lpM M p K).1 0 p 2 i = hC M p i := lpM_h.1
    have h3 : (lpM M p K).1 0 p 3 i = xC M p i := lpM_h.2.1
    rw [E_Body_endLoans_1, show (6 : Int32) = nI 6 from rfl, if_pos (by rw [i_lt (by omega) (by decide)]; omega), i_ib (show i < 6 by omega) (by decide)]
    simp only [if_true]
    rw [i_cl (by omega), h2, h3, lpM_l, nI_1]
    have bits : ∀ v, v < 6 → ¬ v = i → decide (i + 1 ≤ v) = decide (i ≤ v) := fun v _ z => decide_eq_decide.mpr ⟨fun h => by omega, fun h => by omega⟩
    by_cases z : ¬ i = u ∧ hC M p i = 3 ∧ xC M p i = val
    · rw [if_neg (by rw [i_eq (by omega) (by omega)]; exact z.1), if_pos z.2.1, if_pos z.2.2, show sm_u (lpM M p K) 0 p 0 6 (K ||| (1 <<< (nI i &&& 31))) = lpM M p (K ||| (1 <<< (nI i &&& 31))) from u_over]
      obtain ⟨L, l1, l2⟩ := ih (i + 1) (K ||| (1 <<< (nI i &&& 31))) (by omega)
      refine ⟨L, l1, fun v hv => ?_⟩
      rw [l2 v hv, b_set i (by omega) _ (by omega)]
      by_cases y : v = i
      · rw [y, decide_eq_true rfl, decide_eq_true (Nat.le_refl i), decide_eq_false z.1, decide_eq_true z.2.1, decide_eq_true z.2.2, Bool.or_true, Bool.true_or]
        cases bt K i <;> rfl
      · rw [decide_eq_false y, Bool.or_false, bits v hv y]
    · have e : (if nI i = nI u then dn sc kBody_endLoans 1 [.inr (.inr (0, p, 0)), .inl val, .inl (nI u), .inl (nI (i + 1))] [] (lpM M p K) else if hC M p i = 3 then (if xC M p i = val then dn sc kBody_endLoans 1 [.inr (.inr (0, p, 0)), .inl val, .inl (nI u), .inl (nI (i + 1))] [] (sm_u (lpM M p K) 0 p 0 6 (K ||| (1 <<< (nI i &&& 31)))) else dn sc kBody_endLoans 1 [.inr (.inr (0, p, 0)), .inl val, .inl (nI u), .inl (nI (i + 1))] [] (lpM M p K)) else dn sc kBody_endLoans 1 [.inr (.inr (0, p, 0)), .inl val, .inl (nI u), .inl (nI (i + 1))] [] (lpM M p K)) = dn sc kBody_endLoans 1 [.inr (.inr (0, p, 0)), .inl val, .inl (nI u), .inl (nI (i + 1))] [] (lpM M p K) := by
        by_cases y0 : i = u
        · rw [if_pos (by rw [y0])]
        rw [if_neg (by rw [i_eq (by omega) (by omega)]; exact y0)]
        by_cases y : hC M p i = 3
        · rw [if_pos y, if_neg (fun y2 => z ⟨y0, y, y2⟩)]
        · rw [if_neg y]
      rw [e]
      obtain ⟨L, l1, l2⟩ := ih (i + 1) K (by omega)
      refine ⟨L, l1, fun v hv => ?_⟩
      rw [l2 v hv]
      by_cases y : v = i
      · have : (!decide (i = u) && (decide (hC M p i = 3) && decide (xC M p i = val))) = false := by
          cases q0 : decide (i = u) with
          | true => rfl
          | false =>
            cases q1 : decide (hC M p i = 3) with
            | false => rfl
            | true =>
              cases q2 : decide (xC M p i = val) with
              | false => rfl
              | true => exact absurd ⟨of_decide_eq_false q0, of_decide_eq_true q1, of_decide_eq_true q2⟩ z
        rw [y, this, Bool.and_false, Bool.and_false]
      · rw [bits v hv y]
/-- shares of a value lapse -/
theorem P_eSh {sc : Nat × (Nat → Int32)} (M : sm_M) (p : Nat) (val : Int32) : ∃ L, dn sc kBody_endShares 0 [.inr (.inr (0, p, 0)), .inl val] [] M = some (0, .inl 0, lpM M p L) ∧ ∀ v, v < 6 → (bt L v = false ↔ (lpC M p v = false ∧ ¬ (hC M p v = 2 ∧ xC M p v = val))) := by
  obtain ⟨L, l1, l2⟩ := P_eSh1 (sc := sc) (M := M) (p := p) (val := val) 6 0 (M.1 0 p 0 6) rfl
  rw [lpM_s] at l1
  refine ⟨L, (E_Body_endShares_0 sc M p val).trans l1, fun v hv => ?_⟩
  rw [l2 v hv, decide_eq_true (Nat.zero_le v), Bool.true_and, Bool.or_eq_false_iff]
  refine Iff.intro (fun h => ⟨h.1, fun z => ?_⟩) (fun h => ⟨h.1, ?_⟩)
  · have := h.2
    rw [decide_eq_true z.1, decide_eq_true z.2] at this
    cases this
  · cases q1 : decide (hC M p v = 2) with
    | false => rfl
    | true =>
      cases q2 : decide (xC M p v = val) with
      | false => rfl
      | true => exact absurd ⟨of_decide_eq_true q1, of_decide_eq_true q2⟩ h.2
/-- loans of a value to others than a user lapse -/
theorem P_eLo {sc : Nat × (Nat → Int32)} (M : sm_M) (p : Nat) {u : Nat} (hu : u < 6) (val : Int32) : ∃ L, dn sc kBody_endLoans 0 [.inr (.inr (0, p, 0)), .inl val, .inl (nI u)] [] M = some (0, .inl 0, lpM M p L) ∧ ∀ v, v < 6 → (bt L v = false ↔ (lpC M p v = false ∧ ¬ (¬ v = u ∧ hC M p v = 3 ∧ xC M p v = val))) := by
  obtain ⟨L, l1, l2⟩ := P_eLo1 (sc := sc) (M := M) (p := p) (val := val) hu 6 0 (M.1 0 p 0 6) rfl
  rw [lpM_s] at l1
  refine ⟨L, (E_Body_endLoans_0 sc M p val (nI u)).trans l1, fun v hv => ?_⟩
  rw [l2 v hv, decide_eq_true (Nat.zero_le v), Bool.true_and, Bool.or_eq_false_iff]
  refine Iff.intro (fun h => ⟨h.1, fun z => ?_⟩) (fun h => ⟨h.1, ?_⟩)
  · have := h.2
    rw [decide_eq_false z.1, decide_eq_true z.2.1, decide_eq_true z.2.2] at this
    cases this
  · cases q0 : decide (v = u) with
    | true => rfl
    | false =>
      cases q1 : decide (hC M p v = 3) with
      | false => rfl
      | true =>
        cases q2 : decide (xC M p v = val) with
        | false => rfl
        | true => exact absurd ⟨of_decide_eq_false q0, of_decide_eq_true q1, of_decide_eq_true q2⟩ h.2
/-- the class drops a value -/
def dpC (M : sm_M) (x : Int32) : sm_M := if M.1 6 0 0 1 < 200 then sm_u (sm_u M 6 0 1 (M.1 6 0 0 1).toNatClampNeg x) 6 0 0 1 (M.1 6 0 0 1 + 1) else M
theorem P_drop {sc : Nat × (Nat → Int32)} {M : sm_M} {d : Nat} {x : Int32} (h : M.1 6 0 0 1 = nI d) (hd : d ≤ 200) : dn sc kLedger_drop 0 [.inr (.inr (6, 0, 0)), .inl x] [] M = some (0, .inl 0, dpC M x) := by
  rw [E_Ledger_drop_0]
  unfold dpC
  by_cases z : d < 200
  · have hl : M.1 6 0 0 1 < 200 := by rw [h, show (200 : Int32) = nI 200 from rfl, i_lt (by omega) (by decide)]; exact z
    have e : (sm_u M 6 0 1 (M.1 6 0 0 1).toNatClampNeg x).1 6 0 0 1 = M.1 6 0 0 1 := u_mis (by omega)
    rw [if_pos hl, if_pos hl, e, h, i_ib z (by decide), if_pos rfl]
  · have hl : ¬ M.1 6 0 0 1 < 200 := by rw [h, show (200 : Int32) = nI 200 from rfl, i_lt (by omega) (by decide)]; exact z
    rw [if_neg hl, if_neg hl]
theorem dpC_c {M : sm_M} {x : Int32} {c p j i : Nat} (h : ¬ c = 6) : (dpC M x).1 c p j i = M.1 c p j i := by
  unfold dpC
  split
  · rw [u_mis (by omega), u_mis (by omega)]
  · rfl
theorem dpC_f {M : sm_M} {x : Int32} {i : Nat} (h : ¬ i = 1) : (dpC M x).1 6 0 0 i = M.1 6 0 0 i := by
  unfold dpC
  split
  · rw [u_mis (by omega), u_mis (by omega)]
  · rfl
theorem dpC_2 {M : sm_M} {x : Int32} : (dpC M x).2 = M.2 := by
  unfold dpC
  split <;> rfl
/-- endAll -/
theorem P_eAll {sc : Nat × (Nat → Int32)} (M : sm_M) (p : Nat) {u : Nat} (hu : u < 6) (h0 : ¬ hC M p u = 0) : ∃ L, dn sc kBody_endAll 0 [.inr (.inr (0, p, 0)), .inl (nI u)] [] M = some (0, .inl 0, lpM M p L) ∧ ∀ v, v < 6 → (bt L v = false ↔ (lpC M p v = false ∧ ¬ (xC M p v = xC M p u ∧ (hC M p v = 2 ∨ (¬ v = u ∧ hC M p v = 3))))) := by
  obtain ⟨L, l1, l2⟩ := P_eLo (sc := sc) M p hu (xC M p u)
  obtain ⟨K, k1, k2⟩ := P_eSh (sc := sc) (lpM M p L) p (xC M p u)
  refine ⟨K, ?_, fun v hv => ?_⟩
  · rw [E_Body_endAll_0, P_bValue hu, r1_s, if_neg h0, l1, r0_s, k1, r0_s, lpM_u]
  · have e1 : lpC (lpM M p L) p v = bt L v := by unfold lpC; rw [lpM_l]
    rw [k2 v hv, e1, l2 v hv, lpM_h.1, lpM_h.2.1]
    refine ⟨fun ⟨⟨a1, a2⟩, a3⟩ => ⟨a1, fun ⟨b1, b2⟩ => b2.elim (fun y => a3 ⟨y, b1⟩) (fun y => a2 ⟨y.1, y.2, b1⟩)⟩, fun ⟨a1, a2⟩ => ⟨⟨a1, fun y => a2 ⟨y.2.2, Or.inr ⟨y.1, y.2.1⟩⟩⟩, fun y => a2 ⟨y.2, Or.inl y.1⟩⟩⟩
/-- the class's memory behind vacate -/
def vacM (M : sm_M) (p a : Nat) (L : Int32) : sm_M := sm_u (if hC M p a = 1 ∧ kC M p a = 1 then dpC (lpM M p L) (xC M p a) else lpM M p L) 0 p 2 a 0
theorem P_vacate {sc : Nat × (Nat → Int32)} {M : sm_M} {p a d : Nat} (ha : a < 6) (hd : M.1 6 0 0 1 = nI d) (hd2 : d ≤ 200) : ∃ L, dn sc kBody_vacate 0 [.inr (.inr (0, p, 0)), .inl (nI a)] [] M = some (0, .inl 0, vacM M p a L) ∧ ∀ v, v < 6 → ¬ v = a → (bt L v = false ↔ (lpC M p v = false ∧ ¬ (hC M p a = 1 ∧ xC M p v = xC M p a ∧ (hC M p v = 2 ∨ hC M p v = 3)))) := by
  rw [E_Body_vacate_0, P_bOwns ha, r1_s]
  unfold vacM
  by_cases z : hC M p a = 1
  · obtain ⟨L, l1, l2⟩ := P_eLo (sc := sc) M p ha (xC M p a)
    obtain ⟨K, k1, k2⟩ := P_eSh (sc := sc) (lpM M p L) p (xC M p a)
    refine ⟨K, ?_, fun v hv hva => ?_⟩
    · have z0 : ¬ hC M p a = 0 := by rw [z]; decide
      have hd' : (lpM M p K).1 6 0 0 1 = nI d := (u_mis (by omega)).trans hd
      have hk : kC (lpM (lpM M p L) p K) p a = kC M p a := by rw [lpM_h.2.2.1, lpM_h.2.2.1]
      rw [decide_eq_true z, if_neg (show ¬ bI true = 0 by decide), P_bValue ha, r1_s, if_neg z0, l1, r0_s, k1, r0_s, P_bKind ha, r1_s, hk, lpM_u]
      by_cases y : kC M p a = 1
      · rw [if_pos y, P_drop hd' hd2, r0_s, P_bClear ha, r0_s, if_pos ⟨z, y⟩]
      · rw [if_neg y, P_bClear ha, r0_s, if_neg (fun q => y q.2)]
    · have e1 : lpC (lpM M p L) p v = bt L v := by unfold lpC; rw [lpM_l]
      rw [k2 v hv, e1, l2 v hv, lpM_h.1, lpM_h.2.1]
      refine ⟨fun ⟨⟨a1, a2⟩, a3⟩ => ⟨a1, fun ⟨_, b1, b2⟩ => b2.elim (fun y => a3 ⟨y, b1⟩) (fun y => a2 ⟨hva, y, b1⟩)⟩, fun ⟨a1, a2⟩ => ⟨⟨a1, fun y => a2 ⟨z, y.2.2, Or.inr y.2.1⟩⟩, fun y => a2 ⟨z, y.2, Or.inl y.1⟩⟩⟩
  · refine ⟨M.1 0 p 0 6, ?_, fun v hv _ => ⟨fun h => ⟨h, fun y => z y.1⟩, fun h => h.1⟩⟩
    rw [decide_eq_false z, if_pos (show bI false = 0 from rfl), P_bClear ha, r0_s, if_neg (fun q => z q.1), lpM_s]
