/-! LEVEL B: flows: the class's cells of what is found, and reach -/
theorem P_fName {sc : Nat × (Nat → Int32)} {M : sm_M} {q o i : Nat} (ho : o < 17) (hi : i < 6) : dn sc kFlow_nameAt 0 [.inr (.inr (4, q, 0)), .inl (nI o), .inl (nI i)] [] M = some (0, .inl (M.1 4 q 4 (o * 6 + i)), M) := by
  rw [E_Flow_nameAt_0, if_neg (nI_pos (by omega)), show (16 : Int32) = nI 16 from rfl, if_neg (by rw [i_lt (by decide) (by omega)]; omega), if_neg (nI_pos (by omega)), show (6 : Int32) = nI 6 from rfl, if_pos (by rw [i_lt (by omega) (by decide)]; omega), i_mul, nI_add, i_ib (show o * 6 + i < 102 by omega) (by decide), if_pos rfl, i_cl (by omega)]
theorem P_fName_n {sc : Nat × (Nat → Int32)} {M : sm_M} {q o : Nat} (ho : o < 17) : dn sc kFlow_nameAt 0 [.inr (.inr (4, q, 0)), .inl (nI o), .inl (-1)] [] M = some (0, .inl 0, M) := by
  rw [E_Flow_nameAt_0, if_neg (nI_pos (by omega)), show (16 : Int32) = nI 16 from rfl, if_neg (by rw [i_lt (by decide) (by omega)]; omega), if_pos (by decide)]
theorem P_fStep {sc : Nat × (Nat → Int32)} {M : sm_M} {q o c : Nat} (ho : o < 17) (hc : c < 3) : dn sc kFlow_stepAt 0 [.inr (.inr (4, q, 0)), .inl (nI o), .inl (nI c)] [] M = some (0, .inl (M.1 4 q 5 (o * 3 + c)), M) := by
  rw [E_Flow_stepAt_0, if_neg (nI_pos (by omega)), show (16 : Int32) = nI 16 from rfl, if_neg (by rw [i_lt (by decide) (by omega)]; omega), if_neg (nI_pos (by omega)), show (3 : Int32) = nI 3 from rfl, if_pos (by rw [i_lt (by omega) (by decide)]; omega), i_mul, nI_add, i_ib (show o * 3 + c < 51 by omega) (by decide), if_pos rfl, i_cl (by omega)]
theorem P_fStep_n {sc : Nat × (Nat → Int32)} {M : sm_M} {q o : Nat} (ho : o < 17) : dn sc kFlow_stepAt 0 [.inr (.inr (4, q, 0)), .inl (nI o), .inl (-1)] [] M = some (0, .inl (-1), M) := by
  rw [E_Flow_stepAt_0, if_neg (nI_pos (by omega)), show (16 : Int32) = nI 16 from rfl, if_neg (by rw [i_lt (by decide) (by omega)]; omega), if_pos (by decide)]
theorem P_fCome {sc : Nat × (Nat → Int32)} {M : sm_M} {q o : Nat} (ho : o < 17) : dn sc kFlow_isComeTo 0 [.inr (.inr (4, q, 0)), .inl (nI o)] [] M = some (0, .inl (bI (bt (M.1 4 q 0 8) o)), M) := by
  rw [E_Flow_isComeTo_0, if_neg (nI_pos (by omega)), show (16 : Int32) = nI 16 from rfl, if_neg (by rw [i_lt (by decide) (by omega)]; omega)]
  by_cases h : bt (M.1 4 q 0 8) o = false
  · rw [if_pos ((b_ask o (by omega) _).mpr h), h]; rfl
  · rw [if_neg (fun z => h ((b_ask o (by omega) _).mp z)), (show bt (M.1 4 q 0 8) o = true from by cases z : bt (M.1 4 q 0 8) o <;> first | rfl | exact absurd z h)]; rfl
theorem P_fLive {sc : Nat × (Nat → Int32)} {M : sm_M} {q o : Nat} (ho : o < 17) : dn sc kFlow_livesAt 0 [.inr (.inr (4, q, 0)), .inl (nI o)] [] M = some (0, .inl (M.1 4 q 6 o), M) := by
  rw [E_Flow_livesAt_0, if_neg (nI_pos (by omega)), show (16 : Int32) = nI 16 from rfl, if_neg (by rw [i_lt (by decide) (by omega)]; omega), i_ib ho (by decide), if_pos rfl, i_cl (by omega)]
/-- what is found, by the class's cells -/
def fC (M : sm_M) (q : Nat) : sF := (fun k => bt (M.1 4 q 0 8) k, fun k i => if i < 6 then M.1 4 q 4 (k * 6 + i) else M.1 4 q 5 (k * 3 + (i - 6)))
/-- what is now -/
def nwC (M : sm_M) (q i : Nat) : Int32 := if i < 6 then M.1 4 q 7 i else M.1 4 q 8 (i - 6)
def gN (M : sm_M) (q k i : Nat) : Int32 := if bt (M.1 4 q 0 8) k = true then tgI (M.1 4 q 4 (k * 6 + i)) (M.1 4 q 7 i) else M.1 4 q 7 i
def gS (M : sm_M) (q k i : Nat) : Int32 := if bt (M.1 4 q 0 8) k = true then tgS (M.1 4 q 5 (k * 3 + i)) (M.1 4 q 8 i) else M.1 4 q 8 i
def rch3 (M : sm_M) (q k : Nat) : sm_M := blk (blk (sm_u M 4 q 0 8 ((M.1 4 q 0 8) ||| (1 <<< (nI k &&& 31)))) 4 q 4 (k * 6) 6 (gN M q k)) 4 q 5 (k * 3) 3 (gS M q k)
/-- the class's memory behind reach -/
def rch (M : sm_M) (q k : Nat) : sm_M := if dfF (fC M q) k (nwC M q) = true then sm_u (rch3 M q k) 4 q 0 9 ((M.1 4 q 0 9) ||| (1 <<< (nI k &&& 31))) else rch3 M q k
theorem P_reach6 {sc : Nat × (Nat → Int32)} {M : sm_M} {q k : Nat} (hk : k < 17) {f : Bool} {g : Nat → Int32} (hg : ∀ i, g i = if f = true then M.1 4 q 7 i else tgI (M.1 4 q 4 (k * 6 + i)) (M.1 4 q 7 i)) : ∀ n i, i + n = 6 →
    dn sc kFlow_reach 6 [.inr (.inr (4, q, 0)), .inl (nI k), .inl (bI f), .inl (bI (f || anyN i (fun j => !decide (g j = M.1 4 q 4 (k * 6 + j))))), .inl (nI i)] [] (blk M 4 q 4 (k * 6) i g) =
    dn sc kFlow_reach 15 [.inr (.inr (4, q, 0)), .inl (nI k), .inl (bI f), .inl (bI (f || anyN 6 (fun j => !decide (g j = M.1 4 q 4 (k * 6 + j))))), .inl 0] [] (blk M 4 q 4 (k * 6) 6 g) := by
  intro n
  induction n with
  | zero =>
    intro i hi
    obtain rfl : i = 6 := by omega
    rw [E_Flow_reach_6, if_neg (by decide)]
  | succ n ih =>
    intro i hi
    have e10 : dn sc kFlow_reach 10 [.inr (.inr (4, q, 0)), .inl (nI k), .inl (bI f), .inl (bI (f || anyN i (fun j => !decide (g j = M.1 4 q 4 (k * 6 + j))))), .inl (nI i), .inl (M.1 4 q 4 (k * 6 + i))] [.inl (g i)] (blk M 4 q 4 (k * 6) i g) =
        dn sc kFlow_reach 6 [.inr (.inr (4, q, 0)), .inl (nI k), .inl (bI f), .inl (bI (f || anyN (i + 1) (fun j => !decide (g j = M.1 4 q 4 (k * 6 + j))))), .inl (nI (i + 1))] [] (blk M 4 q 4 (k * 6) (i + 1) g) := by
      rw [E_Flow_reach_10, show (6 : Int32) = nI 6 from rfl, i_mul, nI_add, i_ib (show k * 6 + i < 102 by omega) (by decide), if_pos rfl, i_cl (by omega), blk_s, bI_or0, bI_or1, nI_1, anyN_s]
      by_cases e : g i = M.1 4 q 4 (k * 6 + i)
      · rw [if_pos e, decide_eq_true e, Bool.not_true, Bool.or_false]
      · rw [if_neg e, decide_eq_false e, Bool.not_false, Bool.or_true, Bool.or_true]
    rw [E_Flow_reach_6, show (6 : Int32) = nI 6 from rfl, if_pos (by rw [i_lt (by omega) (by decide)]; omega), P_fName hk (by omega), r1_s, blk_out (by omega), i_ib (show i < 6 by omega) (by decide), i_cl (by omega), blk_no (by omega), ← ih (i + 1) (by omega), ← e10, hg i]
    cases f with
    | true => rw [if_neg (show ¬ bI true = 0 by decide), if_pos rfl, if_pos rfl]
    | false => rw [if_pos (show bI false = 0 from rfl), if_pos rfl, P_fTogether, r1_s, if_neg (show ¬ false = true by decide)]
theorem P_reach15 {sc : Nat × (Nat → Int32)} {M : sm_M} {q k : Nat} (hk : k < 17) {f u0 : Bool} {g : Nat → Int32} (hg : ∀ i, g i = if f = true then M.1 4 q 8 i else tgS (M.1 4 q 5 (k * 3 + i)) (M.1 4 q 8 i)) : ∀ n i, i + n = 3 →
    dn sc kFlow_reach 15 [.inr (.inr (4, q, 0)), .inl (nI k), .inl (bI f), .inl (bI (u0 || anyN i (fun j => !decide (g j = M.1 4 q 5 (k * 3 + j))))), .inl (nI i)] [] (blk M 4 q 5 (k * 3) i g) =
    some (0, .inl 0, if (u0 || anyN 3 (fun j => !decide (g j = M.1 4 q 5 (k * 3 + j)))) = true then sm_u (blk M 4 q 5 (k * 3) 3 g) 4 q 0 9 ((M.1 4 q 0 9) ||| (1 <<< (nI k &&& 31))) else blk M 4 q 5 (k * 3) 3 g) := by
  intro n
  induction n with
  | zero =>
    intro i hi
    obtain rfl : i = 3 := by omega
    rw [E_Flow_reach_15, if_neg (by decide), blk_no (by omega)]
    cases (u0 || anyN 3 (fun j => !decide (g j = M.1 4 q 5 (k * 3 + j)))) with
    | true => rw [if_neg (show ¬ bI true = 0 by decide), if_pos rfl]
    | false => rw [if_pos (show bI false = 0 from rfl), if_neg (show ¬ false = true by decide)]
  | succ n ih =>
    intro i hi
    have e10 : dn sc kFlow_reach 20 [.inr (.inr (4, q, 0)), .inl (nI k), .inl (bI f), .inl (bI (u0 || anyN i (fun j => !decide (g j = M.1 4 q 5 (k * 3 + j))))), .inl (nI i), .inl (M.1 4 q 5 (k * 3 + i))] [.inl (g i)] (blk M 4 q 5 (k * 3) i g) =
        dn sc kFlow_reach 15 [.inr (.inr (4, q, 0)), .inl (nI k), .inl (bI f), .inl (bI (u0 || anyN (i + 1) (fun j => !decide (g j = M.1 4 q 5 (k * 3 + j))))), .inl (nI (i + 1))] [] (blk M 4 q 5 (k * 3) (i + 1) g) := by
      rw [E_Flow_reach_20, show (3 : Int32) = nI 3 from rfl, i_mul, nI_add, i_ib (show k * 3 + i < 51 by omega) (by decide), if_pos rfl, i_cl (by omega), blk_s, bI_or0, bI_or1, nI_1, anyN_s]
      by_cases e : g i = M.1 4 q 5 (k * 3 + i)
      · rw [if_pos e, decide_eq_true e, Bool.not_true, Bool.or_false]
      · rw [if_neg e, decide_eq_false e, Bool.not_false, Bool.or_true, Bool.or_true]
    rw [E_Flow_reach_15, show (3 : Int32) = nI 3 from rfl, if_pos (by rw [i_lt (by omega) (by decide)]; omega), P_fStep hk (by omega), r1_s, blk_out (by omega), i_ib (show i < 3 by omega) (by decide), i_cl (by omega), blk_no (by omega), ← ih (i + 1) (by omega), ← e10, hg i]
    cases f with
    | true => rw [if_neg (show ¬ bI true = 0 by decide), if_pos rfl, if_pos rfl]
    | false =>
      rw [if_pos (show bI false = 0 from rfl), if_pos rfl, if_neg (show ¬ false = true by decide)]
      unfold tgS
      by_cases e : M.1 4 q 5 (k * 3 + i) = M.1 4 q 8 i
      · rw [if_pos e, if_pos e, e]; exact if_pos rfl
      · rw [if_neg e, if_neg e]
theorem anyN_e {n : Nat} {d e : Nat → Bool} (h : ∀ i, i < n → d i = e i) : anyN n d = anyN n e := by
  induction n with
  | zero => rfl
  | succ n ih =>
    unfold anyN
    rw [ih (fun i hi => h i (by omega)), h n (by omega)]
theorem P_fReach {sc : Nat × (Nat → Int32)} {M : sm_M} {q k : Nat} (hk : k < 17) : dn sc kFlow_reach 0 [.inr (.inr (4, q, 0)), .inl (nI k)] [] M = some (0, .inl 0, rch M q k) := by
  have e5 : ∀ f, f = (!bt (M.1 4 q 0 8) k) → dn sc kFlow_reach 5 [.inr (.inr (4, q, 0)), .inl (nI k)] [.inl (bI f)] M = some (0, .inl 0, rch M q k) := by
    intro f hf
    rw [E_Flow_reach_5]
    have h6 := P_reach6 (sc := sc) (M := sm_u M 4 q 0 8 ((M.1 4 q 0 8) ||| (1 <<< (nI k &&& 31)))) (q := q) hk (f := f) (g := gN M q k) (fun i => by
      unfold gN
      rw [hf]
      simp only [u_1, Nat.reduceEqDiff, false_and, and_false, if_false]
      cases bt (M.1 4 q 0 8) k <;> rfl) 6 0 rfl
    rw [blk_0] at h6
    rw [show (f || anyN 0 (fun j => !decide (gN M q k j = (sm_u M 4 q 0 8 ((M.1 4 q 0 8) ||| (1 <<< (nI k &&& 31)))).1 4 q 4 (k * 6 + j)))) = f from Bool.or_false f] at h6
    rw [show (0 : Int32) = nI 0 from rfl] at h6 ⊢
    rw [h6]
    have h15 := P_reach15 (sc := sc) (M := blk (sm_u M 4 q 0 8 ((M.1 4 q 0 8) ||| (1 <<< (nI k &&& 31)))) 4 q 4 (k * 6) 6 (gN M q k)) (q := q) hk (f := f) (u0 := (f || anyN 6 (fun j => !decide (gN M q k j = (sm_u M 4 q 0 8 ((M.1 4 q 0 8) ||| (1 <<< (nI k &&& 31)))).1 4 q 4 (k * 6 + j))))) (g := gS M q k) (fun i => by
      unfold gS
      rw [hf]
      rw [blk_no (by omega), blk_no (by omega)]
      simp only [u_1, Nat.reduceEqDiff, false_and, and_false, if_false]
      cases bt (M.1 4 q 0 8) k <;> rfl) 3 0 rfl
    rw [blk_0, show ∀ u : Bool, (u || anyN 0 (fun j => !decide (gS M q k j = (blk (sm_u M 4 q 0 8 ((M.1 4 q 0 8) ||| (1 <<< (nI k &&& 31)))) 4 q 4 (k * 6) 6 (gN M q k)).1 4 q 5 (k * 3 + j)))) = u from fun u => Bool.or_false u] at h15
    rw [h15]
    unfold rch
    have ed : dfF (fC M q) k (nwC M q) = (f || anyN 6 (fun j => !decide (gN M q k j = (sm_u M 4 q 0 8 ((M.1 4 q 0 8) ||| (1 <<< (nI k &&& 31)))).1 4 q 4 (k * 6 + j))) || anyN 3 (fun j => !decide (gS M q k j = (blk (sm_u M 4 q 0 8 ((M.1 4 q 0 8) ||| (1 <<< (nI k &&& 31)))) 4 q 4 (k * 6) 6 (gN M q k)).1 4 q 5 (k * 3 + j)))) := by
      unfold dfF
      rw [show (fC M q).1 k = bt (M.1 4 q 0 8) k from rfl, ← hf]
      cases hb : f with
      | true => rfl
      | false =>
        have hc : bt (M.1 4 q 0 8) k = true := by rw [hb] at hf; cases h : bt (M.1 4 q 0 8) k <;> rw [h] at hf <;> first | rfl | cases hf
        rw [Bool.false_or, Bool.false_or]
        have ea : ∀ D : Nat → Bool, anyN 9 D = (anyN 6 D || anyN 3 (fun j => D (6 + j))) := by
          intro D
          show (((anyN 6 D || D 6) || D 7) || D 8) = (anyN 6 D || (((false || D 6) || D 7) || D 8))
          rw [Bool.false_or, Bool.or_assoc, Bool.or_assoc, Bool.or_assoc]
        rw [ea]
        refine congr (congrArg or (anyN_e (fun i hi => ?_))) (anyN_e (fun i hi => ?_))
        · unfold tg9 gN fC nwC
          simp only [u_1, Nat.reduceEqDiff, false_and, and_false, if_false, if_pos hi, hc, if_true]
        · unfold tg9 gS fC nwC
          rw [blk_no (by omega)]
          simp only [u_1, Nat.reduceEqDiff, false_and, and_false, if_false, if_neg (show ¬ 6 + i < 6 by omega), hc, if_true, Nat.add_sub_cancel_left]
    rw [ed, blk_no (by omega), show (sm_u M 4 q 0 8 ((M.1 4 q 0 8) ||| (1 <<< (nI k &&& 31)))).1 4 q 0 9 = M.1 4 q 0 9 from if_neg (by omega)]
    rfl
  rw [E_Flow_reach_0, P_within, r1_s, show (17 : Int32) = nI 17 from rfl, within_nI (by omega) (by decide), decide_eq_true hk, if_neg (show ¬ bI true = 0 by decide), P_fCome hk, r1_s]
  cases hb : bt (M.1 4 q 0 8) k with
  | true => rw [if_neg (show ¬ bI true = 0 by decide)]; exact e5 false (by rw [hb]; rfl)
  | false => rw [if_pos (show bI false = 0 from rfl)]; exact e5 true (by rw [hb]; rfl)
/-- what reach leaves alone -/
theorem rch_fr {M : sm_M} {q k c p j i : Nat} (h : ¬ (c = 4 ∧ p = q ∧ ((j = 0 ∧ (i = 8 ∨ i = 9)) ∨ j = 4 ∨ j = 5))) : (rch M q k).1 c p j i = M.1 c p j i := by
  have e3 : (rch3 M q k).1 c p j i = M.1 c p j i := by
    unfold rch3
    rw [blk_no (by omega), blk_no (by omega), u_1, if_neg (by omega)]
  unfold rch
  split
  · rw [u_1, if_neg (by omega), e3]
  · exact e3
theorem rch_2 {M : sm_M} {q k : Nat} : (rch M q k).2 = M.2 := by
  unfold rch
  split <;> rfl
theorem rch_f1 {M : sm_M} {q k : Nat} (hk : k < 17) {j : Nat} (hj : j < 32) : (fC (rch M q k) q).1 j = (jnF (fC M q) k (nwC M q)).1 j := by
  have e3 : (rch3 M q k).1 4 q 0 8 = (M.1 4 q 0 8) ||| (1 <<< (nI k &&& 31)) := by
    unfold rch3
    rw [blk_no (by omega), blk_no (by omega), u_1, if_pos ⟨rfl, rfl, rfl, rfl⟩]
  have e : (rch M q k).1 4 q 0 8 = (M.1 4 q 0 8) ||| (1 <<< (nI k &&& 31)) := by
    unfold rch
    split
    · rw [u_1, if_neg (by omega), e3]
    · exact e3
  show bt ((rch M q k).1 4 q 0 8) j = _
  rw [e, b_set k (by omega) _ hj]; rfl
theorem rch_n {M : sm_M} {q k j i : Nat} (hi : i < 6) : (rch M q k).1 4 q 4 (j * 6 + i) = if j = k then gN M q k i else M.1 4 q 4 (j * 6 + i) := by
  have e3 : (rch3 M q k).1 4 q 4 (j * 6 + i) = if j = k then gN M q k i else M.1 4 q 4 (j * 6 + i) := by
    unfold rch3
    rw [blk_no (by omega), blk_1]
    by_cases e : j = k
    · subst e
      rw [if_pos ⟨⟨rfl, rfl, rfl⟩, by omega, by omega⟩, if_pos rfl, Nat.add_sub_cancel_left]
    · rw [if_neg (fun z => by omega), if_neg e, u_1, if_neg (by omega)]
  unfold rch
  split
  · rw [u_1, if_neg (by omega), e3]
  · exact e3
theorem rch_s {M : sm_M} {q k j i : Nat} (hi : i < 3) : (rch M q k).1 4 q 5 (j * 3 + i) = if j = k then gS M q k i else M.1 4 q 5 (j * 3 + i) := by
  have e3 : (rch3 M q k).1 4 q 5 (j * 3 + i) = if j = k then gS M q k i else M.1 4 q 5 (j * 3 + i) := by
    unfold rch3
    rw [blk_1]
    by_cases e : j = k
    · subst e
      rw [if_pos ⟨⟨rfl, rfl, rfl⟩, by omega, by omega⟩, if_pos rfl, Nat.add_sub_cancel_left]
    · rw [if_neg (fun z => by omega), if_neg e, blk_no (by omega), u_1, if_neg (by omega)]
  unfold rch
  split
  · rw [u_1, if_neg (by omega), e3]
  · exact e3
theorem rch_f2 {M : sm_M} {q k j i : Nat} (hi : i < 9) : (fC (rch M q k) q).2 j i = (jnF (fC M q) k (nwC M q)).2 j i := by
  unfold jnF fC nwC tg9
  dsimp only
  by_cases q6 : i < 6
  · rw [if_pos q6, if_pos q6, if_pos q6, if_pos q6, if_pos q6, rch_n q6]
    by_cases e : j = k
    · subst e; rw [if_pos rfl, if_pos rfl]; rfl
    · rw [if_neg e, if_neg e]
  · rw [if_neg q6, if_neg q6, if_neg q6, if_neg q6, if_neg q6, rch_s (by omega)]
    by_cases e : j = k
    · subst e; rw [if_pos rfl, if_pos rfl]; rfl
    · rw [if_neg e, if_neg e]
theorem rch_c {M : sm_M} {q k : Nat} (hk : k < 17) {j : Nat} (hj : j < 32) : bt ((rch M q k).1 4 q 0 9) j = (bt (M.1 4 q 0 9) j || (dfF (fC M q) k (nwC M q) && decide (j = k))) := by
  have e3 : (rch3 M q k).1 4 q 0 9 = M.1 4 q 0 9 := by
    unfold rch3
    rw [blk_no (by omega), blk_no (by omega), u_1, if_neg (by omega)]
  unfold rch
  cases dfF (fC M q) k (nwC M q) with
  | true => rw [if_pos rfl, u_1, if_pos ⟨rfl, rfl, rfl, rfl⟩, b_set k (by omega) _ hj, Bool.true_and]
  | false => rw [if_neg (by decide), e3, Bool.false_and, Bool.or_false]
