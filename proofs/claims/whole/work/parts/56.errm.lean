/-! LEVEL B: errors in the reference -/
theorem b_ask1 (k : Nat) (hk : k < 31) (x : Int32) : (((x >>> (nI k &&& 31)) &&& 1) = 1) = (bt x k = true) := by
  have e : ∀ i, i < 32 → bt ((x >>> (nI k &&& 31)) &&& 1) i = (decide (i = 0) && bt x k) := by
    intro i hi
    rw [b_and, b_sshr k (by omega) x hi, b_1 i hi]
    by_cases q : i = 0
    · subst q
      rw [if_pos (by omega), decide_eq_true rfl, Bool.and_true, Bool.true_and, Nat.add_zero]
    · rw [decide_eq_false q, Bool.and_false, Bool.false_and]
  refine propext ⟨fun h => ?_, fun h => ?_⟩
  · have := e 0 (by decide)
    rw [h, b_1 0 (by decide), decide_eq_true rfl, Bool.true_and] at this
    exact this.symm
  · refine b_ext (fun i hi => ?_)
    rw [e i hi, h, Bool.and_true, b_1 i hi]
def hvR (N : sm_M) (p o : Nat) (v : Nat → Int32) : Prop := ∀ i, i < 9 → N.1 10 0 17 (9 * (17 * p + o) + i) = v i
theorem P_mFound {sc : Nat × (Nat → Int32)} {N : sm_M} {p o : Nat} {v : Nat → Int32} (hp : p < 3) (ho : o < 17) (hv : hvR N p o v) {i : Nat} (hi : i < 9) : dn sc kModel_foundAt 0 [.inr (.inr (10, 0, 0)), .inl (nI p), .inl (nI o), .inl (nI i)] [] N = some (0, .inl (v i), N) := by
  rw [E_Model_foundAt_0, show (17 : Int32) = nI 17 from rfl, show (9 : Int32) = nI 9 from rfl, i_mul, nI_add, i_mul, nI_add, i_ib (show 9 * (17 * p + o) + i < 459 by omega) (by decide), if_pos rfl, i_cl (by omega), hv i hi]
theorem P_mFoundV {sc : Nat × (Nat → Int32)} {N : sm_M} {p o : Nat} {v : Nat → Int32} (hp : p < 3) (ho : o < 17) (hv : hvR N p o v) {x : Int32} (hx : vrI x) (n : ¬ x = -1) : dn sc kModel_foundAt 0 [.inr (.inr (10, 0, 0)), .inl (nI p), .inl (nI o), .inl x] [] N = some (0, .inl (vvI v x), N) := by
  obtain ⟨k, hk, e⟩ := hx.resolve_left n
  rw [e, P_mFound hp ho hv (show k < 9 by omega)]
  unfold vvI
  rw [i_cl (by omega)]
theorem k16 (p o : Nat) : (16 : Int32) * nI p + nI o = nI (16 * p + o) := by rw [show (16 : Int32) = nI 16 from rfl, i_mul, nI_add]
theorem P_mBo1 {sc : Nat × (Nat → Int32)} {a : Nat → Nat → Int32} {N : sm_M} {p o : Nat} {v : Nat → Int32} (r : cr a N) (hp : p < 3) (ho : o < 16) (hv : hvR N p o v) {ow lv : Int32} {sh : Bool} {P : Nat → Bool} (hP : ∀ i, i < 6 → P i = ((decide (v i = 20 + ow) || (sh && decide (v i = 10 + ow))) && (bt lv i && !decide (nI i = tgA a p o)))) : ∀ k i, i + k = 6 →
    dn sc kModel_borrowerOf 1 [.inr (.inr (10, 0, 0)), .inl (nI p), .inl (nI o), .inl ow, .inl (bI sh), .inl lv, .inl (nI i)] [] N = some (0, .inl (fsR k i P), N) := by
  intro k
  induction k with
  | zero =>
    intro i hi
    obtain rfl : i = 6 := by omega
    rw [E_Model_borrowerOf_1, if_neg (by decide)]; rfl
  | succ k ih =>
    intro i hi
    have e6 : ∀ b, dn sc kModel_borrowerOf 6 [.inr (.inr (10, 0, 0)), .inl (nI p), .inl (nI o), .inl ow, .inl (bI sh), .inl lv, .inl (nI i), .inl (v i)] [.inl (bI b)] N = some (0, .inl (if ((decide (v i = 20 + ow) || (sh && decide (v i = 10 + ow))) && b) = true then nI i else fsR k (i + 1) P), N) := by
      intro b
      rw [E_Model_borrowerOf_6, nI_1, ih (i + 1) (by omega)]
      cases b with
      | false => rw [if_pos (show bI false = 0 from rfl), Bool.and_false, if_neg (show ¬ false = true by decide)]
      | true =>
        rw [if_neg (show ¬ bI true = 0 by decide), Bool.and_true]
        by_cases z : v i = 20 + ow
        · rw [if_pos z, decide_eq_true z, Bool.true_or, if_pos rfl]
        · rw [if_neg z, decide_eq_false z, Bool.false_or]
          cases sh with
          | false => rw [if_pos (show bI false = 0 from rfl), Bool.false_and, if_neg (show ¬ false = true by decide)]
          | true =>
            rw [if_neg (show ¬ bI true = 0 by decide), Bool.true_and]
            by_cases z2 : v i = 10 + ow
            · rw [if_pos z2, decide_eq_true z2, if_pos rfl]
            · rw [if_neg z2, decide_eq_false z2, if_neg (show ¬ false = true by decide)]
    have e6t := e6 true
    have e6f := e6 false
    rw [show bI true = 1 from rfl] at e6t
    rw [show bI false = 0 from rfl] at e6f
    rw [E_Model_borrowerOf_1, show (6 : Int32) = nI 6 from rfl, if_pos (by rw [i_lt (by omega) (by decide)]; omega), P_mFound hp (by omega) hv (show i < 9 by omega), r1_s, k16, P_mTarget r hp ho, r1_s, e6t, e6f, fsR_s, hP i (by omega)]
    by_cases z : bt lv i = true
    · rw [if_pos ((b_ask1 i (by omega) lv).mpr z), z, Bool.true_and]
      by_cases z2 : nI i = tgA a p o
      · rw [if_pos z2, decide_eq_true z2]; rfl
      · rw [if_neg z2, decide_eq_false z2]; rfl
    · rw [if_neg (fun y => z ((b_ask1 i (by omega) lv).mp y)), show bt lv i = false from by cases y : bt lv i <;> first | rfl | exact absurd y z, Bool.false_and]
theorem P_mBo {sc : Nat × (Nat → Int32)} {a : Nat → Nat → Int32} {N : sm_M} {p o : Nat} {v : Nat → Int32} (wf : wfA a) (r : cr a N) (hp : p < 3) (ho : o < onA a p) (hv : hvR N p o v) {ow us ot lb : Int32} (hlb : lbA a p (LvR N p) o = lb) {sh : Bool} (hot : ∀ i, i < 6 → bt ot i = decide (nI i = us)) :
    dn sc kModel_borrowerOf 0 [.inr (.inr (10, 0, 0)), .inl (nI p), .inl (nI o), .inl ow, .inl (bI sh), .inl ot] [] N = some (0, .inl (fsR 6 0 (bwP v lb (tgA a p o) us ow sh)), N) := by
  have h16 := (wf.2.1 p hp).2.1
  rw [E_Model_borrowerOf_0, P_mBehind wf r hp ho, r1_s, hlb]
  refine P_mBo1 r hp (by omega) hv (fun i hi => ?_) 6 0 rfl
  unfold bwP
  rw [b_or, hot i hi]
theorem ow_10 : ∀ k, k < 26 → ((nI k < 10) ↔ ¬(shB (nI k) = true ∨ ltB (nI k) = true)) := by decide
theorem vv_ok {a : Nat → Nat → Int32} {p : Nat} {v : Nat → Int32} (hv : okV a p v) {x : Int32} (hx : vrI x) (n : ¬ x = -1) : okN (vvI v x) := by
  obtain ⟨k, hk, e⟩ := hx.resolve_left n
  unfold vvI
  rw [e, i_cl (by omega)]
  exact hv.1 k hk
theorem P_mBw8 {sc : Nat × (Nat → Int32)} {a : Nat → Nat → Int32} {N : sm_M} {p o : Nat} {v : Nat → Int32} (wf : wfA a) (r : cr a N) (hp : p < 3) (ho : o < onA a p) (hv : hvR N p o v) (okv : okV a p v) {lb : Int32} (hlb : lbA a p (LvR N p) o = lb) (s : Int32) :
    dn sc kModel_inTheWayOf 8 [.inr (.inr (10, 0, 0)), .inl (nI p), .inl (nI o), .inl (nI (16 * p + o)), .inl (usA a p o)] [.inl s] N = some (0, .inl (if s = -1 then bw2 a p o v lb else s), N) := by
  have h16 := (wf.2.1 p hp).2.1
  have ok := (wf.2.1 p hp).2.2 o ho
  obtain ⟨vt, vu⟩ := tg_vA ok
  rw [E_Model_inTheWayOf_8]
  by_cases z : s = -1
  · subst z
    rw [if_pos rfl, if_pos rfl]
    unfold bw2
    by_cases z1 : usA a p o = -1
    · rw [if_pos z1, if_pos z1]
    rw [if_neg z1, if_neg z1, P_mFoundV hp (by omega) hv vu z1, r1_s]
    obtain ⟨k, hk, ek⟩ := vv_ok okv vu z1
    have h10 := ow_10 k hk
    rw [← ek] at h10
    by_cases z2 : vvI v (usA a p o) < 10
    · rw [if_pos z2, if_neg (h10.mp z2)]
      have eb : ∀ sh, dn sc kModel_borrowerOf 0 [.inr (.inr (10, 0, 0)), .inl (nI p), .inl (nI o), .inl (usA a p o), .inl (bI sh), .inl 0] [] N = some (0, .inl (fsR 6 0 (bwP v lb (tgA a p o) (-1) (usA a p o) sh)), N) := fun sh => P_mBo wf r hp ho hv hlb (fun i hi => by rw [b_0, decide_eq_false ((by decide : ∀ i, i < 6 → ¬ nI i = -1) i hi)])
      have e17 : ∀ b, dn sc kModel_inTheWayOf 17 [.inr (.inr (10, 0, 0)), .inl (nI p), .inl (nI o), .inl (nI (16 * p + o)), .inl (usA a p o)] [.inl (bI b)] N = some (0, .inl (fsR 6 0 (bwP v lb (tgA a p o) (-1) (usA a p o) (!(decide (opW a p o = 3) || decide (opW a p o = 5) || b)))), N) := by
        intro b
        have ebt := eb true
        have ebf := eb false
        rw [show bI true = 1 from rfl] at ebt
        rw [show bI false = 0 from rfl] at ebf
        rw [E_Model_inTheWayOf_17, i_ib (show 16 * p + o < 48 by omega) (by decide), if_pos rfl, if_pos rfl, i_cl (by omega), (cr_op r p o).1, ebt, ebf, r1_s, r1_s]
        by_cases y3 : opW a p o = 3
        · rw [if_pos y3, decide_eq_true y3]; rfl
        rw [if_neg y3, decide_eq_false y3]
        by_cases y5 : opW a p o = 5
        · rw [if_pos y5, decide_eq_true y5]; rfl
        rw [if_neg y5, decide_eq_false y5]
        cases b with
        | true => rw [if_neg (show ¬ bI true = 0 by decide)]; rfl
        | false => rw [if_pos (show bI false = 0 from rfl)]; rfl
      have e17t := e17 true
      have e17f := e17 false
      rw [show bI true = 1 from rfl] at e17t
      rw [show bI false = 0 from rfl] at e17f
      have e14 : dn sc kModel_inTheWayOf 14 [.inr (.inr (10, 0, 0)), .inl (nI p), .inl (nI o), .inl (nI (16 * p + o)), .inl (usA a p o)] [] N = some (0, .inl (fsR 6 0 (bwP v lb (tgA a p o) (-1) (usA a p o) (!(decide (opW a p o = 3) || decide (opW a p o = 5) || decide (vvI v (usA a p o) = 1))))), N) := by
        rw [E_Model_inTheWayOf_14, P_mFoundV hp (by omega) hv vu z1, r1_s, e17t, e17f]
        by_cases y : vvI v (usA a p o) = 1
        · rw [if_pos y, decide_eq_true y]
        · rw [if_neg y, decide_eq_false y]
      rw [i_ib (show 16 * p + o < 48 by omega) (by decide), if_pos rfl, if_pos rfl, i_cl (by omega), (cr_op r p o).1, e14, e17f]
      unfold lvB
      by_cases y1 : opW a p o = 1
      · rw [if_pos y1, decide_eq_true y1]; rfl
      rw [if_neg y1, decide_eq_false y1]
      by_cases y7 : opW a p o = 7
      · rw [if_pos y7, decide_eq_true y7]; rfl
      · rw [if_neg y7, decide_eq_false y7]; rfl
    · rw [if_neg z2, if_pos (Classical.not_not.mp (fun y => z2 (h10.mpr y)))]
  · rw [if_neg z, if_neg z]
theorem P_mBw {sc : Nat × (Nat → Int32)} {a : Nat → Nat → Int32} {N : sm_M} {p o : Nat} {v : Nat → Int32} (wf : wfA a) (r : cr a N) (hp : p < 3) (ho : o < onA a p) (hv : hvR N p o v) (okv : okV a p v) {lb : Int32} (hlb : lbA a p (LvR N p) o = lb) :
    dn sc kModel_inTheWayOf 0 [.inr (.inr (10, 0, 0)), .inl (nI p), .inl (nI o)] [] N = some (0, .inl (bwE a p o v lb), N) := by
  have h16 := (wf.2.1 p hp).2.1
  have ok := (wf.2.1 p hp).2.2 o ho
  obtain ⟨vt, vu⟩ := tg_vA ok
  have h8 := P_mBw8 (sc := sc) wf r hp ho hv okv hlb
  rw [E_Model_inTheWayOf_0, k16, P_mTarget r hp (by omega), r1_s, P_mUsed r hp (by omega), r1_s, h8, if_pos rfl]
  unfold bwE
  by_cases z1 : tgA a p o = -1
  · rw [if_pos z1, if_pos (Or.inl z1)]
  rw [if_neg z1]
  by_cases z2 : tgA a p o = usA a p o
  · rw [if_pos z2, if_pos (Or.inr (Or.inl z2))]
  rw [if_neg z2, P_mFoundV hp (by omega) hv vt z1, r1_s]
  by_cases z3 : vvI v (tgA a p o) = 0
  · rw [if_pos z3, h8, if_pos rfl, if_pos (Or.inr (Or.inr z3))]
  rw [if_neg z3, if_neg (show ¬(tgA a p o = -1 ∨ tgA a p o = usA a p o ∨ vvI v (tgA a p o) = 0) from fun z => z.elim z1 (fun z => z.elim z2 z3))]
  have fin : ∀ ot, (∀ i, i < 6 → bt ot i = decide (nI i = usA a p o)) → sm_r1 (dn sc kModel_borrowerOf 0 [.inr (.inr (10, 0, 0)), .inl (nI p), .inl (nI o), .inl (tgA a p o), .inl 1, .inl ot] [] N) (fun x8 M7 => dn sc kModel_inTheWayOf 8 [.inr (.inr (10, 0, 0)), .inl (nI p), .inl (nI o), .inl (nI (16 * p + o)), .inl (usA a p o)] [.inl x8] M7) = some (0, .inl (if fsR 6 0 (bwP v lb (tgA a p o) (usA a p o) (tgA a p o) true) = -1 then bw2 a p o v lb else fsR 6 0 (bwP v lb (tgA a p o) (usA a p o) (tgA a p o) true)), N) := by
    intro ot hot
    have hb := P_mBo (sc := sc) wf r hp ho hv (ow := tgA a p o) hlb (sh := true) hot
    rw [show bI true = 1 from rfl] at hb
    rw [hb, r1_s, h8]
  by_cases z4 : usA a p o = -1
  · rw [if_pos z4]
    exact fin 0 (fun i hi => by rw [b_0, z4, decide_eq_false ((by decide : ∀ i, i < 6 → ¬ nI i = -1) i hi)])
  · rw [if_neg z4]
    have eb : btI (usA a p o) = 1 <<< (usA a p o &&& 31) := if_neg z4
    rw [← eb]
    exact fin _ (fun i hi => bit_t vu hi)
theorem P_mWrong (sc : Nat × (Nat → Int32)) (M : sm_M) (w : Int32) (s l : Bool) : dn sc kModel_isWrongUse 0 [.inl w, .inl (bI s), .inl (bI l)] [] M = some (0, .inl (bI (wwB w s l)), M) := by
  have e7 : dn sc kModel_isWrongUse 7 [.inl w, .inl (bI l)] [] M = some (0, .inl (bI (decide (w = 5) && l)), M) := by
    rw [E_Model_isWrongUse_7]
    by_cases z : w = 5
    · rw [if_pos z, decide_eq_true z]; cases l <;> rfl
    · rw [if_neg z, decide_eq_false z]; rfl
  have e5 : dn sc kModel_isWrongUse 5 [.inl w, .inl (bI s), .inl (bI l)] [] M = some (0, .inl (bI ((decide (w = 4) && s) || (decide (w = 5) && l))), M) := by
    rw [E_Model_isWrongUse_5, e7]
    by_cases z : w = 4
    · rw [if_pos z, decide_eq_true z]; cases s <;> rfl
    · rw [if_neg z, decide_eq_false z]; rfl
  have e3 : dn sc kModel_isWrongUse 3 [.inl w, .inl (bI s), .inl (bI l)] [] M = some (0, .inl (bI ((s || l) || ((decide (w = 4) && s) || (decide (w = 5) && l)))), M) := by
    rw [E_Model_isWrongUse_3, e5]
    cases s <;> cases l <;> rfl
  rw [E_Model_isWrongUse_0, e5, e3]
  unfold wwB
  by_cases q2 : w = 2
  · subst q2; cases s <;> cases l <;> rfl
  rw [if_neg q2]
  by_cases q6 : w = 6
  · subst q6; cases s <;> cases l <;> rfl
  rw [if_neg q6]
  by_cases q7 : w = 7
  · subst q7; cases s <;> cases l <;> rfl
  rw [if_neg q7, if_neg (show ¬(w = 2 ∨ w = 6 ∨ w = 7) from fun h => h.elim q2 (fun h => h.elim q6 q7))]
  by_cases q4 : w = 4
  · subst q4; cases s <;> cases l <;> rfl
  rw [if_neg q4, decide_eq_false q4]
  by_cases q5 : w = 5
  · subst q5; cases s <;> cases l <;> rfl
  · rw [if_neg q5, decide_eq_false q5]; rfl
