/-! LEVEL B: the run: what a process owns is dropped, the latest first -/
theorem V_free2 {sc : Nat × (Nat → Int32)} {p : Nat} {M N : sm_M} {mk T b tc u : Nat} (q : Q p M N mk T b tc) (hp : p < 3) (hu : u < 6) (h1 : hC M p u = 1) :
    ∃ M', dn sc kBody_free 0 [.inr (.inr (0, p, 0)), .inl (nI u)] [] M = some (0, .inl 0, M') ∧ dn sc kModel_goesAway 0 [.inr (.inr (10, 0, 0)), .inl (aR N 30 p u)] [] N = some (0, .inl 0, dpR N (aR N 30 p u)) ∧ Q p M' (sm_u (dpR N (aR N 30 p u)) 10 0 29 (6 * p + u) 0) mk T b tc ∧ frS (fM p) M M' ∧ frS (fN p) N (sm_u (dpR N (aR N 30 p u)) 10 0 29 (6 * p + u) 0) ∧ hC M' p = upL (hC M p) u 0 ∧ kC M' p = kC M p := by
  obtain ⟨d, d1, d2, d3⟩ := Q_d q
  obtain ⟨L, l1, l2⟩ := P_free (sc := sc) (p := p) hu h1 d1 d3
  have ex : xC M p u = aR N 30 p u := (q.1.1 u hu).2.1
  have q1 : Q p (dpC M (xC M p u)) (dpR N (xC M p u)) mk T b tc := by
    obtain ⟨a1, a2, a3, a4, a5, a6, a7⟩ := q
    exact ⟨PV_dp a1, RD_dp a2, RI_dp a3, (dpC_f (by decide)).trans a4, (dpR_39 (by decide)).trans a5, (dpR_39 (by decide)).trans a6, (dpC_f (by decide)).trans a7⟩
  have f1 : ∀ w, hC (dpC M (xC M p u)) p w = hC M p w := fun w => dpC_c (by decide)
  have f2 : ∀ w, xC (dpC M (xC M p u)) p w = xC M p w := fun w => dpC_c (by decide)
  have f3 : ∀ v, lpC (dpC M (xC M p u)) p v = lpC M p v := fun v => by unfold lpC; rw [dpC_c (by decide)]
  have q2 := Q_gone (L := L) q1 hu (fun v hv hvu => by rw [f1, f1, f2, f2, f3]; exact l2 v hv hvu)
  rw [ex] at q2 l1
  refine ⟨_, l1, P_mAway d2 d3, q2, frS_t dpC_fr gone_frM, frS_t dpR_fr (u_frN hu (by decide) (by decide)), ?_, ?_⟩
  · rw [hC_u, lpM_e.1]
    congr 1
    funext w
    exact dpC_c (by decide)
  · rw [kC_j (by omega), lpM_e.2.2.1]
    funext w
    exact dpC_c (by decide)
def cntD (M : sm_M) (p : Nat) (all : Bool) (v : Nat) : Bool := decide (hC M p v = 1) && (all || decide (kC M p v = 1))
def stD (M : sm_M) (p : Nat) (all : Bool) (i : Nat) (l : Option Nat) : Option Nat := if cntD M p all i = true then (match l with | none => some i | some j => if sC M p j < sC M p i then some i else some j) else l
def scD (M : sm_M) (p : Nat) (all : Bool) : Nat → Nat → Option Nat → Option Nat
  | 0, _, l => l
  | n + 1, i, l => scD M p all n (i + 1) (stD M p all i l)
def oC : Option Nat → Int32
  | none => -1
  | some j => nI j
def oR (p : Nat) : Option Nat → Int32
  | none => -1
  | some j => nI (6 * p + j)
def okD (M : sm_M) (p : Nat) (all : Bool) (l : Option Nat) : Prop := ∀ j, l = some j → j < 6 ∧ cntD M p all j = true
theorem okD_s {M : sm_M} {p i : Nat} {all : Bool} {l : Option Nat} (hi : i < 6) (h : okD M p all l) : okD M p all (stD M p all i l) := by
  unfold stD
  by_cases c : cntD M p all i = true
  · rw [if_pos c]
    cases l with
    | none =>
      intro j e
      obtain rfl : i = j := Option.some.inj e
      exact ⟨hi, c⟩
    | some j0 =>
      show okD M p all (if sC M p j0 < sC M p i then some i else some j0)
      split
      · intro j e
        obtain rfl : i = j := Option.some.inj e
        exact ⟨hi, c⟩
      · exact h
  · rw [if_neg c]; exact h
theorem okD_c {M : sm_M} {p : Nat} {all : Bool} : ∀ {n i : Nat} {l : Option Nat}, i + n = 6 → okD M p all l → okD M p all (scD M p all n i l) := by
  intro n
  induction n with
  | zero => intro i l _ h; exact h
  | succ n ih => intro i l hi h; exact ih (by omega) (okD_s (by omega) h)
theorem scD_k {M : sm_M} {p : Nat} {all : Bool} : ∀ {n i : Nat} {j : Nat}, ¬ scD M p all n i (some j) = none := by
  intro n
  induction n with
  | zero => intro i j h; cases h
  | succ n ih =>
    intro i j h
    unfold scD stD at h
    split at h
    · show False
      by_cases z : sC M p j < sC M p i
      · exact ih (by
          have e : (match some j with | none => some i | some j => if sC M p j < sC M p i then some i else some j) = some i := if_pos z
          rw [e] at h; exact h)
      · exact ih (by
          have e : (match some j with | none => some i | some j => if sC M p j < sC M p i then some i else some j) = some j := if_neg z
          rw [e] at h; exact h)
    · exact ih h
theorem scD_n {M : sm_M} {p : Nat} {all : Bool} : ∀ {n i : Nat}, scD M p all n i none = none → ∀ v, i ≤ v → v < i + n → cntD M p all v = false := by
  intro n
  induction n with
  | zero => intro i _ v h1 h2; omega
  | succ n ih =>
    intro i h v h1 h2
    unfold scD stD at h
    by_cases c : cntD M p all i = true
    · rw [if_pos c] at h
      exact absurd h scD_k
    · rw [if_neg c] at h
      by_cases z : v = i
      · rw [z]; exact bf c
      · exact ih h v (by omega) (by omega)
theorem P_lat7 {sc : Nat × (Nat → Int32)} {M : sm_M} {p i : Nat} {all : Bool} {l : Option Nat} (hi : i < 6) (h : okD M p all l) : dn sc kBody_latestOwner 7 [.inr (.inr (0, p, 0)), .inl (bI (!all)), .inl (oC l), .inl (nI i)] [.inl (bI (cntD M p all i))] M = dn sc kBody_latestOwner 1 [.inr (.inr (0, p, 0)), .inl (bI (!all)), .inl (oC (stD M p all i l)), .inl (nI (i + 1))] [] M := by
  rw [E_Body_latestOwner_7, nI_1]
  unfold stD
  cases c : cntD M p all i with
  | false => rw [if_pos (show bI false = 0 from rfl), if_neg (show ¬ false = true by decide)]
  | true =>
    rw [if_neg (show ¬ bI true = 0 by decide), if_pos rfl]
    cases l with
    | none => rw [if_pos (show oC none = -1 from rfl)]; rfl
    | some j =>
      have j6 := (h j rfl).1
      show (if nI j = -1 then _ else _) = dn sc kBody_latestOwner 1 [.inr (.inr (0, p, 0)), .inl (bI (!all)), .inl (oC (if sC M p j < sC M p i then some i else some j)), .inl (nI (i + 1))] [] M
      show (if nI j = -1 then _ else (if sm_ib (nI i) 6 = true then (if sm_ib (nI j) 6 = true then (if M.1 0 p 5 (nI j).toNatClampNeg < M.1 0 p 5 (nI i).toNatClampNeg then _ else _) else none) else none)) = _
      rw [if_neg ((by decide : ∀ b, b < 6 → ¬ nI b = -1) j j6), i_ib hi (by decide), if_pos rfl, i_ib j6 (by decide), if_pos rfl, i_cl (show i < 2147483648 by omega), i_cl (show j < 2147483648 by omega)]
      show (if sC M p j < sC M p i then _ else _) = _
      split <;> rfl
theorem P_lat1 {sc : Nat × (Nat → Int32)} {M : sm_M} {p : Nat} {all : Bool} : ∀ {n i : Nat} {l : Option Nat}, i + n = 6 → okD M p all l → dn sc kBody_latestOwner 1 [.inr (.inr (0, p, 0)), .inl (bI (!all)), .inl (oC l), .inl (nI i)] [] M = some (0, .inl (oC (scD M p all n i l)), M) := by
  intro n
  induction n with
  | zero =>
    intro i l hi _
    obtain rfl : i = 6 := by omega
    rw [E_Body_latestOwner_1, if_neg (by decide)]; rfl
  | succ n ih =>
    intro i l hi h
    have i6 : i < 6 := by omega
    refine Eq.trans ?_ ((P_lat7 (sc := sc) i6 h).trans (ih (by omega) (okD_s i6 h)))
    rw [E_Body_latestOwner_1, if_pos (show nI i < 6 from by rw [show (6 : Int32) = nI 6 from rfl, i_lt (by omega) (by decide)]; exact i6), P_bOwns i6, r1_s]
    unfold cntD
    by_cases o1 : hC M p i = 1
    · rw [decide_eq_true o1, if_neg (show ¬ bI true = 0 by decide), Bool.true_and]
      cases all with
      | true => rw [if_pos (show bI (!true) = 0 from rfl)]; rfl
      | false =>
        rw [if_neg (show ¬ bI (!false) = 0 by decide), i_ib i6 (by decide), if_pos rfl, i_cl (show i < 2147483648 by omega)]
        show (if kC M p i = 1 then _ else _) = _
        by_cases k : kC M p i = 1
        · rw [if_pos k, decide_eq_true k]; rfl
        · rw [if_neg k, decide_eq_false k]; rfl
    · rw [decide_eq_false o1, if_pos (show bI false = 0 from rfl)]; rfl
theorem P_mLat {sc : Nat × (Nat → Int32)} {M N : sm_M} {p mk T tc : Nat} {all : Bool} (pv : PV p M N mk T tc) (hp : p < 3) : ∀ {n i : Nat} {l : Option Nat}, i + n = 6 → okD M p all l → dn sc kModel_dropsOwned 3 [.inr (.inr (10, 0, 0)), .inl (nI p), .inl (bI all), .inl (oR p l), .inl (nI (6 * p + i))] [] N = dn sc kModel_dropsOwned 3 [.inr (.inr (10, 0, 0)), .inl (nI p), .inl (bI all), .inl (oR p (scD M p all n i l)), .inl (nI (6 * p + 6))] [] N := by
  intro n
  induction n with
  | zero =>
    intro i l hi _
    obtain rfl : i = 6 := by omega
    rfl
  | succ n ih =>
    intro i l hi h
    have i6 : i < 6 := by omega
    have i18 : sm_ib (nI (6 * p + i)) 18 = true := i_ib (by omega) (by decide)
    have ci : (nI (6 * p + i)).toNatClampNeg = 6 * p + i := i_cl (by omega)
    refine Eq.trans ?_ (ih (by omega) (okD_s i6 h))
    have e9 : dn sc kModel_dropsOwned 9 [.inr (.inr (10, 0, 0)), .inl (nI p), .inl (bI all), .inl (oR p l), .inl (nI (6 * p + i))] [.inl (bI (cntD M p all i))] N = dn sc kModel_dropsOwned 3 [.inr (.inr (10, 0, 0)), .inl (nI p), .inl (bI all), .inl (oR p (stD M p all i l)), .inl (nI (6 * p + (i + 1)))] [] N := by
      rw [E_Model_dropsOwned_9, nI_1, Nat.add_assoc]
      unfold stD
      cases c : cntD M p all i with
      | false => rw [if_pos (show bI false = 0 from rfl), if_neg (show ¬ false = true by decide)]
      | true =>
        rw [if_neg (show ¬ bI true = 0 by decide), if_pos rfl]
        cases l with
        | none => rw [if_pos (show oR p none = -1 from rfl)]; rfl
        | some j =>
          obtain ⟨j6, jc⟩ := h j rfl
          show (if nI (6 * p + j) = -1 then _ else (if sm_ib (nI (6 * p + i)) 18 = true then (if sm_ib (nI (6 * p + j)) 18 = true then (if N.1 10 0 32 (nI (6 * p + j)).toNatClampNeg < N.1 10 0 32 (nI (6 * p + i)).toNatClampNeg then _ else _) else none) else none)) = dn sc kModel_dropsOwned 3 [.inr (.inr (10, 0, 0)), .inl (nI p), .inl (bI all), .inl (oR p (if sC M p j < sC M p i then some i else some j)), .inl (nI (6 * p + (i + 1)))] [] N
          rw [if_neg ((by decide : ∀ b, b < 18 → ¬ nI b = -1) _ (by omega)), i18, if_pos rfl, i_ib (show 6 * p + j < 18 by omega) (by decide), if_pos rfl, ci, i_cl (show 6 * p + j < 2147483648 by omega), aR_i i6, aR_i j6]
          unfold cntD at c jc
          rw [Bool.and_eq_true, decide_eq_true_eq, (pv.1 i i6).1] at c
          rw [Bool.and_eq_true, decide_eq_true_eq, (pv.1 j j6).1] at jc
          have r6 := pv.2.2.2.2.2.2.1 j i j6 i6 jc.1 c.1
          by_cases z : sC M p j < sC M p i
          · rw [if_pos (r6.mp z), if_pos z]; rfl
          · rw [if_neg (fun y => z (r6.mpr y)), if_neg z]
    rw [← e9, E_Model_dropsOwned_3, if_pos (show nI (6 * p + i) < 6 * nI p + 6 from by rw [show (6 : Int32) = nI 6 from rfl, i_mul, nI_add, i_lt (by omega) (by omega)]; omega), i18, if_pos rfl, ci, aR_i i6, ← (pv.1 i i6).1]
    unfold cntD
    by_cases o1 : hC M p i = 1
    · rw [if_pos o1, decide_eq_true o1, Bool.true_and]
      cases all with
      | true => rw [if_neg (show ¬ bI true = 0 by decide)]; rfl
      | false =>
        rw [if_pos (show bI false = 0 from rfl), if_pos rfl, aR_i i6, ← (pv.1 i i6).2.2]
        by_cases k : kC M p i = 1
        · rw [if_pos k, decide_eq_true k]; rfl
        · rw [if_neg k, decide_eq_false k]; rfl
    · rw [if_neg o1, decide_eq_false o1]; rfl
theorem D_loop {sc : Nat × (Nat → Int32)} {p mk T b tc : Nat} {all : Bool} (hp : p < 3) : ∀ (c i : Nat) (M N : sm_M) (l0 : Int32), ¬ l0 = -1 → sumN 6 (fun v => bN (cntD M p all v)) ≤ c → c + i ≤ 6 → Q p M N mk T b tc →
    ∃ M' N', dn sc kBody_dropOwned 1 [.inr (.inr (0, p, 0)), .inl (bI (!all)), .inl (nI i)] [] M = some (0, .inl 0, M') ∧ dn sc kModel_dropsOwned 1 [.inr (.inr (10, 0, 0)), .inl (nI p), .inl (bI all), .inl l0] [] N = some (0, .inl 0, N') ∧ Q p M' N' mk T b tc ∧ frS (fM p) M M' ∧ frS (fN p) N N' := by
  intro c
  induction c with
  | zero =>
    intro i M N l0 hl hc hi q
    have cn : ∀ v, v < 6 → cntD M p all v = false := by
      intro v hv
      cases h : cntD M p all v with
      | false => rfl
      | true =>
        have := sumN_lt (f := fun _ => 0) (g := fun v => bN (cntD M p all v)) (n := 6) (k := v) (fun _ _ => Nat.zero_le _) hv (by show 0 < bN (cntD M p all v); rw [h]; decide)
        omega
    have es : scD M p all 6 0 none = none := by
      cases h : scD M p all 6 0 none with
      | none => rfl
      | some j =>
        obtain ⟨j1, j2⟩ := okD_c (M := M) (p := p) (all := all) (n := 6) (i := 0) (l := none) (by decide) (fun j e => by cases e) j h
        rw [cn j j1] at j2; cases j2
    refine ⟨M, N, ?_, ?_, q, frS_r, frS_r⟩
    · rw [E_Body_dropOwned_1]
      by_cases z : nI i < 6
      · have e := P_lat1 (sc := sc) (M := M) (p := p) (all := all) (n := 6) (i := 0) (l := none) (by decide) (fun j e => by cases e)
        rw [es] at e
        rw [if_pos z, E_Body_latestOwner_0, show dn sc kBody_latestOwner 1 [.inr (.inr (0, p, 0)), .inl (bI (!all)), .inl (-1), .inl 0] [] M = _ from e, r1_s, if_pos (show oC none = -1 from rfl)]
      · rw [if_neg z]
    · have e := P_mLat (sc := sc) (all := all) q.1 hp (n := 6) (i := 0) (l := none) (by decide) (fun j e => by cases e)
      rw [es, Nat.add_zero] at e
      rw [E_Model_dropsOwned_1, if_neg hl, show (6 : Int32) * nI p = nI (6 * p) by rw [show (6 : Int32) = nI 6 from rfl, i_mul], show dn sc kModel_dropsOwned 3 [.inr (.inr (10, 0, 0)), .inl (nI p), .inl (bI all), .inl (-1), .inl (nI (6 * p))] [] N = _ from e, E_Model_dropsOwned_3, if_neg (show ¬ nI (6 * p + 6) < 6 * nI p + 6 from by rw [show (6 : Int32) = nI 6 from rfl, i_mul, nI_add, i_lt (by omega) (by omega)]; omega), if_pos (show oR p none = -1 from rfl), E_Model_dropsOwned_1, if_pos (show oR p none = -1 from rfl)]
  | succ c ih =>
    intro i M N l0 hl hc hi q
    have e1 := P_lat1 (sc := sc) (M := M) (p := p) (all := all) (n := 6) (i := 0) (l := none) (by decide) (fun j e => by cases e)
    have e2 := P_mLat (sc := sc) (all := all) q.1 hp (n := 6) (i := 0) (l := none) (by decide) (fun j e => by cases e)
    rw [Nat.add_zero] at e2
    have i6 : nI i < 6 := by rw [show (6 : Int32) = nI 6 from rfl, i_lt (by omega) (by decide)]; omega
    cases es : scD M p all 6 0 none with
    | none =>
      rw [es] at e1 e2
      refine ⟨M, N, ?_, ?_, q, frS_r, frS_r⟩
      · rw [E_Body_dropOwned_1, if_pos i6, E_Body_latestOwner_0, show dn sc kBody_latestOwner 1 [.inr (.inr (0, p, 0)), .inl (bI (!all)), .inl (-1), .inl 0] [] M = _ from e1, r1_s, if_pos (show oC none = -1 from rfl)]
      · rw [E_Model_dropsOwned_1, if_neg hl, show (6 : Int32) * nI p = nI (6 * p) by rw [show (6 : Int32) = nI 6 from rfl, i_mul], show dn sc kModel_dropsOwned 3 [.inr (.inr (10, 0, 0)), .inl (nI p), .inl (bI all), .inl (-1), .inl (nI (6 * p))] [] N = _ from e2, E_Model_dropsOwned_3, if_neg (show ¬ nI (6 * p + 6) < 6 * nI p + 6 from by rw [show (6 : Int32) = nI 6 from rfl, i_mul, nI_add, i_lt (by omega) (by omega)]; omega), if_pos (show oR p none = -1 from rfl), E_Model_dropsOwned_1, if_pos (show oR p none = -1 from rfl)]
    | some u =>
      rw [es] at e1 e2
      obtain ⟨u6, uc⟩ := okD_c (M := M) (p := p) (all := all) (n := 6) (i := 0) (l := none) (by decide) (fun j e => by cases e) u es
      have u1 : hC M p u = 1 := by
        unfold cntD at uc
        rw [Bool.and_eq_true, decide_eq_true_eq] at uc
        exact uc.1
      obtain ⟨M1, g1, g2, g3, g4, g5, g6, g7⟩ := V_free2 (sc := sc) q hp u6 u1
      have hc' : sumN 6 (fun v => bN (cntD M1 p all v)) ≤ c := by
        have := sumN_lt (f := fun v => bN (cntD M1 p all v)) (g := fun v => bN (cntD M p all v)) (n := 6) (k := u) (fun v hv => ?_) u6 ?_
        · omega
        · show bN (cntD M1 p all v) ≤ bN (cntD M p all v)
          unfold cntD
          rw [g6, g7]
          by_cases z : v = u
          · rw [z, up_k, decide_eq_false (show ¬ (0 : Int32) = 1 by decide), Bool.false_and]; exact Nat.zero_le _
          · rw [up_o z]; exact Nat.le_refl _
        · show bN (cntD M1 p all u) < bN (cntD M p all u)
          rw [uc]
          unfold cntD
          rw [g6, up_k, decide_eq_false (show ¬ (0 : Int32) = 1 by decide), Bool.false_and]; decide
      obtain ⟨M', N', k1, k2, k3, k4, k5⟩ := ih (i + 1) M1 _ (nI (6 * p + u)) ((by decide : ∀ b, b < 18 → ¬ nI b = -1) _ (by omega)) hc' (by omega) g3
      refine ⟨M', N', ?_, ?_, k3, frS_t g4 k4, frS_t g5 k5⟩
      · rw [E_Body_dropOwned_1, if_pos i6, E_Body_latestOwner_0, show dn sc kBody_latestOwner 1 [.inr (.inr (0, p, 0)), .inl (bI (!all)), .inl (-1), .inl 0] [] M = _ from e1, r1_s]
        show (if nI u = -1 then _ else sm_r0 (dn sc kBody_free 0 [.inr (.inr (0, p, 0)), .inl (nI u)] [] M) (fun M3 => dn sc kBody_dropOwned 1 [.inr (.inr (0, p, 0)), .inl (bI (!all)), .inl (nI i + 1)] [] M3)) = _
        rw [if_neg ((by decide : ∀ b, b < 6 → ¬ nI b = -1) u u6), g1, r0_s, nI_1, k1]
      · rw [E_Model_dropsOwned_1, if_neg hl, show (6 : Int32) * nI p = nI (6 * p) by rw [show (6 : Int32) = nI 6 from rfl, i_mul], show dn sc kModel_dropsOwned 3 [.inr (.inr (10, 0, 0)), .inl (nI p), .inl (bI all), .inl (-1), .inl (nI (6 * p))] [] N = _ from e2, E_Model_dropsOwned_3, if_neg (show ¬ nI (6 * p + 6) < 6 * nI p + 6 from by rw [show (6 : Int32) = nI 6 from rfl, i_mul, nI_add, i_lt (by omega) (by omega)]; omega)]
        show (if nI (6 * p + u) = -1 then _ else (if sm_ib (nI (6 * p + u)) 18 = true then sm_r0 (dn sc kModel_goesAway 0 [.inr (.inr (10, 0, 0)), .inl (N.1 10 0 30 (nI (6 * p + u)).toNatClampNeg)] [] N) (fun M1 => if sm_ib (nI (6 * p + u)) 18 = true then dn sc kModel_dropsOwned 1 [.inr (.inr (10, 0, 0)), .inl (nI p), .inl (bI all), .inl (nI (6 * p + u))] [] (sm_u M1 10 0 29 (nI (6 * p + u)).toNatClampNeg 0) else none) else none)) = _
        rw [if_neg ((by decide : ∀ b, b < 18 → ¬ nI b = -1) _ (by omega)), i_ib (show 6 * p + u < 18 by omega) (by decide), if_pos rfl, i_cl (show 6 * p + u < 2147483648 by omega), aR_i u6, g2, r0_s, if_pos rfl, k2]
theorem D_owned {sc : Nat × (Nat → Int32)} {p mk T b tc : Nat} {all : Bool} {M N : sm_M} (hp : p < 3) (q : Q p M N mk T b tc) : ∃ M' N', dn sc kBody_dropOwned 0 [.inr (.inr (0, p, 0)), .inl (bI (!all))] [] M = some (0, .inl 0, M') ∧ dn sc kModel_dropsOwned 0 [.inr (.inr (10, 0, 0)), .inl (nI p), .inl (bI all)] [] N = some (0, .inl 0, N') ∧ Q p M' N' mk T b tc ∧ frS (fM p) M M' ∧ frS (fN p) N N' := by
  have h6 : sumN 6 (fun v => bN (cntD M p all v)) ≤ 6 := by
    have := sumN_bd (f := fun v => bN (cntD M p all v)) (b := 1) (n := 6) (fun v _ => by show bN (cntD M p all v) ≤ 1; cases cntD M p all v <;> decide)
    omega
  obtain ⟨M', N', h1, h2, h3⟩ := D_loop (sc := sc) (all := all) hp 6 0 M N 0 (by decide) h6 (by decide) q
  exact ⟨M', N', by rw [E_Body_dropOwned_0]; exact h1, by rw [E_Model_dropsOwned_0]; exact h2, h3⟩
