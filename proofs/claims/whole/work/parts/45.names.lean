/-! LEVEL B: flows: the class's variables behind an op -/
theorem nm0 {Y : Int32} {x y : Nat} {kd : Int32} {t : Bool} {s : Int32} {v : Nat → Int32} {i : Nat} : nmF 0 Y x y kd t s v i = if i = x then 1 + Y else v i := rfl
theorem nm1 {Y : Int32} {x y : Nat} {kd : Int32} {t : Bool} {s : Int32} {v : Nat → Int32} {i : Nat} : nmF 1 Y x y kd t s v i = if x = y then v i else if i = x then v y else if i = y then kpN (v y) else v i := rfl
theorem nm2 {Y : Int32} {x y : Nat} {kd : Int32} {t : Bool} {s : Int32} {v : Nat → Int32} {i : Nat} : nmF 2 Y x y kd t s v i = if i = x then 0 else v i := rfl
theorem nm5 {Y : Int32} {x y : Nat} {kd : Int32} {t : Bool} {s : Int32} {v : Nat → Int32} {i : Nat} : nmF 5 Y x y kd t s v i = if i = x then shN Y (v y) else v i := rfl
theorem nm6 {Y : Int32} {x y : Nat} {kd : Int32} {t : Bool} {s : Int32} {v : Nat → Int32} {i : Nat} : nmF 6 Y x y kd t s v i = if i = x then ldN Y (v y) else v i := rfl
theorem nm7 {Y : Int32} {x y : Nat} {kd : Int32} {t : Bool} {s : Int32} {v : Nat → Int32} {i : Nat} : nmF 7 Y x y kd t s v i = if i = y then kpN (v y) else v i := rfl
theorem nm8 {Y : Int32} {x y : Nat} {kd : Int32} {t : Bool} {s : Int32} {v : Nat → Int32} {i : Nat} : nmF 8 Y x y kd t s v i = if i = y then (if t = true then 1 + kd else if s = -2 then 5 else 1) else v i := rfl
theorem P_ch10_n {sc : Nat × (Nat → Int32)} {M : sm_M} {q : Nat} {o u is w : Int32} : dn sc kFlow_changeNames 10 [.inr (.inr (4, q, 0)), .inl o, .inl (-1), .inl u, .inl is, .inl w] [] M = some (0, .inl 0, M) := by
  rw [E_Flow_changeNames_10, P_within, r1_s, if_pos (by decide)]
theorem P_ch10_t {sc : Nat × (Nat → Int32)} {M : sm_M} {q t : Nat} {o u is w g : Int32} (ht : t < 6) (hg : dn sc kFlow_gotten 0 [.inr (.inr (4, q, 0)), .inl o, .inl w, .inl u, .inl is] [] M = some (0, .inl g, M)) : dn sc kFlow_changeNames 10 [.inr (.inr (4, q, 0)), .inl o, .inl (nI t), .inl u, .inl is, .inl w] [] M = some (0, .inl 0, sm_u M 4 q 7 t g) := by
  rw [E_Flow_changeNames_10, P_within, r1_s, show (6 : Int32) = nI 6 from rfl, within_nI (by omega) (by decide), decide_eq_true ht, if_neg (by decide), hg, r1_s, i_ib ht (by decide), if_pos rfl, i_cl (by omega)]
theorem P_ch7_0 {sc : Nat × (Nat → Int32)} {M : sm_M} {q : Nat} {o t u is w : Int32} : dn sc kFlow_changeNames 7 [.inr (.inr (4, q, 0)), .inl o, .inl t, .inl u, .inl is, .inl w] [.inl 0] M = dn sc kFlow_changeNames 10 [.inr (.inr (4, q, 0)), .inl o, .inl t, .inl u, .inl is, .inl w] [] M := by
  rw [E_Flow_changeNames_7, if_pos rfl]
theorem P_ch7_1 {sc : Nat × (Nat → Int32)} {M : sm_M} {q u : Nat} {o t is w : Int32} (hu : u < 6) : dn sc kFlow_changeNames 7 [.inr (.inr (4, q, 0)), .inl o, .inl t, .inl (nI u), .inl is, .inl w] [.inl 1] M = dn sc kFlow_changeNames 10 [.inr (.inr (4, q, 0)), .inl o, .inl t, .inl (nI u), .inl is, .inl w] [] (sm_u M 4 q 7 u 0) := by
  rw [E_Flow_changeNames_7, if_neg (by decide), P_within, r1_s, show (6 : Int32) = nI 6 from rfl, within_nI (by omega) (by decide), decide_eq_true hu, if_neg (by decide), i_ib hu (by decide), if_pos rfl, i_cl (by omega)]
theorem P_ch4 {sc : Nat × (Nat → Int32)} {M : sm_M} {q u : Nat} {o t is w : Int32} (hu : u < 6) : dn sc kFlow_changeNames 4 [.inr (.inr (4, q, 0)), .inl o, .inl t, .inl (nI u), .inl is, .inl w] [] M = dn sc kFlow_changeNames 10 [.inr (.inr (4, q, 0)), .inl o, .inl t, .inl (nI u), .inl is, .inl w] [] (if tkB is = true then sm_u M 4 q 7 u 0 else M) := by
  rw [E_Flow_changeNames_4, P_fTaken, r1_s]
  cases tkB is with
  | true => rw [if_neg (show ¬ bI true = 0 by decide), P_ch7_1 hu, if_pos rfl]
  | false => rw [if_pos (show bI false = 0 from rfl), P_ch7_0, if_neg (show ¬ false = true by decide)]
/-- what changeNames begins with -/
theorem P_ch0 {sc : Nat × (Nat → Int32)} {a : Nat → Nat → Int32} {M : sm_M} {q o : Nat} (wf : wfA a) (r : cx a M q) (hq : q < 3) (ho : o < onA a q) {t u is W : Int32} (hW : opW a q o = W) (ht : tgK W (opX a q o) (opY a q o) = t) (hu : usK W (opX a q o) (opY a q o) = u) (his : (u = -1 ∧ is = 0) ∨ ∃ k, k < 6 ∧ u = nI k ∧ is = (fC M q).2 o k) :
    dn sc kFlow_changeNames 0 [.inr (.inr (4, q, 0)), .inl (nI o)] [] M = if W = 2 then dn sc kFlow_changeNames 7 [.inr (.inr (4, q, 0)), .inl (nI o), .inl t, .inl u, .inl is, .inl W] [.inl 1] M else if W = 1 then (if t = u then dn sc kFlow_changeNames 7 [.inr (.inr (4, q, 0)), .inl (nI o), .inl t, .inl u, .inl is, .inl W] [.inl 0] M else dn sc kFlow_changeNames 4 [.inr (.inr (4, q, 0)), .inl (nI o), .inl t, .inl u, .inl is, .inl W] [] M) else if W = 7 then dn sc kFlow_changeNames 4 [.inr (.inr (4, q, 0)), .inl (nI o), .inl t, .inl u, .inl is, .inl W] [] M else dn sc kFlow_changeNames 7 [.inr (.inr (4, q, 0)), .inl (nI o), .inl t, .inl u, .inl is, .inl W] [.inl 0] M := by
  have h16 := (wf.2.1 q hq).2.1
  have rk := r.1.2.1 q hq
  have en : dn sc kFlow_nameAt 0 [.inr (.inr (4, q, 0)), .inl (nI o), .inl u] [] M = some (0, .inl is, M) := by
    rcases his with ⟨e1, e2⟩ | ⟨k, hk, e1, e2⟩
    · rw [e1, e2, P_fName_n (by omega)]
    · rw [e1, e2, P_fName (by omega) hk, fC_n hk]
  rw [E_Flow_changeNames_0, P_kTarget rk (by omega), r1_s, P_kUsed rk (by omega), r1_s, whK_i ho, abK_i ho, abK_i ho, hW, ht, hu, en, r1_s, P_kWhat rk (by omega), r1_s, whK_i ho, hW]
  by_cases q2 : W = 2
  · rw [if_pos q2, if_pos q2]
  rw [if_neg q2, if_neg q2]
  by_cases q1 : W = 1
  · rw [if_pos q1, if_pos q1]
    by_cases e : t = u
    · rw [if_pos e, if_pos e, if_neg (show ¬ W = 7 by rw [q1]; decide)]
    · rw [if_neg e, if_neg e]
  · rw [if_neg q1, if_neg q1]
/-- what TAKE gets -/
theorem P_fTake {sc : Nat × (Nat → Int32)} {a : Nat → Nat → Int32} {M : sm_M} {q o : Nat} (wf : wfA a) (r : cx a M q) (hq : q < 3) (ho : o < onA a q) (hv : okV a q ((fC M q).2 o)) (h8 : opW a q o = 8) : dn sc kFlow_taken 0 [.inr (.inr (4, q, 0)), .inl (nI o)] [] M = some (0, .inl (if tF a q o ((fC M q).2 o) = true then 1 + kF a q o ((fC M q).2 o) else if sF0 a q o ((fC M q).2 o) = -2 then 5 else 1), M) := by
  obtain ⟨⟨_, r2, r3⟩, rq⟩ := r
  have rk := r2 q hq
  have h16 := (wf.2.1 q hq).2.1
  have ok := (wf.2.1 q hq).2.2 o ho
  have nd : ndK (opW a q o) = 1 := by rw [h8]; rfl
  have q1 : ¬ ndK (opW a q o) = -1 := by rw [nd]; decide
  obtain ⟨x1, x2⟩ := xN_nd ok q1
  have e0 : sF0 a q o ((fC M q).2 o) = M.1 4 q 5 (o * 3 + xN a q o) := by unfold sF0; rw [if_neg q1, fC_s]
  have hst := okC_st wf (hv.2 (xN a q o) x1)
  rw [fC_s] at hst
  have ht : tF a q o ((fC M q).2 o) = decide (aF a q (xN a q o) (M.1 4 q 5 (o * 3 + xN a q o)) = 1) := by
    unfold tF atF
    rw [e0, nd, decide_eq_true (show ¬ (1 : Int32) = -1 by decide), Bool.true_and]
  rw [E_Flow_taken_0, P_kA rk (by omega), r1_s, abK_i ho, show opX a q o = nI (xN a q o) from x2, P_fStep (by omega) x1, r1_s, e0]
  by_cases e2 : M.1 4 q 5 (o * 3 + xN a q o) = -2
  · have : tF a q o ((fC M q).2 o) = false := by unfold tF; rw [e0, e2]; exact atF_n (by decide)
    rw [if_pos e2, this, if_neg (by decide), if_pos e2]
  · rw [if_neg e2, rq, P_aF r3 x1 hq hst, r1_s, ht, E_Flow_taken_5, E_Flow_taken_5]
    by_cases e3 : aF a q (xN a q o) (M.1 4 q 5 (o * 3 + xN a q o)) = 1
    · rw [if_pos e3, decide_eq_true e3, if_pos rfl, if_neg (by decide)]
      have e4 : tF a q o ((fC M q).2 o) = true := by rw [ht, decide_eq_true e3]
      obtain ⟨t1, t2, t3, t4, t5, t6, t7⟩ := tF_t e4
      rw [fC_s] at t4 t7
      obtain ⟨k, hk, ek⟩ := hst.resolve_left t4
      rw [ek, i_cl (by omega)] at t7
      unfold kF
      rw [e0, ek, P_cKind r3 t2 t7, r1_s, i_cl (by omega)]
    · rw [if_neg e3, decide_eq_false e3, if_neg (show ¬ false = true by decide), if_neg e2, if_pos rfl]; rfl
def s47 (q c p j _i : Nat) : Prop := c = 4 ∧ p = q ∧ j = 7
theorem P_fChange {sc : Nat × (Nat → Int32)} {a : Nat → Nat → Int32} {M : sm_M} {q o : Nat} (wf : wfA a) (r : cx a M q) (hq : q < 3) (ho : o < onA a q) (hv : okV a q ((fC M q).2 o)) (hn : ∀ i, i < 6 → M.1 4 q 7 i = (fC M q).2 o i)
    (h9 : ¬ (opW a q o = 9 ∨ opW a q o = 10 ∨ opW a q o = 11 ∨ opW a q o = 12 ∨ opW a q o = 13)) :
    ∃ N, dn sc kFlow_changeNames 0 [.inr (.inr (4, q, 0)), .inl (nI o)] [] M = some (0, .inl 0, N) ∧ frS (s47 q) M N ∧ ∀ i, i < 6 → N.1 4 q 7 i = nmF (opW a q o) (opY a q o) (xN a q o) (yN a q o) (kF a q o ((fC M q).2 o)) (tF a q o ((fC M q).2 o)) (sF0 a q o ((fC M q).2 o)) ((fC M q).2 o) i := by
  have ok := (wf.2.1 q hq).2.2 o ho
  have rk := r.1.2.1 q hq
  have h16 := (wf.2.1 q hq).2.1
  obtain ⟨c0, c1, c2, c7, c9, c10, c11, ca, cX, cY, cn⟩ := okO_c ok
  have hf : ∀ t g, frS (s47 q) M (sm_u M 4 q 7 t g) := fun t g => frS_u ⟨rfl, rfl, rfl⟩
  rcases ca with e | e | e | e | e | e | e | e | e | e | e | e | e | e
  · -- MAKE
    have x1 : xN a q o < 6 := (c0 e).1
    have x2 : opX a q o = nI (xN a q o) := cX (by simp only [e]; decide)
    refine ⟨sm_u M 4 q 7 (xN a q o) (1 + opY a q o), ?_, hf _ _, fun i hi => ?_⟩
    · rw [P_ch0 wf r hq ho e (t := nI (xN a q o)) (u := -1) (is := 0) (by rw [x2]; rfl) rfl (Or.inl ⟨rfl, rfl⟩), if_neg (by decide), if_neg (by decide), if_neg (by decide), P_ch7_0]
      exact P_ch10_t x1 (by rw [E_Flow_gotten_0, if_pos rfl, P_kB rk (by omega), r1_s, abK_i ho])
    · rw [u_1, e]
      rw [nm0]
      by_cases z : i = xN a q o
      · rw [if_pos ⟨rfl, rfl, rfl, z⟩, if_pos z]
      · rw [if_neg (fun y => z y.2.2.2), if_neg z, hn i hi]
  · -- MOVE
    have x1 : xN a q o < 6 := (c1 (Or.inl e)).1
    have y1 : yN a q o < 6 := (c1 (Or.inl e)).2
    have x2 : opX a q o = nI (xN a q o) := cX (by simp only [e]; decide)
    have y2 : opY a q o = nI (yN a q o) := cY (by simp only [e]; decide)
    have h0 := P_ch0 (sc := sc) wf r hq ho e (t := nI (xN a q o)) (u := nI (yN a q o)) (is := (fC M q).2 o (yN a q o)) (by rw [x2]; rfl) (by rw [y2]; rfl) (Or.inr ⟨_, y1, rfl, rfl⟩)
    rw [if_neg (by decide), if_pos rfl] at h0
    have hg : ∀ N : sm_M, dn sc kFlow_gotten 0 [.inr (.inr (4, q, 0)), .inl (nI o), .inl 1, .inl (nI (yN a q o)), .inl ((fC M q).2 o (yN a q o))] [] N = some (0, .inl ((fC M q).2 o (yN a q o)), N) := fun N => by rw [E_Flow_gotten_0, if_neg (by decide), if_pos rfl]
    by_cases z : xN a q o = yN a q o
    · refine ⟨sm_u M 4 q 7 (xN a q o) ((fC M q).2 o (yN a q o)), ?_, hf _ _, fun i hi => ?_⟩
      · rw [h0, if_pos (by rw [z]), P_ch7_0]
        exact P_ch10_t x1 (hg M)
      · rw [u_1, e]
        rw [nm1, if_pos z]
        by_cases y : i = xN a q o
        · rw [if_pos ⟨rfl, rfl, rfl, y⟩, ← z, ← y]
        · rw [if_neg (fun h => y h.2.2.2), hn i hi]
    · refine ⟨sm_u (if tkB ((fC M q).2 o (yN a q o)) = true then sm_u M 4 q 7 (yN a q o) 0 else M) 4 q 7 (xN a q o) ((fC M q).2 o (yN a q o)), ?_, ?_, fun i hi => ?_⟩
      · rw [h0, if_neg (by rw [i_eq (by omega) (by omega)]; exact z), P_ch4 y1]
        exact P_ch10_t x1 (hg _)
      · refine frS_t ?_ (frS_u ⟨rfl, rfl, rfl⟩)
        split
        · exact hf _ _
        · exact frS_r
      · rw [u_1, e]
        rw [nm1, if_neg z]
        by_cases y : i = xN a q o
        · rw [if_pos ⟨rfl, rfl, rfl, y⟩, if_pos y]
        rw [if_neg (fun h => y h.2.2.2), if_neg y]
        obtain ⟨k, hk, ek⟩ := hv.1 _ y1
        have ekp := tkB_kp k hk
        rw [← ek] at ekp
        by_cases y3 : i = yN a q o
        · rw [if_pos y3, ← ekp]
          split
          · rw [u_1, if_pos ⟨rfl, rfl, rfl, y3⟩]
          · rw [y3, hn _ y1]
        · rw [if_neg y3]
          split
          · rw [u_1, if_neg (fun h => y3 h.2.2.2), hn i hi]
          · exact hn i hi
  · -- FREE
    have x1 : xN a q o < 6 := c2 (Or.inl e)
    have x2 : opX a q o = nI (xN a q o) := cX (by simp only [e]; decide)
    refine ⟨sm_u M 4 q 7 (xN a q o) 0, ?_, hf _ _, fun i hi => ?_⟩
    · rw [P_ch0 wf r hq ho e (t := -1) (u := nI (xN a q o)) (is := (fC M q).2 o (xN a q o)) rfl (by rw [x2]; rfl) (Or.inr ⟨_, x1, rfl, rfl⟩), if_pos rfl, P_ch7_1 x1, P_ch10_n]
    · rw [u_1, e]
      rw [nm2]
      by_cases z : i = xN a q o
      · rw [if_pos ⟨rfl, rfl, rfl, z⟩, if_pos z]
      · rw [if_neg (fun y => z y.2.2.2), if_neg z, hn i hi]
  · -- READ
    have x1 : xN a q o < 6 := c2 (Or.inr (Or.inl e))
    have x2 : opX a q o = nI (xN a q o) := cX (by simp only [e]; decide)
    refine ⟨M, ?_, frS_r, fun i hi => ?_⟩
    · rw [P_ch0 wf r hq ho e (t := -1) (u := nI (xN a q o)) (is := (fC M q).2 o (xN a q o)) rfl (by rw [x2]; rfl) (Or.inr ⟨_, x1, rfl, rfl⟩), if_neg (by decide), if_neg (by decide), if_neg (by decide), P_ch7_0, P_ch10_n]
    · rw [e, hn i hi]; rfl
  · -- WRITE
    have x1 : xN a q o < 6 := c2 (Or.inr (Or.inr e))
    have x2 : opX a q o = nI (xN a q o) := cX (by simp only [e]; decide)
    refine ⟨M, ?_, frS_r, fun i hi => ?_⟩
    · rw [P_ch0 wf r hq ho e (t := -1) (u := nI (xN a q o)) (is := (fC M q).2 o (xN a q o)) rfl (by rw [x2]; rfl) (Or.inr ⟨_, x1, rfl, rfl⟩), if_neg (by decide), if_neg (by decide), if_neg (by decide), P_ch7_0, P_ch10_n]
    · rw [e, hn i hi]; rfl
  · -- SHARE
    have x1 : xN a q o < 6 := (c1 (Or.inr (Or.inl e))).1
    have y1 : yN a q o < 6 := (c1 (Or.inr (Or.inl e))).2
    have x2 : opX a q o = nI (xN a q o) := cX (by simp only [e]; decide)
    have y2 : opY a q o = nI (yN a q o) := cY (by simp only [e]; decide)
    refine ⟨sm_u M 4 q 7 (xN a q o) (shN (opY a q o) ((fC M q).2 o (yN a q o))), ?_, hf _ _, fun i hi => ?_⟩
    · rw [P_ch0 wf r hq ho e (t := nI (xN a q o)) (u := nI (yN a q o)) (is := (fC M q).2 o (yN a q o)) (by rw [x2]; rfl) (by rw [y2]; rfl) (Or.inr ⟨_, y1, rfl, rfl⟩), if_neg (by decide), if_neg (by decide), if_neg (by decide), P_ch7_0]
      refine P_ch10_t x1 ?_
      rw [E_Flow_gotten_0, if_neg (by decide), if_neg (by decide), if_neg (by decide), if_neg (by decide), if_neg (by decide), if_pos rfl, P_fShared, r1_s, y2]
      unfold shN
      obtain ⟨k, hk, ek⟩ := hv.1 _ y1
      have eo := ow_nsh k hk
      rw [← ek] at eo
      cases ho1 : owB ((fC M q).2 o (yN a q o)) with
      | true => rw [eo ho1, if_pos (show bI false = 0 from rfl), P_fOwner, r1_s, ho1, if_neg (show ¬ bI true = 0 by decide), if_pos rfl]
      | false =>
        rw [if_neg (show ¬ false = true by decide)]
        cases hs1 : shB ((fC M q).2 o (yN a q o)) with
        | true => rw [if_neg (show ¬ bI true = 0 by decide), if_pos rfl]
        | false => rw [if_pos (show bI false = 0 from rfl), P_fOwner, r1_s, ho1, if_pos (show bI false = 0 from rfl), if_neg (show ¬ false = true by decide)]
    · rw [u_1, e]
      rw [nm5]
      by_cases z : i = xN a q o
      · rw [if_pos ⟨rfl, rfl, rfl, z⟩, if_pos z]
      · rw [if_neg (fun y => z y.2.2.2), if_neg z, hn i hi]
  · -- LEND
    have x1 : xN a q o < 6 := (c1 (Or.inr (Or.inr e))).1
    have y1 : yN a q o < 6 := (c1 (Or.inr (Or.inr e))).2
    have x2 : opX a q o = nI (xN a q o) := cX (by simp only [e]; decide)
    have y2 : opY a q o = nI (yN a q o) := cY (by simp only [e]; decide)
    refine ⟨sm_u M 4 q 7 (xN a q o) (ldN (opY a q o) ((fC M q).2 o (yN a q o))), ?_, hf _ _, fun i hi => ?_⟩
    · rw [P_ch0 wf r hq ho e (t := nI (xN a q o)) (u := nI (yN a q o)) (is := (fC M q).2 o (yN a q o)) (by rw [x2]; rfl) (by rw [y2]; rfl) (Or.inr ⟨_, y1, rfl, rfl⟩), if_neg (by decide), if_neg (by decide), if_neg (by decide), P_ch7_0]
      refine P_ch10_t x1 ?_
      rw [E_Flow_gotten_0, if_neg (by decide), if_neg (by decide), if_neg (by decide), if_neg (by decide), if_neg (by decide), if_neg (by decide), if_pos rfl, P_fOwner, r1_s, y2]
      unfold ldN
      cases owB ((fC M q).2 o (yN a q o)) with
      | true => rw [if_neg (show ¬ bI true = 0 by decide), if_pos rfl]
      | false => rw [if_pos (show bI false = 0 from rfl), if_neg (show ¬ false = true by decide)]
    · rw [u_1, e]
      rw [nm6]
      by_cases z : i = xN a q o
      · rw [if_pos ⟨rfl, rfl, rfl, z⟩, if_pos z]
      · rw [if_neg (fun y => z y.2.2.2), if_neg z, hn i hi]
  · -- SEND
    have y1 : yN a q o < 6 := (c7 (Or.inl e)).2
    have y2 : opY a q o = nI (yN a q o) := cY (by simp only [e]; decide)
    refine ⟨if tkB ((fC M q).2 o (yN a q o)) = true then sm_u M 4 q 7 (yN a q o) 0 else M, ?_, ?_, fun i hi => ?_⟩
    · rw [P_ch0 wf r hq ho e (t := -1) (u := nI (yN a q o)) (is := (fC M q).2 o (yN a q o)) rfl (by rw [y2]; rfl) (Or.inr ⟨_, y1, rfl, rfl⟩), if_neg (by decide), if_neg (by decide), if_pos rfl, P_ch4 y1, P_ch10_n]
    · split
      · exact hf _ _
      · exact frS_r
    · rw [e]
      rw [nm7]
      obtain ⟨k, hk, ek⟩ := hv.1 _ y1
      have ekp := tkB_kp k hk
      rw [← ek] at ekp
      by_cases y3 : i = yN a q o
      · rw [if_pos y3, ← ekp]
        split
        · rw [u_1, if_pos ⟨rfl, rfl, rfl, y3⟩]
        · rw [y3, hn _ y1]
      · rw [if_neg y3]
        split
        · rw [u_1, if_neg (fun h => y3 h.2.2.2), hn i hi]
        · exact hn i hi
  · -- TAKE
    have y1 : yN a q o < 6 := (c7 (Or.inr e)).2
    have y2 : opY a q o = nI (yN a q o) := cY (by simp only [e]; decide)
    refine ⟨sm_u M 4 q 7 (yN a q o) (if tF a q o ((fC M q).2 o) = true then 1 + kF a q o ((fC M q).2 o) else if sF0 a q o ((fC M q).2 o) = -2 then 5 else 1), ?_, hf _ _, fun i hi => ?_⟩
    · rw [P_ch0 wf r hq ho e (t := nI (yN a q o)) (u := -1) (is := 0) (by rw [y2]; rfl) rfl (Or.inl ⟨rfl, rfl⟩), if_neg (by decide), if_neg (by decide), if_neg (by decide), P_ch7_0]
      refine P_ch10_t y1 ?_
      rw [E_Flow_gotten_0, if_neg (by decide), if_neg (by decide), if_neg (by decide), if_neg (by decide), if_neg (by decide), if_neg (by decide), if_neg (by decide), if_neg (by decide), if_pos rfl, P_fTake wf r hq ho hv e, r1_s]
    · rw [u_1, e]
      rw [nm8]
      by_cases z : i = yN a q o
      · rw [if_pos ⟨rfl, rfl, rfl, z⟩, if_pos z]
      · rw [if_neg (fun y => z y.2.2.2), if_neg z, hn i hi]
  all_goals exact absurd (by simp only [e]; decide) h9
