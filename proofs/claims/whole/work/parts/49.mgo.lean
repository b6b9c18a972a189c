/-! LEVEL B: flows: the reference goes on from an op -/
/-- what is found, by the reference's cells -/
def fR (N : sm_M) (p : Nat) : sF := (fun k => !decide (N.1 10 0 15 (17 * p + k) = 0), fun k i => N.1 10 0 17 (9 * (17 * p + k) + i))
def nwR (N : sm_M) (i : Nat) : Int32 := N.1 10 0 18 i
/-- an op's numbers in the reference -/
theorem cr_op {a : Nat → Nat → Int32} {N : sm_M} (r : cr a N) (p o : Nat) : N.1 10 0 11 (16 * p + o) = opW a p o ∧ N.1 10 0 12 (16 * p + o) = opX a p o ∧ N.1 10 0 13 (16 * p + o) = opY a p o :=
  ⟨cr_c r 11 _ (by decide) (by decide), cr_c r 12 _ (by decide) (by decide), cr_c r 13 _ (by decide) (by decide)⟩
theorem P_do33 {sc : Nat × (Nat → Int32)} {a : Nat → Nat → Int32} {N : sm_M} {p o w : Nat} {v : Nat → Int32} (wf : wfA a) (r : cr a N) (hp : p < 3) (ho : o < onA a p) (hv : okV a p v) (hw : w < 2) :
    dn sc kModel_does 33 [.inr (.inr (10, 0, 0)), .inl (nI w), .inl (nI (16 * p + o)), .inl (opX a p o), .inl (opY a p o), .inl (sF0 a p o v), .inl (bI (tF a p o v))] [] N =
      some (0, .inl 0, if tF a p o v = true then sm_u N 10 0 18 (6 + xN a p o) (nxS (wA a (prA a (xN a p o))) (kA a (prA a (xN a p o))) (bA a (prA a (xN a p o))) (sF0 a p o v).toNatClampNeg (wyF a p o w)) else N) := by
  have h16 := (wf.2.1 p hp).2.1
  have ok := (wf.2.1 p hp).2.2 o ho
  obtain ⟨c0, c1, c2, c7, c9, c10, c11, ca, cX, cY, cn⟩ := okO_c ok
  rw [E_Model_does_33]
  cases ht : tF a p o v with
  | false => rw [if_pos (show bI false = 0 from rfl), if_neg (show ¬ false = true by decide)]
  | true =>
    obtain ⟨t1, t2, t3, t4, t5, t6, t7⟩ := tF_t ht
    obtain ⟨x1, x2⟩ := xN_nd ok t1
    obtain ⟨s, hs, es⟩ := (hv.2 _ x1).1 t3 |>.resolve_left (fun z => by rw [z] at t4; exact t4 (by decide))
    have es' : sF0 a p o v = nI s := t5.trans es
    have hs8 : s < pnA a (prA a (xN a p o)) := hs
    obtain ⟨_, _, _, w10, _⟩ := wf.2.2.2.2 _ t2
    have h8 := (wf.1 _ w10).2.1
    have hask : askA a (xN a p o) p s = ndK (opW a p o) := by
      have : (v (6 + xN a p o)).toNatClampNeg = s := by rw [es, i_cl (by omega)]
      rw [← this]; exact t6
    have h4 : ¬ wA a (prA a (xN a p o)) s = 4 := by
      intro z
      unfold askA at hask
      rw [if_pos hs8, z] at hask
      have : (if p = lA a (xN a p o) then (4 : Int32) else if p = rA a (xN a p o) then trn 4 else -1) = 4 ∨ (if p = lA a (xN a p o) then (4 : Int32) else if p = rA a (xN a p o) then trn 4 else -1) = -1 := by
        split
        · exact Or.inl rfl
        · split
          · exact Or.inl rfl
          · exact Or.inr rfl
      rw [hask] at this
      have n4 : ¬ ndK (opW a p o) = 4 := by
        unfold ndK
        split
        · decide
        · split
          · decide
          · split
            · decide
            · split <;> decide
      rcases this with y | y
      · exact n4 y
      · exact t1 y
    have hx3 : xN a p o < 2147483648 := by omega
    rw [if_neg (show ¬ bI true = 0 by decide), i_ib (show 16 * p + o < 48 by omega) (by decide), if_pos rfl, i_cl (by omega), (cr_op r p o).1, if_pos rfl, es', i_cl (by omega)]
    have x2' : opX a p o = nI (xN a p o) := x2
    by_cases q9 : opW a p o = 9
    · have y2 : opY a p o = nI (yN a p o) := cY (by simp only [q9]; decide)
      have ew : wyF a p o w = yN a p o := by unfold wyF; rw [if_pos q9]
      rw [if_pos q9, x2', y2, P_mStepThen wf r t2 hs8 h4 (show yN a p o < 2 from (c9 q9).2), r1_s, show (6 : Int32) = nI 6 from rfl, nI_add, i_ib (show 6 + xN a p o < 9 from by omega) (by decide), if_pos rfl, i_cl (show 6 + xN a p o < 2147483648 from by omega), ew]
    · have ew : wyF a p o w = w := by unfold wyF; rw [if_neg q9]
      rw [if_neg q9, x2', P_mStepThen wf r t2 hs8 h4 hw, r1_s, show (6 : Int32) = nI 6 from rfl, nI_add, i_ib (show 6 + xN a p o < 9 from by omega) (by decide), if_pos rfl, i_cl (show 6 + xN a p o < 2147483648 from by omega), ew]
theorem kp_if (u : Int32) : kpN u = if u = 1 then u else if shB u = true then u else 0 := by
  unfold kpN
  by_cases h : u = 1
  · rw [if_pos (Or.inl h), if_pos h]
  · rw [if_neg h]
    by_cases h2 : shB u = true
    · rw [if_pos (Or.inr h2), if_pos h2]
    · rw [if_neg (fun z => z.elim h h2), if_neg h2]
theorem nm_lo {v : Nat → Int32} {N : sm_M} (h : ∀ i, i < 6 → N.1 10 0 18 i = v i) {t : Nat} {g : Int32} (ht : t < 6) : (∀ i, i < 6 → (sm_u N 10 0 18 t g).1 10 0 18 i = if i = t then g else v i) ∧ ∀ c, (sm_u N 10 0 18 t g).1 10 0 18 (6 + c) = N.1 10 0 18 (6 + c) := by
  refine ⟨fun i hi => ?_, fun c => ?_⟩
  · rw [u_1]
    by_cases z : i = t
    · rw [if_pos ⟨rfl, rfl, rfl, z⟩, if_pos z]
    · rw [if_neg (fun y => z y.2.2.2), if_neg z, h i hi]
  · rw [u_1, if_neg (by omega)]
theorem P_do8 {sc : Nat × (Nat → Int32)} {a : Nat → Nat → Int32} {N : sm_M} {p o w : Nat} {v : Nat → Int32} (wf : wfA a) (r : cr a N) (hp : p < 3) (ho : o < onA a p) (hv : okV a p v) (hn : ∀ i, i < 6 → N.1 10 0 18 i = v i) :
    ∃ N2, dn sc kModel_does 8 [.inr (.inr (10, 0, 0)), .inl (nI w), .inl (nI (16 * p + o)), .inl (opX a p o), .inl (opY a p o), .inl (sF0 a p o v)] [.inl (bI (tF a p o v))] N =
      dn sc kModel_does 33 [.inr (.inr (10, 0, 0)), .inl (nI w), .inl (nI (16 * p + o)), .inl (opX a p o), .inl (opY a p o), .inl (sF0 a p o v), .inl (bI (tF a p o v))] [] N2 ∧ frS s10n N N2 ∧
      (∀ i, i < 6 → N2.1 10 0 18 i = nmF (opW a p o) (opY a p o) (xN a p o) (yN a p o) (kF a p o v) (tF a p o v) (sF0 a p o v) v i) ∧ ∀ c, N2.1 10 0 18 (6 + c) = N.1 10 0 18 (6 + c) := by
  have h16 := (wf.2.1 p hp).2.1
  have ok := (wf.2.1 p hp).2.2 o ho
  obtain ⟨c0, c1, c2, c7, c9, c10, c11, ca, cX, cY, cn⟩ := okO_c ok
  have hf : ∀ (N' : sm_M) t g, frS s10n N' (sm_u N' 10 0 18 t g) := fun N' t g => frS_u ⟨rfl, rfl, rfl⟩
  rw [E_Model_does_8, i_ib (show 16 * p + o < 48 by omega) (by decide), if_pos rfl, i_cl (show 16 * p + o < 2147483648 by omega), (cr_op r p o).1]
  rcases ca with e | e | e | e | e | e | e | e | e | e | e | e | e | e
  · -- MAKE
    have x1 : xN a p o < 6 := (c0 e).1
    have x2 : opX a p o = nI (xN a p o) := cX (by simp only [e]; decide)
    have l := nm_lo (v := v) hn (t := xN a p o) (g := 1 + opY a p o) x1
    refine ⟨sm_u N 10 0 18 (xN a p o) (1 + opY a p o), ?_, hf N _ _, fun i hi => ?_, l.2⟩
    · rw [if_pos e, x2, i_ib (show xN a p o < 9 by omega) (by decide), if_pos rfl, i_cl (by omega)]
    · rw [l.1 i hi, e]; rfl
  · -- MOVE
    have x1 : xN a p o < 6 := (c1 (Or.inl e)).1
    have y1 : yN a p o < 6 := (c1 (Or.inl e)).2
    have x2 : opX a p o = nI (xN a p o) := cX (by simp only [e]; decide)
    have y2 : opY a p o = nI (yN a p o) := cY (by simp only [e]; decide)
    rw [if_neg (by rw [e]; decide), if_pos e, x2, y2, E_Model_moves_0, i_ib (show yN a p o < 9 by omega) (by decide), i_ib (show xN a p o < 9 by omega) (by decide), i_cl (show yN a p o < 2147483648 by omega), i_cl (show xN a p o < 2147483648 by omega)]
    simp only [if_true]
    rw [hn _ y1, P_mSh, r1_s]
    by_cases z : xN a p o = yN a p o
    · refine ⟨N, ?_, frS_r, fun i hi => ?_, fun _ => rfl⟩
      · rw [if_pos (by rw [z]), r0_s]
      · rw [hn i hi, e]
        rw [nm1, if_pos z]
    · rw [if_neg (by rw [i_eq (by omega) (by omega)]; exact z)]
      have hres : (if v (yN a p o) = 1 then some (0, Sum.inl (0 : Int32), sm_u (sm_u N 10 0 18 (xN a p o) (v (yN a p o))) 10 0 18 (yN a p o) (v (yN a p o))) else if bI (shB (v (yN a p o))) = 0 then some (0, .inl 0, sm_u (sm_u N 10 0 18 (xN a p o) (v (yN a p o))) 10 0 18 (yN a p o) 0) else some (0, .inl 0, sm_u (sm_u N 10 0 18 (xN a p o) (v (yN a p o))) 10 0 18 (yN a p o) (v (yN a p o))) : Option sm_R) = some (0, .inl 0, sm_u (sm_u N 10 0 18 (xN a p o) (v (yN a p o))) 10 0 18 (yN a p o) (kpN (v (yN a p o)))) := by
        rw [kp_if]
        by_cases g : v (yN a p o) = 1
        · rw [if_pos g, if_pos g]
        · rw [if_neg g, if_neg g]
          cases shB (v (yN a p o)) with
          | true => rw [if_neg (show ¬ bI true = 0 by decide), if_pos rfl]
          | false => rw [if_pos (show bI false = 0 from rfl), if_neg (show ¬ false = true by decide)]
      refine ⟨_, by rw [hres, r0_s], frS_t (hf N _ _) (hf _ _ _), fun i hi => ?_, fun c => ?_⟩
      · rw [u_1, e]
        rw [nm1, if_neg z]
        by_cases g : i = yN a p o
        · rw [if_pos ⟨rfl, rfl, rfl, g⟩, if_neg (fun y => z (y.symm.trans g)), if_pos g]
        · rw [if_neg (fun y => g y.2.2.2), if_neg g, u_1]
          by_cases g2 : i = xN a p o
          · rw [if_pos ⟨rfl, rfl, rfl, g2⟩, if_pos g2]
          · rw [if_neg (fun y => g2 y.2.2.2), if_neg g2, hn i hi]
      · rw [u_1, if_neg (by omega), u_1, if_neg (by omega)]
  · -- FREE
    have x1 : xN a p o < 6 := c2 (Or.inl e)
    have x2 : opX a p o = nI (xN a p o) := cX (by simp only [e]; decide)
    have l := nm_lo (v := v) hn (t := xN a p o) (g := 0) x1
    refine ⟨sm_u N 10 0 18 (xN a p o) 0, ?_, hf N _ _, fun i hi => ?_, l.2⟩
    · rw [if_neg (by rw [e]; decide), if_neg (by rw [e]; decide), if_pos e, x2, i_ib (show xN a p o < 9 by omega) (by decide), if_pos rfl, i_cl (by omega)]
    · rw [l.1 i hi, e]; rfl
  · refine ⟨N, ?_, frS_r, fun i hi => by rw [hn i hi, e]; rfl, fun _ => rfl⟩
    rw [if_neg (by rw [e]; decide), if_neg (by rw [e]; decide), if_neg (by rw [e]; decide), if_pos e]
  · refine ⟨N, ?_, frS_r, fun i hi => by rw [hn i hi, e]; rfl, fun _ => rfl⟩
    rw [if_neg (by rw [e]; decide), if_neg (by rw [e]; decide), if_neg (by rw [e]; decide), if_neg (by rw [e]; decide), if_pos e]
  · -- SHARE
    have x1 : xN a p o < 6 := (c1 (Or.inr (Or.inl e))).1
    have y1 : yN a p o < 6 := (c1 (Or.inr (Or.inl e))).2
    have x2 : opX a p o = nI (xN a p o) := cX (by simp only [e]; decide)
    have y2 : opY a p o = nI (yN a p o) := cY (by simp only [e]; decide)
    have l := nm_lo (v := v) hn (t := xN a p o) (g := shN (opY a p o) (v (yN a p o))) x1
    refine ⟨sm_u N 10 0 18 (xN a p o) (shN (opY a p o) (v (yN a p o))), ?_, hf N _ _, fun i hi => ?_, l.2⟩
    · rw [if_neg (by rw [e]; decide), if_neg (by rw [e]; decide), if_neg (by rw [e]; decide), if_neg (by rw [e]; decide), if_neg (by rw [e]; decide), if_pos e, x2, y2, i_ib (show yN a p o < 9 by omega) (by decide), i_ib (show xN a p o < 9 by omega) (by decide), i_cl (show yN a p o < 2147483648 by omega), i_cl (show xN a p o < 2147483648 by omega)]
      simp only [if_true]
      rw [hn _ y1, P_mOwner, r1_s, hn _ y1, P_mSh, r1_s, hn _ y1]
      unfold shN
      cases owB (v (yN a p o)) with
      | true => rw [if_neg (show ¬ bI true = 0 by decide), if_pos rfl]
      | false =>
        rw [if_pos (show bI false = 0 from rfl), if_neg (show ¬ false = true by decide)]
        cases shB (v (yN a p o)) with
        | true => rw [if_neg (show ¬ bI true = 0 by decide), if_pos rfl]
        | false => rw [if_pos (show bI false = 0 from rfl), if_neg (show ¬ false = true by decide)]
    · rw [l.1 i hi, e]; rfl
  · -- LEND
    have x1 : xN a p o < 6 := (c1 (Or.inr (Or.inr e))).1
    have y1 : yN a p o < 6 := (c1 (Or.inr (Or.inr e))).2
    have x2 : opX a p o = nI (xN a p o) := cX (by simp only [e]; decide)
    have y2 : opY a p o = nI (yN a p o) := cY (by simp only [e]; decide)
    have l := nm_lo (v := v) hn (t := xN a p o) (g := ldN (opY a p o) (v (yN a p o))) x1
    refine ⟨sm_u N 10 0 18 (xN a p o) (ldN (opY a p o) (v (yN a p o))), ?_, hf N _ _, fun i hi => ?_, l.2⟩
    · rw [if_neg (by rw [e]; decide), if_neg (by rw [e]; decide), if_neg (by rw [e]; decide), if_neg (by rw [e]; decide), if_neg (by rw [e]; decide), if_neg (by rw [e]; decide), if_pos e, x2, y2, i_ib (show yN a p o < 9 by omega) (by decide), i_ib (show xN a p o < 9 by omega) (by decide), i_cl (show yN a p o < 2147483648 by omega), i_cl (show xN a p o < 2147483648 by omega)]
      simp only [if_true]
      rw [hn _ y1, P_mOwner, r1_s]
      unfold ldN
      cases owB (v (yN a p o)) with
      | true => rw [if_neg (show ¬ bI true = 0 by decide), if_pos rfl]
      | false => rw [if_pos (show bI false = 0 from rfl), if_neg (show ¬ false = true by decide)]
    · rw [l.1 i hi, e]; rfl
  · -- SEND
    have y1 : yN a p o < 6 := (c7 (Or.inl e)).2
    have y2 : opY a p o = nI (yN a p o) := cY (by simp only [e]; decide)
    have l := nm_lo (v := v) hn (t := yN a p o) (g := kpN (v (yN a p o))) y1
    refine ⟨sm_u N 10 0 18 (yN a p o) (kpN (v (yN a p o))), ?_, hf N _ _, fun i hi => ?_, l.2⟩
    · rw [if_neg (by rw [e]; decide), if_neg (by rw [e]; decide), if_neg (by rw [e]; decide), if_neg (by rw [e]; decide), if_neg (by rw [e]; decide), if_neg (by rw [e]; decide), if_neg (by rw [e]; decide), if_pos e, y2, i_ib (show yN a p o < 9 by omega) (by decide), i_cl (show yN a p o < 2147483648 by omega)]
      simp only [if_true]
      rw [hn _ y1, P_mSh, r1_s, E_Model_does_24, i_ib (show yN a p o < 9 by omega) (by decide), i_cl (show yN a p o < 2147483648 by omega)]
      simp only [if_true]
      rw [hn _ y1, kp_if]
      by_cases g : v (yN a p o) = 1
      · rw [if_pos g, if_pos g]
      · rw [if_neg g, if_neg g]
        cases shB (v (yN a p o)) with
        | true => rw [if_neg (show ¬ bI true = 0 by decide), if_pos rfl]
        | false => rw [if_pos (show bI false = 0 from rfl), if_neg (show ¬ false = true by decide)]
    · rw [l.1 i hi, e]; rfl
  · -- TAKE
    have y1 : yN a p o < 6 := (c7 (Or.inr e)).2
    have y2 : opY a p o = nI (yN a p o) := cY (by simp only [e]; decide)
    have l := nm_lo (v := v) hn (t := yN a p o) (g := if tF a p o v = true then 1 + kF a p o v else if sF0 a p o v = -2 then 5 else 1) y1
    refine ⟨sm_u N 10 0 18 (yN a p o) (if tF a p o v = true then 1 + kF a p o v else if sF0 a p o v = -2 then 5 else 1), ?_, hf N _ _, fun i hi => ?_, l.2⟩
    · rw [if_neg (by rw [e]; decide), if_neg (by rw [e]; decide), if_neg (by rw [e]; decide), if_neg (by rw [e]; decide), if_neg (by rw [e]; decide), if_neg (by rw [e]; decide), if_neg (by rw [e]; decide), if_neg (by rw [e]; decide), if_pos e, y2, i_ib (show yN a p o < 9 by omega) (by decide), if_pos rfl, if_pos rfl, i_cl (show yN a p o < 2147483648 by omega)]
      cases ht : tF a p o v with
      | false =>
        rw [if_pos (show bI false = 0 from rfl), if_neg (show ¬ false = true by decide)]
        by_cases g : sF0 a p o v = -2
        · rw [if_pos g, if_pos g]
        · rw [if_neg g, if_neg g]
      | true =>
        obtain ⟨t1, t2, t3, t4, t5, t6, t7⟩ := tF_t ht
        obtain ⟨x1, x2⟩ := xN_nd ok t1
        obtain ⟨s, hs, es⟩ := (hv.2 _ x1).1 t3 |>.resolve_left (fun z => by rw [z] at t4; exact t4 (by decide))
        have es' : sF0 a p o v = nI s := t5.trans es
        have hs8 : s < pnA a (prA a (xN a p o)) := hs
        obtain ⟨_, _, _, w10, _⟩ := wf.2.2.2.2 _ t2
        have h8 := (wf.1 _ w10).2.1
        unfold kF
        rw [if_neg (show ¬ bI true = 0 by decide), if_pos rfl, es', show opX a p o = nI (xN a p o) from x2, P_mStepKind wf r t2 hs8, r1_s, if_pos rfl, i_cl (by omega)]
    · rw [l.1 i hi, e]; rfl
  all_goals
    refine ⟨N, ?_, frS_r, fun i hi => by rw [hn i hi, e]; rfl, fun _ => rfl⟩
    rw [if_neg (by rw [e]; decide), if_neg (by rw [e]; decide), if_neg (by rw [e]; decide), if_neg (by rw [e]; decide), if_neg (by rw [e]; decide), if_neg (by rw [e]; decide), if_neg (by rw [e]; decide), if_neg (by rw [e]; decide), if_neg (by rw [e]; decide)]
/-- what does makes of what is now -/
theorem P_mDoes {sc : Nat × (Nat → Int32)} {a : Nat → Nat → Int32} {N : sm_M} {p o w : Nat} {v : Nat → Int32} (wf : wfA a) (r : cr a N) (hp : p < 3) (ho : o < onA a p) (hv : okV a p v) (hw : w < 2) (hn : ∀ i, i < 9 → N.1 10 0 18 i = v i) :
    ∃ N2, dn sc kModel_does 0 [.inr (.inr (10, 0, 0)), .inl (nI p), .inl (nI o), .inl (nI w)] [] N = some (0, .inl 0, N2) ∧ frS s10n N N2 ∧ ∀ i, i < 9 → N2.1 10 0 18 i = trF a p o w v i := by
  have h16 := (wf.2.1 p hp).2.1
  have ok := (wf.2.1 p hp).2.2 o ho
  obtain ⟨g1, g2, g3⟩ := cr_op r p o
  obtain ⟨N2, h1, h2, h3, h4⟩ := P_do8 (sc := sc) (w := w) wf r hp ho hv (fun i hi => hn i (by omega))
  have r2 := cr_f (frS_w h2 s10n_f) r
  have h33 := P_do33 (sc := sc) (w := w) wf r2 hp ho hv hw
  have key : dn sc kModel_does 0 [.inr (.inr (10, 0, 0)), .inl (nI p), .inl (nI o), .inl (nI w)] [] N = dn sc kModel_does 8 [.inr (.inr (10, 0, 0)), .inl (nI w), .inl (nI (16 * p + o)), .inl (opX a p o), .inl (opY a p o), .inl (sF0 a p o v)] [.inl (bI (tF a p o v))] N := by
    rw [E_Model_does_0, show (16 : Int32) = nI 16 from rfl, i_mul, nI_add, i_ib (show 16 * p + o < 48 by omega) (by decide), if_pos rfl, if_pos rfl, if_pos rfl, i_cl (by omega), g1, g2, g3, P_mNeeds, r1_s]
    by_cases q : ndK (opW a p o) = -1
    · have e0 : sF0 a p o v = -1 := by unfold sF0; rw [if_pos q]
      rw [if_pos q, E_Model_does_4, if_pos (by decide), tF_f q, e0]; rfl
    · obtain ⟨x1, x2⟩ := xN_nd ok q
      have e0 : sF0 a p o v = v (6 + xN a p o) := by unfold sF0; rw [if_neg q]
      have x2' : opX a p o = nI (xN a p o) := x2
      rw [if_neg q, x2', P_mIsOf wf r x1 hp, r1_s]
      have okc := hv.2 _ x1
      cases hof : ofA a (xN a p o) p with
      | false =>
        have e1 : sF0 a p o v = -1 := e0.trans (okc.2 hof)
        rw [if_pos (show bI false = 0 from rfl), E_Model_does_4, if_pos (by decide), e1]
        have : tF a p o v = false := by unfold tF; rw [e1]; exact atF_n (by decide)
        rw [this]; rfl
      | true =>
        rw [if_neg (show ¬ bI true = 0 by decide), show (6 : Int32) = nI 6 from rfl, nI_add, i_ib (show 6 + xN a p o < 9 from by omega) (by decide), if_pos rfl, i_cl (show 6 + xN a p o < 2147483648 from by omega), hn _ (show 6 + xN a p o < 9 from by omega), ← e0, E_Model_does_4]
        rcases okc.1 hof with e1 | ⟨s, hs, e1⟩
        · have e2 : sF0 a p o v = -2 := e0.trans e1
          have : tF a p o v = false := by unfold tF; rw [e2]; exact atF_n (by decide)
          rw [e2, if_pos (by decide), this]; rfl
        · have e2 : sF0 a p o v = nI s := e0.trans e1
          have hc : xN a p o < cnA a := by unfold ofA at hof; rw [Bool.and_eq_true, decide_eq_true_eq] at hof; exact hof.1
          obtain ⟨_, _, _, w10, _⟩ := wf.2.2.2.2 _ hc
          have h8 := (wf.1 _ w10).2.1
          have hs8 : s < pnA a (prA a (xN a p o)) := hs
          have ht : tF a p o v = decide (askA a (xN a p o) p s = ndK (opW a p o)) := by
            unfold tF atF aF
            rw [e2, decide_eq_true q, Bool.true_and, if_pos ⟨hc, nI_pos (by omega)⟩, i_cl (by omega)]
          rw [e2, if_neg (nI_pos (by omega)), P_mStepFor wf r hp hof hs8, r1_s, ht]
          by_cases z : askA a (xN a p o) p s = ndK (opW a p o)
          · rw [if_pos z, decide_eq_true z]; rfl
          · rw [if_neg z, decide_eq_false z]; rfl
  refine ⟨_, key.trans (h1.trans h33), ?_, ?_⟩
  · refine frS_t h2 ?_
    split
    · exact frS_u ⟨rfl, rfl, rfl⟩
    · exact frS_r
  · refine by9 (fun i hi => ?_) (fun i hi => ?_)
    · rw [trF_n hi, ← h3 i hi]
      split
      · rw [u_1, if_neg (by omega)]
      · rfl
    · rw [trF_s]
      by_cases z : tF a p o v = true
      · rw [if_pos z, u_1]
        by_cases z2 : i = xN a p o
        · rw [if_pos ⟨rfl, rfl, rfl, by omega⟩, if_pos ⟨z, z2⟩]
        · rw [if_neg (by omega), if_neg (fun y => z2 y.2), h4, hn _ (by omega)]
      · rw [if_neg z, if_neg (fun y => z y.1), h4, hn _ (by omega)]
