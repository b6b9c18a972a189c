/-! LEVEL B: layouts: next in the class, all ops -/
theorem P_lNext {sc : Nat × (Nat → Int32)} {a : Nat → Nat → Int32} {M : sm_M} (wf : wfA a) (x : CX a M) {h : Nat → Nat} {p w : Nat} (hp : p < 3) (hw : w < 2) (k : ok1 a p) (g : Gd a h) :
    dn sc kLayouts_next 0 [.inr (.inr (5, 0, 0)), .inr (.inl (lN (eN h))), .inl (nI p), .inl (nI w)] [] M = some (0, .inr (.inl (oL (nxL a h p w))), M) := by
  have h16 := on16 wf hp
  obtain ⟨g1, g2, g3⟩ := g.1 p hp
  have d := wfh_d (Gd_w g)
  have he := eN_lt d
  have t := x.1
  have rk := t.2.1 p hp
  rw [E_Layouts_next_0, i_ib hp (by decide), if_pos rfl, i_cl (show p < 2147483648 by omega), lSpot d hp, P_kWhat rk (by omega), r1_s, P_lEnd d hp, r1_s]
  unfold nxL
  by_cases z0 : h p / 32 = 0
  rotate_left
  · rw [decide_eq_false z0, if_neg (show ¬ bI (!false) = 0 by decide), if_pos z0]; rfl
  have e32 : h p % 32 = h p := by omega
  rw [decide_eq_true z0, if_pos (show bI (!true) = 0 by decide), if_neg (show ¬ ¬ h p / 32 = 0 from fun y => y z0), e32]
  have w1 : (nI w = 1) = (w = 1) := by rw [show (1 : Int32) = nI 1 from rfl, i_eq (by omega) (by decide)]
  have stop : whK (onA a p) (opW a p) (h p) = 13 → (if nI w = 1 then if whK (onA a p) (opW a p) (h p) = 11 then dn sc kLayouts_next 4 [.inr (.inr (5, 0, 0)), .inr (.inl (lN (eN h))), .inl (nI p), .inl (nI w), .inr (.inr (2, p, 0)), .inl (nI (h p)), .inl (whK (onA a p) (opW a p) (h p))] [] M else some (0, .inr (.inl (-1)), M) else dn sc kLayouts_next 4 [.inr (.inr (5, 0, 0)), .inr (.inl (lN (eN h))), .inl (nI p), .inl (nI w), .inr (.inr (2, p, 0)), .inl (nI (h p)), .inl (whK (onA a p) (opW a p) (h p))] [] M) = some (0, .inr (.inl (oL (if w = 1 then none else some (up h p (h p + 32))))), M) := by
    intro e
    rw [e]
    by_cases zw : w = 1
    · rw [if_pos (w1.mpr zw), if_neg (by decide), if_pos zw]; rfl
    · rw [if_neg (fun y => zw (w1.mp y)), if_neg zw, E_Layouts_next_4, if_neg (by decide), if_neg (by decide), if_neg (by decide), if_neg (by decide), if_neg (by decide), if_neg (by decide), if_pos rfl, l6, show (32 : Int64) = lN 32 from rfl, lN_sl (by omega), lN_mul]
      have ee : 32 * 2 ^ (6 * p) = 1 * 2 ^ (6 * p + 5) := by rw [Nat.pow_add]; omega
      have hd := eN_d d p (by omega)
      have z2 : eN h / 2 ^ (6 * p + 5) % 2 ^ 1 = 0 := by rw [Nat.pow_add, ← Nat.div_div_eq_div_mul]; omega
      rw [ee, lN_oa (w := 1) z2 (by decide)]
      have e3 : eN (up h p (h p + 32)) = eN h + 1 * 2 ^ (6 * p + 5) := eN_add (by omega) (by rw [Nat.add_mul, ee]; omega)
      rw [← e3]; rfl
  by_cases zo : h p < onA a p
  rotate_left
  · rw [if_pos (Or.inl zo)]
    exact stop (if_neg zo)
  have eW : whK (onA a p) (opW a p) (h p) = opW a p (h p) := if_pos zo
  by_cases z13 : opW a p (h p) = 13
  · rw [if_pos (Or.inr z13)]
    exact stop (eW.trans z13)
  rw [if_neg (show ¬ (¬ h p < onA a p ∨ opW a p (h p) = 13) from fun y => y.elim (fun y => y zo) z13), eW]
  clear stop
  by_cases z2 : w = 1 ∧ ¬ opW a p (h p) = 11
  · rw [if_pos (w1.mpr z2.1), if_neg z2.2, if_pos z2]; rfl
  rw [if_neg z2]
  have go4 : (if nI w = 1 then if opW a p (h p) = 11 then dn sc kLayouts_next 4 [.inr (.inr (5, 0, 0)), .inr (.inl (lN (eN h))), .inl (nI p), .inl (nI w), .inr (.inr (2, p, 0)), .inl (nI (h p)), .inl (opW a p (h p))] [] M else some (0, .inr (.inl (-1)), M) else dn sc kLayouts_next 4 [.inr (.inr (5, 0, 0)), .inr (.inl (lN (eN h))), .inl (nI p), .inl (nI w), .inr (.inr (2, p, 0)), .inl (nI (h p)), .inl (opW a p (h p))] [] M) = dn sc kLayouts_next 4 [.inr (.inr (5, 0, 0)), .inr (.inl (lN (eN h))), .inl (nI p), .inl (nI w), .inr (.inr (2, p, 0)), .inl (nI (h p)), .inl (opW a p (h p))] [] M := by
    by_cases zw : w = 1
    · rw [if_pos (w1.mpr zw), if_pos (by by_cases q : opW a p (h p) = 11; · exact q
                                         · exact absurd ⟨zw, q⟩ z2)]
    · rw [if_neg (fun y => zw (w1.mp y))]
  rw [go4, E_Layouts_next_4]
  clear go4
  have aft : ¬ opW a p (h p) = 12 → ∀ K : Int64 → sm_M → Option sm_R, sm_r1 (dn sc kCode_after 0 [.inr (.inr (2, p, 0)), .inl (nI (h p))] [] M) (fun x M1 => sm_r2 (dn sc kLayouts_moved 0 [.inr (.inl (lN (eN h))), .inl (nI p), .inl (nI (h p)), .inl x] [] M1) K) = K (lN (eN (up h p (nxO a p (h p) false)))) M := by
    intro h12 K
    have hn := nxO_le (a := a) (p := p) (o := h p) (b := false)
    rw [P_kAfter rk (by omega), r1_s, af_nx h12, P_lMoved hp rfl (by omega) (by omega), r2_s]
  have jmp : (opW a p (h p) = 10 ∨ opW a p (h p) = 11 ∨ opW a p (h p) = 12) → ∀ K : Int64 → sm_M → Option sm_R, sm_r1 (dn sc kCode_jumpOf 0 [.inr (.inr (2, p, 0)), .inl (nI (h p))] [] M) (fun x M1 => sm_r2 (dn sc kLayouts_moved 0 [.inr (.inl (lN (eN h))), .inl (nI p), .inl (nI (h p)), .inl x] [] M1) K) = K (lN (eN (up h p (nxO a p (h p) true)))) M := by
    intro h12 K
    have hn := nxO_le (a := a) (p := p) (o := h p) (b := true)
    rw [P_kJump rk (by omega), r1_s, jm_nx wf hp zo h12, P_lMoved hp rfl (by omega) (by omega), r2_s]
  have h32 : h p < 32 := by omega
  by_cases q7 : opW a p (h p) = 7
  · rw [if_pos q7, if_pos (Or.inl q7), P_lPosted wf x hp k g h32 zo (Or.inl q7), r2_s]
  rw [if_neg q7]
  by_cases q8 : opW a p (h p) = 8
  · rw [if_pos q8, if_neg (by rw [q8]; decide), if_pos (Or.inl q8), P_lTake wf x hp k g h32 zo (Or.inl q8), r2_s]
  rw [if_neg q8]
  by_cases q9 : opW a p (h p) = 9
  · rw [if_pos q9, if_pos (Or.inr q9), P_lPosted wf x hp k g h32 zo (Or.inr q9), r2_s]
  rw [if_neg q9]
  by_cases q10 : opW a p (h p) = 10
  · rw [if_pos q10, if_neg (by rw [q10]; decide), if_pos (Or.inr q10), P_lTake wf x hp k g h32 zo (Or.inr q10), r2_s]
  rw [if_neg q10, if_neg (show ¬ (opW a p (h p) = 7 ∨ opW a p (h p) = 9) from fun y => y.elim q7 q9), if_neg (show ¬ (opW a p (h p) = 8 ∨ opW a p (h p) = 10) from fun y => y.elim q8 q10)]
  by_cases q11 : opW a p (h p) = 11
  · rw [if_pos q11]
    by_cases zw : w = 1
    · rw [if_pos (w1.mpr zw), jmp (Or.inr (Or.inl q11)), decide_eq_true zw]; rfl
    · rw [if_neg (fun y => zw (w1.mp y)), aft (by rw [q11]; decide), decide_eq_false zw]; rfl
  have zw : ¬ w = 1 := fun y => z2 ⟨y, q11⟩
  rw [if_neg q11, decide_eq_false zw]
  by_cases q12 : opW a p (h p) = 12
  · rw [if_pos q12, jmp (Or.inr (Or.inr q12)), nxO_12 q12]; rfl
  rw [if_neg q12, if_neg z13, aft q12]; rfl
