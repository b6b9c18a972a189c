/-! LEVEL B: layouts: what is next of a layout, in the class -/
noncomputable def oL (x : Option (Nat → Nat)) : Int64 := match x with
  | none => -1
  | some h => lN (eN h)
/-- what the class rests on -/
def CX (a : Nat → Nat → Int32) (M : sm_M) : Prop := rTel a M ∧ ∀ p, p < 3 → M.1 4 p 0 0 = nI p ∧ knC a M p
theorem CX_s {a : Nat → Nat → Int32} {M : sm_M} (x : CX a M) {p o c : Nat} (hp : p < 3) (ho : o < 17) (hc : (cS a p).1 o = true) (hc3 : c < 3) : M.1 4 p 5 (o * 3 + c) = (cS a p).2 o (6 + c) := by
  have k := (x.2 p hp).2
  exact (knC_v k.1 ho (by rw [(cS_e k.1 o ho).1]; exact hc)).2 c hc3
theorem eN_add {h : Nat → Nat} {j v w : Nat} (hj : j < 9) (e : v * 2 ^ (6 * j) = w + h j * 2 ^ (6 * j)) : eN (up h j v) = eN h + w := by
  have := eN_up (h := h) (v := v) j hj
  omega
theorem P_lPost4 {sc : Nat × (Nat → Int32)} {a : Nat → Nat → Int32} {M : sm_M} (wf : wfA a) (t : rTel a M) {h : Nat → Nat} (d : dgs h) {p : Nat} (hp : p < 3) (h32 : h p < 32) (ho : h p < onA a p) (hW : ¬ opW a p (h p) = 12) {j s m v : Nat} (hj : 3 ≤ j) (hj9 : j < 9) (hs : s = 6 * j ∨ s = 6 * j + 3) (hm : m < 8) (hv : v * 2 ^ (6 * j) = m * 2 ^ s + h j * 2 ^ (6 * j)) :
    dn sc kLayouts_posted 4 [.inr (.inl (lN (eN h))), .inl (nI p), .inl (nI (h p)), .inr (.inr (2, p, 0)), .inl (nI s), .inr (.inl (lN m))] [] M = some (0, .inr (.inl (if eN h / 2 ^ s % 8 = 0 then lN (eN (up (up h j v) p (nxO a p (h p) false))) else -1)), M) := by
  have he := eN_lt d
  have h16 := on16 wf hp
  rw [E_Layouts_posted_4, P_lMsg (by omega) (by omega), r1_s]
  by_cases z : eN h / 2 ^ s % 8 = 0
  · have hn := nxO_le (a := a) (p := p) (o := h p) (b := false)
    rw [z, if_pos (show nI 0 = 0 from rfl), if_pos rfl, P_kAfter (t.2.1 p hp) (by omega), r1_s, af_nx hW, lN_sl (by omega), lN_mul, lN_oa (w := 3) z hm]
    rw [← eN_add hj9 hv, P_lMoved hp (up_m (by omega)) (by omega) (by omega), r2_s]
  · rw [if_neg (show ¬ nI (eN h / 2 ^ s % 8) = 0 from fun y => z ((i_eq (by omega) (by decide)).mp y)), if_neg z]
theorem P_lPost2 {sc : Nat × (Nat → Int32)} {a : Nat → Nat → Int32} {M : sm_M} (wf : wfA a) (t : rTel a M) {h : Nat → Nat} (d : dgs h) {p : Nat} (hp : p < 3) (h32 : h p < 32) (ho : h p < onA a p) (hW : ¬ opW a p (h p) = 12) {j m : Nat} (hj : 3 ≤ j) (hj9 : j < 9) (w : wfq (h j)) (hm : m < 8) :
    dn sc kLayouts_posted 2 [.inr (.inl (lN (eN h))), .inl (nI p), .inl (nI (h p)), .inr (.inr (2, p, 0)), .inl (nI (6 * j)), .inr (.inl (lN m))] [] M = some (0, .inr (.inl (oL (if ¬ h j / 8 = 0 then none else some (up (up h j (apQ (h j) m)) p (nxO a p (h p) false))))), M) := by
  have he := eN_lt d
  have m1 := msg_1 d hj9
  have m2 := msg_2 d hj9
  rw [E_Layouts_posted_2, P_lMsg (by omega) (by omega), r1_s, m1]
  by_cases z : h j % 8 = 0
  · have z0 := w.1 z
    rw [z, if_pos (show nI 0 = 0 from rfl), P_lPost4 wf t d hp h32 ho hW hj hj9 (Or.inl rfl) hm (v := apQ (h j) m) (by unfold apQ; rw [if_pos z, Nat.add_mul]; omega), m1, if_pos z, z0, if_neg (show ¬ ¬ 0 / 8 = 0 by decide)]
    rfl
  · rw [if_neg (show ¬ nI (h j % 8) = 0 from fun y => z ((i_eq (by omega) (by decide)).mp y)), show (3 : Int32) = nI 3 from rfl, nI_add, P_lPost4 wf t d hp h32 ho hW hj hj9 (Or.inr rfl) hm (v := apQ (h j) m) (by unfold apQ; rw [if_neg z, Nat.add_mul, Nat.pow_add]; rw [show 8 * m * 2 ^ (6 * j) = m * (2 ^ (6 * j) * 2 ^ 3) by rw [show (2 : Nat) ^ 3 = 8 from rfl, Nat.mul_comm 8 m, Nat.mul_assoc, Nat.mul_comm 8 (2 ^ (6 * j))]]; omega), m2]
    by_cases z8 : h j / 8 = 0
    · rw [if_pos z8, if_neg (fun y => y z8)]; rfl
    · rw [if_neg z8, if_pos z8]; rfl
theorem P_lPosted {sc : Nat × (Nat → Int32)} {a : Nat → Nat → Int32} {M : sm_M} (wf : wfA a) (x : CX a M) {h : Nat → Nat} {p : Nat} (hp : p < 3) (k : ok1 a p) (g : Gd a h) (h32 : h p < 32) (ho : h p < onA a p) (h7 : opW a p (h p) = 7 ∨ opW a p (h p) = 9) :
    dn sc kLayouts_posted 0 [.inr (.inr (5, 0, 0)), .inr (.inl (lN (eN h))), .inl (nI p), .inl (nI (h p))] [] M = some (0, .inr (.inl (oL (if ¬ h (tQ a p (h p)) / 8 = 0 then none else some (up (up h (tQ a p (h p)) (apQ (h (tQ a p (h p))) (mgL a p (h p)))) p (nxO a p (h p) false))))), M) := by
  have h16 := on16 wf hp
  have e32 : h p % 32 = h p := by omega
  obtain ⟨g1, g2, g3⟩ := g.1 p hp
  have d := wfh_d (Gd_w g)
  have t := x.1
  have rk := t.2.1 p hp
  obtain ⟨n1, n2, n3⟩ := nd_79 h7
  have cm := ch_mv (b := false) wf hp k (by rw [e32]; exact ho) g3 (by rw [e32]; exact n1) (by rw [e32]; exact n2) (fun z => absurd z (by decide))
  have ml := fun t' t8 tx => mgL_m (h := h) (t := t') wf hp (by rw [e32]; exact ho) (by rw [e32]; exact h7) cm.1 cm.2.1 cm.2.2.1 t8 tx
  rw [e32] at cm ml
  rw [e32] at g3
  obtain ⟨o, ha, hs, m1, t', t8, tx, ts⟩ := cm
  obtain ⟨s1, s2, s3⟩ := ml t' t8 tx
  obtain ⟨c1, c3, _, op3, one, oo, oop, _⟩ := of_c wf o
  obtain ⟨_, xe⟩ := xN_nd (okA wf hp ho) n2
  have q6 := qN_6 (a := a) (p := oN a (xN a p (h p)) p) c3
  have est : stN a h p (xN a p (h p)) = ((cS a p).2 (h p) (6 + xN a p (h p))).toNatClampNeg := by unfold stN; rw [e32]
  obtain ⟨_, _, _, _, c9, _, _, _, _, cY, _⟩ := okO_c (okA wf hp ho)
  have fin := P_lPost2 (sc := sc) wf t d hp h32 ho (fun z => by rcases h7 with e | e <;> rw [e] at z <;> exact absurd z (by decide)) (j := tQ a p (h p)) (m := mgL a p (h p)) (by unfold tQ; omega) (by unfold tQ; omega) (by unfold tQ; exact g.2.1 _ q6) (by omega)
  rw [E_Layouts_posted_0, i_ib hp (by decide), if_pos rfl, i_cl (show p < 2147483648 by omega), P_kChannel rk (by omega), r1_s, whK_i ho, abK_i ho, chK_y n2, xe, P_beyond t.2.2 c3 hp, r1_s, (of_y wf o).2, P_lShift wf t.2.2 oo, r1_s, P_kB rk (by omega), r1_s, abK_i ho, P_kWhat rk (by omega), r1_s, whK_i ho]
  rw [show 6 * (3 + qN a (xN a p (h p)) (oN a (xN a p (h p)) p)) = 6 * tQ a p (h p) from rfl]
  rcases h7 with e | e
  · obtain ⟨s, p1, p8, ps⟩ := ne_c wf hp k (Nat.le_of_lt ho) g3 o
    rw [if_pos e, if_pos rfl, P_fStep (by omega) c3, r1_s, CX_s x hp (by omega) g3 c3, ps, P_cKind t.2.2 c1 p1, r1_s]
    have es : stN a h p (xN a p (h p)) = s := by rw [est, ps, i_cl (by omega)]
    rw [es] at ha hs
    obtain ⟨k3, ke⟩ := kd_3 wf o hs (Or.inl (ha.trans (by rw [e]; rfl)))
    rw [ke, show (1 : Int32) = nI 1 from rfl, nI_add, nI_l (by omega), show 1 + kdN a (xN a p (h p)) s = mgL a p (h p) by unfold mgL; rw [if_pos e, ps, i_cl (show s < 2147483648 by omega)]]
    exact fin
  · have y2 : yN a p (h p) < 2 := (c9 e).2
    have ye : opY a p (h p) = nI (yN a p (h p)) := cY (by rw [e]; decide)
    rw [if_neg (by rw [e]; decide), ye, show (4 : Int32) = nI 4 from rfl, nI_add, nI_l (by omega), show 4 + yN a p (h p) = mgL a p (h p) by unfold mgL; rw [if_neg (by rw [e]; decide)]]
    exact fin
theorem P_lTake {sc : Nat × (Nat → Int32)} {a : Nat → Nat → Int32} {M : sm_M} (wf : wfA a) (x : CX a M) {h : Nat → Nat} {p : Nat} (hp : p < 3) (k : ok1 a p) (g : Gd a h) (h32 : h p < 32) (ho : h p < onA a p) (h8 : opW a p (h p) = 8 ∨ opW a p (h p) = 10) :
    dn sc kLayouts_received 0 [.inr (.inr (5, 0, 0)), .inr (.inl (lN (eN h))), .inl (nI p), .inl (nI (h p))] [] M = some (0, .inr (.inl (oL (if h (fQ a p (h p)) % 8 = 0 then none else some (up (up h (fQ a p (h p)) (h (fQ a p (h p)) / 8)) p (nxO a p (h p) (decide (opW a p (h p) = 10 ∧ h (fQ a p (h p)) % 8 = 5))))))), M) := by
  have h16 := on16 wf hp
  have e32 : h p % 32 = h p := by omega
  obtain ⟨g1, g2, g3⟩ := g.1 p hp
  have d := wfh_d (Gd_w g)
  have he := eN_lt d
  have t := x.1
  have rk := t.2.1 p hp
  obtain ⟨n1, n2, n3⟩ := nd_80 h8
  have cm := ch_mv (b := false) wf hp k (by rw [e32]; exact ho) g3 (by rw [e32]; exact n1) (by rw [e32]; exact n2) (fun z => absurd z (by decide))
  rw [e32] at cm
  obtain ⟨o, ha, hs, m1, t', t8, tx, ts⟩ := cm
  obtain ⟨c1, c3, _, op3, one, oo, oop, _⟩ := of_c wf o
  obtain ⟨_, xe⟩ := xN_nd (okA wf hp ho) n2
  have q6 := qN_6 (a := a) (p := p) c3
  have hj9 : fQ a p (h p) < 9 := by unfold fQ; omega
  have hj3 : 3 ≤ fQ a p (h p) := by unfold fQ; omega
  have wq : wfq (h (fQ a p (h p))) := by unfold fQ; exact g.2.1 _ q6
  have m1' := msg_1 d hj9
  have m2' := msg_2 d hj9
  rw [E_Layouts_received_0, i_ib hp (by decide), if_pos rfl, i_cl (show p < 2147483648 by omega), P_kChannel rk (by omega), r1_s, whK_i ho, abK_i ho, chK_y n2, xe, P_lShift wf t.2.2 o, r1_s]
  rw [show 6 * (3 + qN a (xN a p (h p)) p) = 6 * fQ a p (h p) from rfl]
  rw [P_lMsg (by omega) (by omega), r1_s, m1']
  by_cases z : h (fQ a p (h p)) % 8 = 0
  · rw [z, if_pos (show nI 0 = 0 from rfl), if_pos rfl]; rfl
  rw [if_neg (show ¬ nI (h (fQ a p (h p)) % 8) = 0 from fun y => z ((i_eq (by omega) (by decide)).mp y)), if_neg z, show (3 : Int32) = nI 3 from rfl, nI_add, P_lMsg (by omega) (by omega), r1_s, m2', P_kWhat rk (by omega), r1_s, whK_i ho]
  generalize fQ a p (h p) = j at *
  have l : (lN (eN h) - (((nI (h j % 8)).toInt64 ||| ((nI (h j / 8)).toInt64 <<< ((nI 3).toInt64 &&& 63))) <<< ((nI (6 * j)).toInt64 &&& 63))) + ((nI (h j / 8)).toInt64 <<< ((nI (6 * j)).toInt64 &&& 63)) = lN (eN (up h j (h j / 8))) := by
    have d9 := d j hj9
    have e := eN_up (h := h) (v := h j / 8) j hj9
    rw [nI_l (by omega), nI_l (by omega), lN_sl (s := 3) (by decide), lN_mul, lN_oa (w := 3) (s := 3) (by omega) (by omega), lN_sl (s := 6 * j) (by omega), lN_mul, lN_sl (s := 6 * j) (by omega), lN_mul, show h j % 8 + h j / 8 * 2 ^ 3 = h j by omega]
    have e2 : eN h = eN (up h j (h j / 8)) + h j * 2 ^ (6 * j) - h j / 8 * 2 ^ (6 * j) := by omega
    have hb : h j * 2 ^ (6 * j) ≤ eN h := by
      have := eN_d d j hj9
      have a1 := Nat.div_add_mod (eN h) (2 ^ (6 * j))
      have a2 : h j ≤ eN h / 2 ^ (6 * j) := Nat.le_trans (Nat.le_of_eq this.symm) (Nat.mod_le _ _)
      have a3 : h j * 2 ^ (6 * j) ≤ eN h / 2 ^ (6 * j) * 2 ^ (6 * j) := Nat.mul_le_mul_right _ a2
      have a4 : eN h / 2 ^ (6 * j) * 2 ^ (6 * j) ≤ eN h := Nat.div_mul_le_self _ _
      omega
    rw [lN_sub hb, lN_add]
    congr 1
    omega
  rw [l]
  have six : ∀ b : Bool, (b = true → opW a p (h p) = 10) → dn sc kLayouts_received 6 [.inl (nI p), .inl (nI (h p)), .inr (.inr (2, p, 0)), .inr (.inl (lN (eN (up h j (h j / 8)))))] [.inl (bI b)] M = some (0, .inr (.inl (oL (some (up (up h j (h j / 8)) p (nxO a p (h p) b))))), M) := by
    intro b hb
    have hn := nxO_le (a := a) (p := p) (o := h p) (b := b)
    have hne : ¬ p = j := by omega
    rw [E_Layouts_received_6]
    cases b with
    | false => rw [if_pos (show bI false = 0 from rfl), P_kAfter rk (by omega), r1_s, af_nx (fun z => by rcases h8 with e | e <;> rw [e] at z <;> exact absurd z (by decide)), P_lMoved hp (up_m hne) (by omega) (by omega), r2_s]; rfl
    | true => rw [if_neg (show ¬ bI true = 0 by decide), P_kJump rk (by omega), r1_s, jm_nx wf hp ho (Or.inl (hb rfl)), P_lMoved hp (up_m hne) (by omega) (by omega), r2_s]; rfl
  by_cases z10 : opW a p (h p) = 10
  · rw [if_pos z10]
    by_cases z5 : h j % 8 = 5
    · rw [if_pos (show nI (h j % 8) = 5 by rw [z5]; rfl), decide_eq_true ⟨z10, z5⟩]
      exact six true (fun _ => z10)
    · rw [if_neg (show ¬ nI (h j % 8) = 5 from fun y => z5 ((i_eq (by omega) (by decide)).mp y)), decide_eq_false (fun y => z5 y.2)]
      exact six false (fun y => absurd y (by decide))
  · rw [if_neg z10, decide_eq_false (fun y => z10 y.1)]
    exact six false (fun y => absurd y (by decide))
