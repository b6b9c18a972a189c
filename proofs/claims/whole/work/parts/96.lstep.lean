/-! LEVEL B: layouts: what is next is good -/
theorem qN_ne {a : Nat → Nat → Int32} (wf : wfA a) {c p : Nat} (o : ofA a c p = true) : ¬ qN a c p = qN a c (oN a c p) ∧ qN a c p / 2 = c ∧ qN a c (oN a c p) / 2 = c := by
  obtain ⟨_, _, _, _, h5, _, _, l | ⟨l, r⟩⟩ := of_c wf o
  · unfold qN
    rw [if_pos l, if_neg (show ¬ lA a c = oN a c p from fun z => h5 (z.symm.trans l))]
    omega
  · unfold qN
    rw [if_neg l, if_pos (show lA a c = oN a c p by unfold oN; rw [if_neg l])]
    omega
theorem ch_mv {a : Nat → Nat → Int32} (wf : wfA a) {h : Nat → Nat} {p : Nat} {b : Bool} (hp : p < 3) (k : ok1 a p) (ho : h p % 32 < onA a p) (hc : (cS a p).1 (h p % 32) = true) (h13 : ¬ opW a p (h p % 32) = 13) (hn : ¬ ndK (opW a p (h p % 32)) = -1) (hb : b = true → otO a p (h p % 32)) :
    ofA a (xN a p (h p % 32)) p = true ∧ askA a (xN a p (h p % 32)) p (stN a h p (xN a p (h p % 32))) = ndK (opW a p (h p % 32)) ∧ stN a h p (xN a p (h p % 32)) < pnA a (prA a (xN a p (h p % 32))) ∧ (cS a p).1 (nxO a p (h p % 32) b) = true ∧
    ∃ t, t < 8 ∧ nxt a (xN a p (h p % 32)) (stN a h p (xN a p (h p % 32))) (wyF a p (h p % 32) (bN b)) = nI t ∧ ∀ h' : Nat → Nat, h' p = nxO a p (h p % 32) b → stN a h' p (xN a p (h p % 32)) = t ∧ ∀ c', ¬ c' = xN a p (h p % 32) → ofA a c' p = true → stN a h' p c' = stN a h p c' := by
  have h16 := on16 wf hp
  have ht := ne_t wf hp k ho hc h13 hn
  obtain ⟨t1, t2, t3, t4, t5, t6, t7⟩ := tF_t ht
  obtain ⟨m1, m2⟩ := mv wf hp k ho hc h13 hb
  have hle := nxO_le (a := a) (p := p) (o := h p % 32) (b := b)
  obtain ⟨t, _, t8, te⟩ := ne_c wf hp k hle m1 t3
  have e := m2 _ t3
  rw [trF_s, if_pos ⟨ht, rfl⟩, t5] at e
  refine ⟨t3, t6, t7, m1, t, t8, e.symm.trans te, fun h' hh => ⟨?_, fun c' hcc o' => ?_⟩⟩
  · unfold stN
    rw [hh, show nxO a p (h p % 32) b % 32 = nxO a p (h p % 32) b by omega, te, i_cl (by omega)]
  · have e' := m2 c' o'
    rw [trF_s, if_neg (fun z => hcc z.2)] at e'
    unfold stN
    rw [hh, show nxO a p (h p % 32) b % 32 = nxO a p (h p % 32) b by omega, e']
theorem ahead {a : Nat → Nat → Int32} (wf : wfA a) {h : Nat → Nat} {c p : Nat} (o : ofA a c p = true) (hs : stN a h p c < pnA a (prA a c)) (hk : askA a c p (stN a h p c) = 0 ∨ askA a c p (stN a h p c) = 2) (w : wfq (h (3 + qN a c p))) (x : Qs a c h) : QQ a c p (oN a c p) h := by
  rcases (Qs_s wf o).mp x with y | ⟨y1, y2⟩
  · exact y
  · have z : h (3 + qN a c p) = 0 := by
      by_cases z : h (3 + qN a c p) % 8 = 0
      · exact w.1 z
      · exfalso
        obtain ⟨u, ⟨_, ⟨m1, _⟩ | ⟨m1, _⟩⟩, _⟩ := pth_tl y2 w z
        · rw [ask_o wf o hs] at m1
          rcases hk with e | e <;> rw [e] at m1 <;> exact absurd m1 (by decide)
        · rw [ask_o wf o hs] at m1
          rcases hk with e | e <;> rw [e] at m1 <;> exact absurd m1 (by decide)
    unfold pth at y2
    rw [if_pos z] at y2
    refine ⟨z, ?_⟩
    unfold pth
    rw [if_pos y1, y2]
theorem nd_79 {W : Int32} (h : W = 7 ∨ W = 9) : ¬ W = 13 ∧ ¬ ndK W = -1 ∧ (ndK W = 0 ∨ ndK W = 2) := by
  rcases h with h | h <;> subst h <;> exact ⟨by decide, by decide, by decide⟩
theorem nd_80 {W : Int32} (h : W = 8 ∨ W = 10) : ¬ W = 13 ∧ ¬ ndK W = -1 ∧ (ndK W = 1 ∨ ndK W = 3) := by
  rcases h with h | h <;> subst h <;> exact ⟨by decide, by decide, by decide⟩
theorem up2_q {h : Nat → Nat} {k p x y q : Nat} (h1 : ¬ q = p) (h2 : ¬ q = k) : up (up h k x) p y q = h q := by rw [up_m h1, up_m h2]
/-- the message of an op that sends -/
theorem mgL_m {a : Nat → Nat → Int32} (wf : wfA a) {h : Nat → Nat} {p t : Nat} (hp : p < 3) (ho : h p % 32 < onA a p) (h7 : opW a p (h p % 32) = 7 ∨ opW a p (h p % 32) = 9) (o : ofA a (xN a p (h p % 32)) p = true) (ha : askA a (xN a p (h p % 32)) p (stN a h p (xN a p (h p % 32))) = ndK (opW a p (h p % 32))) (hs : stN a h p (xN a p (h p % 32)) < pnA a (prA a (xN a p (h p % 32)))) (ht : t < 8) (hx : nxt a (xN a p (h p % 32)) (stN a h p (xN a p (h p % 32))) (wyF a p (h p % 32) 0) = nI t) :
    msg a (xN a p (h p % 32)) p (stN a h p (xN a p (h p % 32))) (mgL a p (h p % 32)) t ∧ 0 < mgL a p (h p % 32) ∧ mgL a p (h p % 32) ≤ 5 := by
  obtain ⟨_, _, _, _, c9, _⟩ := okO_c (okA wf hp ho)
  unfold mgL msg
  rw [show ((cS a p).2 (h p % 32) (6 + xN a p (h p % 32))).toNatClampNeg = stN a h p (xN a p (h p % 32)) from rfl]
  unfold wyF at hx
  rcases h7 with e | e
  · rw [e, if_neg (by decide)] at hx
    rw [e] at ha
    have k3 := kd_3 wf o hs (Or.inl ha)
    rw [if_pos e]
    exact ⟨⟨ht, Or.inl ⟨ha, rfl, k3.1, hx⟩⟩, by omega, by omega⟩
  · rw [if_pos e] at hx
    rw [e] at ha
    have y2 : yN a p (h p % 32) < 2 := (c9 e).2
    rw [e, if_neg (by decide)]
    exact ⟨⟨ht, Or.inr ⟨ha, _, y2, rfl, hx⟩⟩, by omega, by omega⟩
theorem Gd_post {a : Nat → Nat → Int32} (wf : wfA a) {h : Nat → Nat} {p : Nat} (hp : p < 3) (k : ok1 a p) (g : Gd a h) (ho : h p % 32 < onA a p) (h7 : opW a p (h p % 32) = 7 ∨ opW a p (h p % 32) = 9) (hf : h (tQ a p (h p % 32)) / 8 = 0) :
    Gd a (up (up h (tQ a p (h p % 32)) (apQ (h (tQ a p (h p % 32))) (mgL a p (h p % 32)))) p (nxO a p (h p % 32) false)) := by
  have h16 := on16 wf hp
  obtain ⟨g1, g2, g3⟩ := g.1 p hp
  obtain ⟨n1, n2, n3⟩ := nd_79 h7
  obtain ⟨o, ha, hs, m1, t, t8, tx, ts⟩ := ch_mv wf (b := false) hp k ho g3 n1 n2 (fun z => absurd z (by decide))
  obtain ⟨c1, c3, _, op3, one, oo, oop, _⟩ := of_c wf o
  obtain ⟨q1, q2, q3⟩ := qN_ne wf o
  obtain ⟨s1, s2, s3⟩ := mgL_m wf hp ho h7 o ha hs t8 tx
  have hle := nxO_le (a := a) (p := p) (o := h p % 32) (b := false)
  have q6 := qN_6 (a := a) (p := oN a (xN a p (h p % 32)) p) c3
  have q6' := qN_6 (a := a) (p := p) c3
  have wT := g.2.1 _ q6
  unfold tQ at hf ⊢
  have wN' := apQ_w wT hf s2 s3
  obtain ⟨ts1, ts2⟩ := ts (up (up h (3 + qN a (xN a p (h p % 32)) (oN a (xN a p (h p % 32)) p)) (apQ (h (3 + qN a (xN a p (h p % 32)) (oN a (xN a p (h p % 32)) p))) (mgL a p (h p % 32)))) p (nxO a p (h p % 32) false)) up_h
  have ad := ahead wf o hs (by rw [ha]; exact n3) (g.2.1 _ q6') (g.2.2.1 _ c1)
  refine Gd_g (c0 := xN a p (h p % 32)) wf g (fun q hq z => up2_q z (by omega)) ?_ (fun j hj z => up2_q (by omega) (fun y => z (by rw [← q3]; omega))) (fun j hj => ?_) (fun c hc oc => ts2 c hc oc) (Or.inl ⟨c1, (Qs_s wf o).mpr (Or.inl ⟨?_, ?_⟩)⟩)
  · rw [up_h, show nxO a p (h p % 32) false % 32 = nxO a p (h p % 32) false by omega]
    exact ⟨by omega, hle, m1⟩
  · rw [up_m (show ¬ 3 + j = p by omega)]
    by_cases y : 3 + j = 3 + qN a (xN a p (h p % 32)) (oN a (xN a p (h p % 32)) p)
    · rw [y, up_h]; exact wN'
    · rw [up_m y]; exact g.2.1 j hj
  · rw [up2_q (by omega) (by omega)]
    exact ad.1
  · rw [up_m (show ¬ 3 + qN a (xN a p (h p % 32)) (oN a (xN a p (h p % 32)) p) = p by omega), up_h, ts1]
    have e : stN a (up (up h (3 + qN a (xN a p (h p % 32)) (oN a (xN a p (h p % 32)) p)) (apQ (h (3 + qN a (xN a p (h p % 32)) (oN a (xN a p (h p % 32)) p))) (mgL a p (h p % 32)))) p (nxO a p (h p % 32) false)) (oN a (xN a p (h p % 32)) p) (xN a p (h p % 32)) = stN a h (oN a (xN a p (h p % 32)) p) (xN a p (h p % 32)) := by
      unfold stN
      rw [up2_q one (by omega)]
    rw [e]
    exact pth_ap ad.2 wT hf s2 s3 s1
theorem Gd_take {a : Nat → Nat → Int32} (wf : wfA a) {h : Nat → Nat} {p : Nat} (hp : p < 3) (k : ok1 a p) (g : Gd a h) (ho : h p % 32 < onA a p) (h8 : opW a p (h p % 32) = 8 ∨ opW a p (h p % 32) = 10) (hf : ¬ h (fQ a p (h p % 32)) % 8 = 0) :
    Gd a (up (up h (fQ a p (h p % 32)) (h (fQ a p (h p % 32)) / 8)) p (nxO a p (h p % 32) (decide (opW a p (h p % 32) = 10 ∧ h (fQ a p (h p % 32)) % 8 = 5)))) := by
  have h16 := on16 wf hp
  obtain ⟨g1, g2, g3⟩ := g.1 p hp
  obtain ⟨n1, n2, n3⟩ := nd_80 h8
  obtain ⟨o, ha, hs, m1, t, t8, tx, ts⟩ := ch_mv wf (b := decide (opW a p (h p % 32) = 10 ∧ h (fQ a p (h p % 32)) % 8 = 5)) hp k ho g3 n1 n2 (fun z => Or.inl (of_decide_eq_true z).1)
  obtain ⟨c1, c3, _, op3, one, oo, oop, _⟩ := of_c wf o
  obtain ⟨q1, q2, q3⟩ := qN_ne wf o
  have hle := nxO_le (a := a) (p := p) (o := h p % 32) (b := decide (opW a p (h p % 32) = 10 ∧ h (fQ a p (h p % 32)) % 8 = 5))
  have q6 := qN_6 (a := a) (p := oN a (xN a p (h p % 32)) p) c3
  have q6' := qN_6 (a := a) (p := p) c3
  have wF := g.2.1 _ q6'
  unfold fQ at *
  have y := ((Qs_s wf o).mp (g.2.2.1 _ c1)).resolve_left (fun y => hf (by rw [y.1]))
  obtain ⟨u, u1, u2⟩ := pth_tl y.2 wF hf
  have eu : t = u := by
    obtain ⟨u8, u1⟩ := u1
    have ea := ask_o wf o hs
    rw [ha] at ea
    unfold wyF at tx
    rcases h8 with e | e
    · rw [e] at ea tx
      rw [if_neg (by decide), decide_eq_false (fun z => absurd z.1 (by decide))] at tx
      rcases u1 with ⟨_, _, _, x4⟩ | ⟨x1, _⟩
      · exact nI_8 t8 u8 (tx.symm.trans x4)
      · exact absurd (ea.symm.trans x1) (by decide)
    · rw [e] at ea tx
      rw [if_neg (by decide)] at tx
      rcases u1 with ⟨x1, _⟩ | ⟨_, w, w2, x3, x4⟩
      · exact absurd (ea.symm.trans x1) (by decide)
      · have ew : bN (decide ((10 : Int32) = 10 ∧ h (3 + qN a (xN a p (h p % 32)) p) % 8 = 5)) = w := by
          by_cases z : h (3 + qN a (xN a p (h p % 32)) p) % 8 = 5
          · rw [decide_eq_true ⟨rfl, z⟩]; show 1 = w; omega
          · rw [decide_eq_false (fun y => z y.2)]; show 0 = w; omega
        rw [ew] at tx
        exact nI_8 t8 u8 (tx.symm.trans x4)
  subst eu
  generalize hb : decide (opW a p (h p % 32) = 10 ∧ h (3 + qN a (xN a p (h p % 32)) p) % 8 = 5) = b at *
  obtain ⟨ts1, ts2⟩ := ts (up (up h (3 + qN a (xN a p (h p % 32)) p) (h (3 + qN a (xN a p (h p % 32)) p) / 8)) p (nxO a p (h p % 32) b)) up_h
  refine Gd_g (c0 := xN a p (h p % 32)) wf g (fun q hq z => up2_q z (by omega)) ?_ (fun j hj z => up2_q (by omega) (fun y => z (by rw [← q2]; omega))) (fun j hj => ?_) (fun c hc oc => ts2 c hc oc) (Or.inl ⟨c1, (Qs_s wf o).mpr (Or.inr ⟨?_, ?_⟩)⟩)
  · rw [up_h, show nxO a p (h p % 32) b % 32 = nxO a p (h p % 32) b by omega]
    exact ⟨by omega, hle, m1⟩
  · rw [up_m (show ¬ 3 + j = p by omega)]
    by_cases z : 3 + j = 3 + qN a (xN a p (h p % 32)) p
    · rw [z, up_h]; exact wfq_8 wF
    · rw [up_m z]; exact g.2.1 j hj
  · rw [up2_q (by omega) (by omega)]
    exact y.1
  · rw [up_m (show ¬ 3 + qN a (xN a p (h p % 32)) p = p by omega), up_h, ts1]
    have e : stN a (up (up h (3 + qN a (xN a p (h p % 32)) p) (h (3 + qN a (xN a p (h p % 32)) p) / 8)) p (nxO a p (h p % 32) b)) (oN a (xN a p (h p % 32)) p) (xN a p (h p % 32)) = stN a h (oN a (xN a p (h p % 32)) p) (xN a p (h p % 32)) := by
      unfold stN
      rw [up2_q one (by omega)]
    rw [e]
    exact u2
theorem nd_o {W : Int32} (h7 : ¬ (W = 7 ∨ W = 9)) (h8 : ¬ (W = 8 ∨ W = 10)) : ndK W = -1 := by
  unfold ndK
  rw [if_neg (fun z => h7 (Or.inl z)), if_neg (fun z => h8 (Or.inl z)), if_neg (fun z => h7 (Or.inr z)), if_neg (fun z => h8 (Or.inr z))]
theorem tF_no {a : Nat → Nat → Int32} {p o : Nat} {v : Nat → Int32} (h : ndK (opW a p o) = -1) : tF a p o v = false := by
  cases e : tF a p o v with
  | false => rfl
  | true => exact absurd h (tF_t e).1
theorem Gd_nx {a : Nat → Nat → Int32} (wf : wfA a) {h h' : Nat → Nat} {p w : Nat} (hp : p < 3) (k : ok1 a p) (g : Gd a h) (e : nxL a h p w = some h') : Gd a h' := by
  have h16 := on16 wf hp
  obtain ⟨g1, g2, g3⟩ := g.1 p hp
  unfold nxL at e
  by_cases z0 : h p / 32 = 0
  · rw [if_neg (fun z => z z0)] at e
    by_cases z1 : ¬ h p % 32 < onA a p ∨ opW a p (h p % 32) = 13
    · rw [if_pos z1] at e
      by_cases zw : w = 1
      · rw [if_pos zw] at e; cases e
      rw [if_neg zw] at e
      obtain rfl := (Option.some.inj e).symm
      have e1 : (h p + 32) % 32 = h p % 32 := by omega
      refine Gd_g (c0 := 3) (p := p) wf g (fun q hq z => up_m z) ?_ (fun j hj _ => up_m (by omega)) (fun j hj => ?_) (fun c _ _ => ?_) (Or.inr rfl)
      · rw [up_h, e1]
        exact ⟨by omega, g2, g3⟩
      · rw [up_m (by omega)]; exact g.2.1 j hj
      · unfold stN
        rw [up_h, e1]
    · rw [if_neg z1] at e
      have zo : h p % 32 < onA a p := by
        by_cases q : h p % 32 < onA a p
        · exact q
        · exact absurd (Or.inl q) z1
      have z13 : ¬ opW a p (h p % 32) = 13 := fun q => z1 (Or.inr q)
      by_cases z2 : w = 1 ∧ ¬ opW a p (h p % 32) = 11
      · rw [if_pos z2] at e; cases e
      rw [if_neg z2] at e
      by_cases z7 : opW a p (h p % 32) = 7 ∨ opW a p (h p % 32) = 9
      · rw [if_pos z7] at e
        by_cases zf : h (tQ a p (h p % 32)) / 8 = 0
        · rw [if_neg (fun z => z zf)] at e
          obtain rfl := (Option.some.inj e).symm
          exact Gd_post wf hp k g zo z7 zf
        · rw [if_pos zf] at e; cases e
      rw [if_neg z7] at e
      by_cases z8 : opW a p (h p % 32) = 8 ∨ opW a p (h p % 32) = 10
      · rw [if_pos z8] at e
        by_cases zf : h (fQ a p (h p % 32)) % 8 = 0
        · rw [if_pos zf] at e; cases e
        · rw [if_neg zf] at e
          obtain rfl := (Option.some.inj e).symm
          exact Gd_take wf hp k g zo z8 zf
      rw [if_neg z8] at e
      obtain rfl := (Option.some.inj e).symm
      have hn := nd_o z7 z8
      have hb : decide (w = 1) = true → otO a p (h p % 32) := fun z => Or.inr (by
        by_cases q : opW a p (h p % 32) = 11
        · exact q
        · exact absurd ⟨of_decide_eq_true z, q⟩ z2)
      obtain ⟨m1, m2⟩ := mv wf hp k zo g3 z13 hb
      have hle := nxO_le (a := a) (p := p) (o := h p % 32) (b := decide (w = 1))
      refine Gd_g (c0 := 3) (p := p) wf g (fun q hq z => up_m z) ?_ (fun j hj _ => up_m (by omega)) (fun j hj => ?_) (fun c _ oc => ?_) (Or.inr rfl)
      · rw [up_h, show nxO a p (h p % 32) (decide (w = 1)) % 32 = nxO a p (h p % 32) (decide (w = 1)) by omega]
        exact ⟨by omega, hle, m1⟩
      · rw [up_m (by omega)]; exact g.2.1 j hj
      · unfold stN
        have e' := m2 c oc
        rw [trF_s, tF_no hn, if_neg (fun z => absurd z.1 (by decide))] at e'
        rw [up_h, show nxO a p (h p % 32) (decide (w = 1)) % 32 = nxO a p (h p % 32) (decide (w = 1)) by omega, e']
  · rw [if_pos z0] at e; cases e
