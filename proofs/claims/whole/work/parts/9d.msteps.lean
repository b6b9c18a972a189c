/-! LEVEL B: layouts: the reference's steps -/
/-- the cells of the layout that lies there -/
def sSt (c p j _i : Nat) : Prop := c = 10 ∧ p = 0 ∧ (j = 22 ∨ j = 23 ∨ j = 24)
theorem cr_st {a : Nat → Nat → Int32} {M N : sm_M} (h : frS sSt M N) (r : cr a M) : cr a N := cr_fr h (fun j i z => by unfold sSt at z; omega) r
theorem st_10 {M N : sm_M} (h : frS sSt M N) : fr10 M N := ⟨fun c hc => ⟨frS_tag h (fun p j i z => hc z.1), by rw [h.1]⟩, fun p j i z => h.2 10 p j i (fun y => z (by unfold sSt at y; unfold s10l; omega))⟩
theorem rdN_e {N : sm_M} {h g : Nat → Nat} (e : ∀ j, j < 9 → g j = h j) (r : rdN N h) : rdN N g := ⟨fun p hp => by rw [e p (by omega)]; exact r.1 p hp, fun k hk => by rw [e (3 + k) (by omega)]; exact r.2 k hk⟩
/-- a process's place is set -/
theorem rdN_p {N : sm_M} {h : Nat → Nat} {p n : Nat} (r : rdN N h) (hp : p < 3) (h0 : h p / 32 = 0) (hn : n < 32) : rdN (sm_u N 10 0 22 p (nI n)) (up h p n) := by
  refine ⟨fun q hq => ?_, fun k hk => ?_⟩
  · obtain ⟨r1, r2⟩ := r.1 q hq
    by_cases z : q = p
    · subst z
      rw [u_hit, u_mis (by omega), up_h, r2, h0, show n % 32 = n by omega, show n / 32 = 0 by omega]
      exact ⟨rfl, rfl⟩
    · rw [u_mis (by omega), u_mis (by omega), up_m z]
      exact ⟨r1, r2⟩
  · rw [u_mis (by omega), up_m (by omega)]
    exact r.2 k hk
/-- a queue is set -/
theorem rdN_q {N : sm_M} {h : Nat → Nat} {k v : Nat} (r : rdN N h) : rdN (sm_u N 10 0 24 k (nI (abQ v))) (up h (3 + k) v) := by
  refine ⟨fun q hq => ?_, fun i hi => ?_⟩
  · rw [u_mis (by omega), u_mis (by omega), up_m (by omega)]
    exact r.1 q hq
  · by_cases z : i = k
    · subst z
      rw [u_hit, up_h]
    · rw [u_mis (by omega), up_m (by omega)]
      exact r.2 i hi
theorem P_mWt {sc : Nat × (Nat → Int32)} {N : sm_M} {q : Nat} (w : wfq q) : dn sc kModel_waits 0 [.inl (nI (abQ q))] [] N = some (0, .inl (nI (if q = 0 then 0 else if q / 8 = 0 then 1 else 2)), N) := by
  have h := abQ_32 w
  have z0 := abQ_0 w
  have z1 := abM_0 (m := q / 8)
  rw [E_Model_waits_0, show (0 : Int32) = nI 0 from rfl, show (8 : Int32) = nI 8 from rfl]
  by_cases q0 : q = 0
  · rw [if_pos (by rw [i_eq (by omega) (by decide)]; exact z0.mpr q0), if_pos q0]
  · rw [if_neg (by rw [i_eq (by omega) (by decide)]; exact fun y => q0 (z0.mp y)), if_neg q0]
    by_cases q8 : q / 8 = 0
    · have := z1.mpr q8
      rw [if_pos (by rw [i_lt (by omega) (by decide)]; omega), if_pos q8]; rfl
    · have : ¬ abM (q / 8) = 0 := fun y => q8 (z1.mp y)
      rw [if_neg (by rw [i_lt (by omega) (by decide)]; omega), if_neg q8]; rfl
theorem or_0 : ∀ b, b < 4 → nI 0 ||| (nI b <<< ((3 * nI 0) &&& 31)) = nI b := by decide
theorem or_1 : ∀ x, x < 8 → ∀ b, b < 4 → nI x ||| (nI b <<< ((3 * nI 1) &&& 31)) = nI (x + 8 * b) := by decide
theorem sr_3 : ∀ x, x < 32 → nI x >>> (3 &&& 31) = nI (x / 8) := by decide
theorem an_7 : ∀ x, x < 32 → (nI x &&& 7 = 3) = (x % 8 = 3) := by decide
/-- what the reference does last: the place -/
theorem P_mS25 {sc : Nat × (Nat → Int32)} {a : Nat → Nat → Int32} {N : sm_M} {h : Nat → Nat} {p : Nat} {w c b : Bool} (wf : wfA a) (r : cr a N) (rd : rdN N h) (hp : p < 3) (h32 : h p < 32) (ho : h p < onA a p) (hb : b = (c || w)) (hb2 : b = true → otO a p (h p)) :
    ∃ N', dn sc kModel_stepsOn 25 [.inr (.inr (10, 0, 0)), .inl (nI p), .inl (bI w), .inl (bI c)] [] N = some (0, .inl 1, N') ∧ rdN N' (up h p (nxO a p (h p) b)) ∧ frS sSt N N' := by
  have h16 := on16 wf hp
  have hn := nxO_le (a := a) (p := p) (o := h p) (b := b)
  have at' : N.1 10 0 22 p = nI (h p) := by rw [(rd.1 p hp).1, show h p % 32 = h p by omega]
  have nx : ∀ b', b' = b → dn sc kModel_next 0 [.inr (.inr (10, 0, 0)), .inl (nI p), .inl (nI (h p)), .inl (bI b')] [] N = some (0, .inl (nI (nxO a p (h p) b)), N) := fun b' e => by
    rw [e]; exact P_mNext wf r hp ho hb2
  refine ⟨sm_u N 10 0 22 p (nI (nxO a p (h p) b)), ?_, rdN_p rd hp (by omega) (by omega), frS_u (by unfold sSt; omega)⟩
  rw [E_Model_stepsOn_25, i_ib hp (by decide), i_cl (show p < 2147483648 by omega), at']
  simp only [if_true]
  cases c with
  | true =>
    rw [if_neg (show ¬ bI true = 0 by decide), show dn sc kModel_next 0 [.inr (.inr (10, 0, 0)), .inl (nI p), .inl (nI (h p)), .inl 1] [] N = _ from nx true (by rw [hb]; rfl), r1_s]
  | false =>
    rw [if_pos (show bI false = 0 from rfl)]
    cases w with
    | true => rw [if_neg (show ¬ bI true = 0 by decide), show dn sc kModel_next 0 [.inr (.inr (10, 0, 0)), .inl (nI p), .inl (nI (h p)), .inl 1] [] N = _ from nx true (by rw [hb]; rfl), r1_s]
    | false => rw [if_pos (show bI false = 0 from rfl), show dn sc kModel_next 0 [.inr (.inr (10, 0, 0)), .inl (nI p), .inl (nI (h p)), .inl 0] [] N = _ from nx false (by rw [hb]; rfl), r1_s]
/-- an op's channel, without errors -/
theorem ch_of {a : Nat → Nat → Int32} (wf : wfA a) {h : Nat → Nat} {p : Nat} (hp : p < 3) (k : ok1 a p) (g : Gd a h) (h32 : h p < 32) (ho : h p < onA a p) (h13 : ¬ opW a p (h p) = 13) (hn : ¬ ndK (opW a p (h p)) = -1) : ofA a (xN a p (h p)) p = true ∧ askA a (xN a p (h p)) p (stN a h p (xN a p (h p))) = ndK (opW a p (h p)) ∧ stN a h p (xN a p (h p)) < pnA a (prA a (xN a p (h p))) := by
  have e32 : h p % 32 = h p := by omega
  obtain ⟨g1, g2, g3⟩ := g.1 p hp
  have cm := ch_mv (b := false) wf hp k (by rw [e32]; exact ho) g3 (by rw [e32]; exact h13) (by rw [e32]; exact hn) (fun z => absurd z (by decide))
  rw [e32] at cm
  exact ⟨cm.1, cm.2.1, cm.2.2.1⟩
theorem ab_ap {q m : Nat} (w : wfq q) (h8 : q / 8 = 0) (hm : 0 < m) (hm5 : m ≤ 5) : abQ (apQ q m) = if q = 0 then abM m else abQ q + 8 * abM m := by
  unfold apQ abQ
  by_cases z : q = 0
  · subst z
    rw [if_pos rfl, if_pos rfl, show (0 + m) % 8 = m by omega, show (0 + m) / 8 = 0 by omega]; rfl
  · have z8 : ¬ q % 8 = 0 := fun y => z (w.1 y)
    rw [if_neg z8, if_neg z, show (q + 8 * m) % 8 = q % 8 by omega, show (q + 8 * m) / 8 = m by omega, h8]; rfl
theorem P_mSend {sc : Nat × (Nat → Int32)} {a : Nat → Nat → Int32} {N : sm_M} {h : Nat → Nat} {p : Nat} (wf : wfA a) (r : cr a N) (rd : rdN N h) (hp : p < 3) (k : ok1 a p) (g : Gd a h) (h32 : h p < 32) (ho : h p < onA a p) (h7 : opW a p (h p) = 7 ∨ opW a p (h p) = 9) :
    (¬ h (tQ a p (h p)) / 8 = 0 → dn sc kModel_stepsOn 10 [.inr (.inr (10, 0, 0)), .inl (nI p), .inl 0, .inl (nI (16 * p + h p)), .inl 0] [] N = some (0, .inl 0, N)) ∧
    (h (tQ a p (h p)) / 8 = 0 → ∃ N', dn sc kModel_stepsOn 10 [.inr (.inr (10, 0, 0)), .inl (nI p), .inl 0, .inl (nI (16 * p + h p)), .inl 0] [] N = some (0, .inl 1, N') ∧ rdN N' (up (up h (tQ a p (h p)) (apQ (h (tQ a p (h p))) (mgL a p (h p)))) p (nxO a p (h p) false)) ∧ frS sSt N N') := by
  have h16 := on16 wf hp
  obtain ⟨n1, n2, n3⟩ := nd_79 h7
  obtain ⟨o, ha, hs⟩ := ch_of wf hp k g h32 ho n1 n2
  obtain ⟨c1, c3, _, op3, one, oo, oop, _⟩ := of_c wf o
  obtain ⟨_, xe⟩ := xN_nd (okA wf hp ho) n2
  obtain ⟨g1, g2, g3⟩ := cr_op r p (h p)
  have q6 := qN_6 (a := a) (p := oN a (xN a p (h p)) p) c3
  have wq := g.2.1 _ q6
  have hk : 16 * p + h p < 48 := by omega
  obtain ⟨_, _, _, _, c9, _, _, _, _, cY, _⟩ := okO_c (okA wf hp ho)
  have e0 : dn sc kModel_stepsOn 10 [.inr (.inr (10, 0, 0)), .inl (nI p), .inl 0, .inl (nI (16 * p + h p)), .inl 0] [] N = if nI (if h (tQ a p (h p)) = 0 then 0 else if h (tQ a p (h p)) / 8 = 0 then 1 else 2) = 2 then some (0, .inl 0, N) else dn sc kModel_stepsOn 15 [.inr (.inr (10, 0, 0)), .inl (nI p), .inl 0, .inl 0, .inl (nI (qN a (xN a p (h p)) (oN a (xN a p (h p)) p)))] [.inl (nI (abM (mgL a p (h p)))), .inl (nI (abQ (h (tQ a p (h p))))), .inl (nI (qN a (xN a p (h p)) (oN a (xN a p (h p)) p))), .inr (.inr (10, 0, 24))] N := by
    rw [E_Model_stepsOn_10, i_ib hk (by decide), if_pos rfl, i_cl (show 16 * p + h p < 2147483648 by omega), g2, xe, P_mSide1 wf r o, r1_s, i_ib q6 (by decide), if_pos rfl, q_cl c3, rd.2 _ q6, P_mWt wq, r1_s]
    show (if nI (if h (tQ a p (h p)) = 0 then 0 else if h (tQ a p (h p)) / 8 = 0 then 1 else 2) = 2 then (some (0, Sum.inl (0 : Int32), N) : Option sm_R) else _) = _
    by_cases zz : nI (if h (tQ a p (h p)) = 0 then 0 else if h (tQ a p (h p)) / 8 = 0 then 1 else 2) = 2
    · rw [if_pos zz, if_pos zz]
    rw [if_neg zz, if_neg zz]
    rw [if_pos rfl, if_pos rfl, g1, rd.2 _ q6]
    rcases h7 with e | e
    · have k3 := (kd_3 wf o hs (Or.inl (ha.trans (by rw [e]; rfl)))).1
      rw [if_pos e]
      have em : mgL a p (h p) = 1 + kdN a (xN a p (h p)) (stN a h p (xN a p (h p))) := by
        unfold mgL
        rw [if_pos e]
        unfold stN
        rw [show h p % 32 = h p by omega]
      have : abM (mgL a p (h p)) = 1 := by
        rw [em]
        unfold abM
        rw [if_neg (by omega), if_pos (by omega)]
      rw [this]; rfl
    · have y2 : yN a p (h p) < 2 := (c9 e).2
      have ye : opY a p (h p) = nI (yN a p (h p)) := cY (by rw [e]; decide)
      have em : mgL a p (h p) = 4 + yN a p (h p) := by unfold mgL; rw [if_neg (by rw [e]; decide)]
      have : abM (mgL a p (h p)) = 2 + yN a p (h p) := by
        rw [em]
        unfold abM
        rw [if_neg (by omega), if_neg (by omega)]
        omega
      rw [if_neg (by rw [e]; decide), if_pos rfl, g3, ye, this, show (2 : Int32) = nI 2 from rfl, nI_add]; rfl
  have wT : wfq (h (tQ a p (h p))) := wq
  refine ⟨fun z => ?_, fun z => ?_⟩
  · rw [e0, if_neg (show ¬ h (tQ a p (h p)) = 0 from fun y => z (by rw [y])), if_neg z, if_pos (show nI 2 = 2 from rfl)]
  · have hm : 0 < mgL a p (h p) ∧ mgL a p (h p) ≤ 5 := by
      unfold mgL
      rcases h7 with e | e
      · have k3 := (kd_3 wf o hs (Or.inl (ha.trans (by rw [e]; rfl)))).1
        unfold stN at k3
        rw [show h p % 32 = h p by omega] at k3
        rw [if_pos e]
        omega
      · have y2 : yN a p (h p) < 2 := (c9 e).2
        rw [if_neg (by rw [e]; decide)]
        omega
    have m3 := abM_3 hm.2
    have qq := abQ_32 wT
    have qz := abQ_0 wT
    have e8 := abM_0 (m := h (tQ a p (h p)) / 8)
    have ap := ab_ap wT z hm.1 hm.2
    have e15 : ∃ N', dn sc kModel_stepsOn 15 [.inr (.inr (10, 0, 0)), .inl (nI p), .inl 0, .inl 0, .inl (nI (qN a (xN a p (h p)) (oN a (xN a p (h p)) p)))] [.inl (nI (abM (mgL a p (h p)))), .inl (nI (abQ (h (tQ a p (h p))))), .inl (nI (qN a (xN a p (h p)) (oN a (xN a p (h p)) p))), .inr (.inr (10, 0, 24))] N = some (0, .inl 1, N') ∧ rdN N' (up (up h (tQ a p (h p)) (apQ (h (tQ a p (h p))) (mgL a p (h p)))) p (nxO a p (h p) false)) ∧ frS sSt N N' := by
      have ev : nI (abQ (h (tQ a p (h p)))) ||| (nI (abM (mgL a p (h p))) <<< ((3 * nI (if h (tQ a p (h p)) = 0 then 0 else if h (tQ a p (h p)) / 8 = 0 then 1 else 2)) &&& 31)) = nI (abQ (apQ (h (tQ a p (h p))) (mgL a p (h p)))) := by
        rw [ap]
        by_cases z0 : h (tQ a p (h p)) = 0
        · rw [if_pos z0, if_pos z0, qz.mpr z0, or_0 _ (by omega)]
        · rw [if_neg z0, if_neg z0, if_pos z, or_1 _ (by omega) _ (by omega)]
      have rd2 := rdN_q (k := qN a (xN a p (h p)) (oN a (xN a p (h p)) p)) (v := apQ (h (tQ a p (h p))) (mgL a p (h p))) rd
      have f2 : frS sSt N (sm_u N 10 0 24 (qN a (xN a p (h p)) (oN a (xN a p (h p)) p)) (nI (abQ (apQ (h (tQ a p (h p))) (mgL a p (h p)))))) := frS_u (by unfold sSt; omega)
      have hpe : up h (3 + qN a (xN a p (h p)) (oN a (xN a p (h p)) p)) (apQ (h (tQ a p (h p))) (mgL a p (h p))) p = h p := up_m (by omega)
      obtain ⟨N', s1, s2, s3⟩ := P_mS25 (sc := sc) (w := false) (c := false) (b := false) wf (cr_st f2 r) rd2 hp (by rw [hpe]; exact h32) (by rw [hpe]; exact ho) rfl (fun y => absurd y (by decide))
      rw [hpe] at s2
      refine ⟨N', ?_, s2, frS_t f2 s3⟩
      rw [E_Model_stepsOn_15, i_ib q6 (by decide), if_pos rfl, q_cl c3, rd.2 _ q6, P_mWt wq, r1_s, if_pos rfl]
      rw [show h (3 + qN a (xN a p (h p)) (oN a (xN a p (h p)) p)) = h (tQ a p (h p)) from rfl, ev]
      exact s1
    obtain ⟨N', t1, t2, t3⟩ := e15
    refine ⟨N', ?_, t2, t3⟩
    rw [e0, if_neg, t1]
    by_cases z0 : h (tQ a p (h p)) = 0
    · rw [if_pos z0]; decide
    · rw [if_neg z0, if_pos z]; decide
theorem P_mTake {sc : Nat × (Nat → Int32)} {a : Nat → Nat → Int32} {N : sm_M} {h : Nat → Nat} {p : Nat} (wf : wfA a) (r : cr a N) (rd : rdN N h) (hp : p < 3) (k : ok1 a p) (g : Gd a h) (h32 : h p < 32) (ho : h p < onA a p) (h8 : opW a p (h p) = 8 ∨ opW a p (h p) = 10) :
    (h (fQ a p (h p)) % 8 = 0 → dn sc kModel_stepsOn 18 [.inr (.inr (10, 0, 0)), .inl (nI p), .inl 0, .inl (nI (16 * p + h p))] [] N = some (0, .inl 0, N)) ∧
    (¬ h (fQ a p (h p)) % 8 = 0 → ∃ N', dn sc kModel_stepsOn 18 [.inr (.inr (10, 0, 0)), .inl (nI p), .inl 0, .inl (nI (16 * p + h p))] [] N = some (0, .inl 1, N') ∧ rdN N' (up (up h (fQ a p (h p)) (h (fQ a p (h p)) / 8)) p (nxO a p (h p) (decide (opW a p (h p) = 10 ∧ h (fQ a p (h p)) % 8 = 5)))) ∧ frS sSt N N') := by
  have h16 := on16 wf hp
  obtain ⟨n1, n2, n3⟩ := nd_80 h8
  obtain ⟨o, ha, hs⟩ := ch_of wf hp k g h32 ho n1 n2
  obtain ⟨c1, c3, _, op3, one, oo, oop, _⟩ := of_c wf o
  obtain ⟨_, xe⟩ := xN_nd (okA wf hp ho) n2
  obtain ⟨g1, g2, g3⟩ := cr_op r p (h p)
  have q6 := qN_6 (a := a) (p := p) c3
  have wq := g.2.1 _ q6
  have hk : 16 * p + h p < 48 := by omega
  have wF : wfq (h (fQ a p (h p))) := wq
  have qq := abQ_32 wF
  have qz := abQ_0 wF
  have e0 : dn sc kModel_stepsOn 18 [.inr (.inr (10, 0, 0)), .inl (nI p), .inl 0, .inl (nI (16 * p + h p))] [] N = if nI (abQ (h (fQ a p (h p)))) = 0 then some (0, .inl 0, N) else (if opW a p (h p) = 10 then (if nI (abQ (h (fQ a p (h p)))) &&& 7 = 3 then dn sc kModel_stepsOn 24 [.inr (.inr (10, 0, 0)), .inl (nI p), .inl 0, .inl (nI (qN a (xN a p (h p)) p))] [.inl 1] N else dn sc kModel_stepsOn 24 [.inr (.inr (10, 0, 0)), .inl (nI p), .inl 0, .inl (nI (qN a (xN a p (h p)) p))] [.inl 0] N) else dn sc kModel_stepsOn 24 [.inr (.inr (10, 0, 0)), .inl (nI p), .inl 0, .inl (nI (qN a (xN a p (h p)) p))] [.inl 0] N) := by
    rw [E_Model_stepsOn_18, i_ib hk (by decide), if_pos rfl, i_cl (show 16 * p + h p < 2147483648 by omega), g2, xe, P_mSide0 wf r o, r1_s, i_ib q6 (by decide), if_pos rfl, q_cl c3, rd.2 _ q6, if_pos rfl, if_pos rfl, g1]
    rfl
  have e24 : ∀ b : Bool, (b = true → opW a p (h p) = 10) → ∃ N', dn sc kModel_stepsOn 24 [.inr (.inr (10, 0, 0)), .inl (nI p), .inl 0, .inl (nI (qN a (xN a p (h p)) p))] [.inl (bI b)] N = some (0, .inl 1, N') ∧ rdN N' (up (up h (fQ a p (h p)) (h (fQ a p (h p)) / 8)) p (nxO a p (h p) b)) ∧ frS sSt N N' := by
    intro b hb
    have ev : nI (abQ (h (fQ a p (h p)))) >>> (3 &&& 31) = nI (abQ (h (fQ a p (h p)) / 8)) := by
      rw [sr_3 _ (by omega), qq.2.2.2]
      have : abQ (h (fQ a p (h p)) / 8) = abM (h (fQ a p (h p)) / 8) := by
        have := wfq_64 wF
        unfold abQ
        rw [show h (fQ a p (h p)) / 8 % 8 = h (fQ a p (h p)) / 8 by omega, show h (fQ a p (h p)) / 8 / 8 = 0 by omega]; rfl
      rw [this]
    have rd2 := rdN_q (k := qN a (xN a p (h p)) p) (v := h (fQ a p (h p)) / 8) rd
    have f2 : frS sSt N (sm_u N 10 0 24 (qN a (xN a p (h p)) p) (nI (abQ (h (fQ a p (h p)) / 8)))) := frS_u (by unfold sSt; omega)
    have hpe : up h (3 + qN a (xN a p (h p)) p) (h (fQ a p (h p)) / 8) p = h p := up_m (by omega)
    obtain ⟨N', s1, s2, s3⟩ := P_mS25 (sc := sc) (w := false) (c := b) (b := b) wf (cr_st f2 r) rd2 hp (by rw [hpe]; exact h32) (by rw [hpe]; exact ho) (by cases b <;> rfl) (fun y => by rw [hpe]; exact Or.inl (hb y))
    rw [hpe] at s2
    refine ⟨N', ?_, s2, frS_t f2 s3⟩
    rw [E_Model_stepsOn_24, i_ib q6 (by decide), if_pos rfl, if_pos rfl, q_cl c3, rd.2 _ q6]
    rw [show h (3 + qN a (xN a p (h p)) p) = h (fQ a p (h p)) from rfl, ev]
    exact s1
  have z8 : h (fQ a p (h p)) % 8 = 0 ↔ h (fQ a p (h p)) = 0 := ⟨fun z => wF.1 z, fun z => by rw [z]⟩
  refine ⟨fun z => ?_, fun z => ?_⟩
  · rw [e0, if_pos (by rw [qz.mpr (z8.mp z)]; rfl)]
  · rw [e0, if_neg (show ¬ nI (abQ (h (fQ a p (h p)))) = 0 from fun y => z (z8.mpr (qz.mp ((i_eq (by omega) (by decide)).mp y))))]
    have e3 : (nI (abQ (h (fQ a p (h p)))) &&& 7 = 3) = (h (fQ a p (h p)) % 8 = 5) := by
      rw [an_7 _ (by omega), qq.2.2.1]
      have := wF.2.1
      refine propext ⟨fun y => ?_, fun y => by rw [y]; rfl⟩
      unfold abM at y
      split at y
      · omega
      · split at y <;> omega
    by_cases z10 : opW a p (h p) = 10
    · rw [if_pos z10]
      by_cases z5 : h (fQ a p (h p)) % 8 = 5
      · rw [if_pos (e3.symm ▸ z5), decide_eq_true ⟨z10, z5⟩]
        exact e24 true (fun _ => z10)
      · rw [if_neg (fun y => z5 (e3 ▸ y)), decide_eq_false (fun y => z5 y.2)]
        exact e24 false (fun y => absurd y (by decide))
    · rw [if_neg z10, decide_eq_false (fun y => z10 y.1)]
      exact e24 false (fun y => absurd y (by decide))
