/-! LEVEL B: the run: an op without a fault is done, and the spot moves -/
theorem nxO_on {a : Nat → Nat → Int32} {p o : Nat} {b : Bool} : nxO a p o b ≤ onA a p := by
  unfold nxO
  generalize (if opW a p o = 12 ∨ b = true then yN a p o else o + 1) = z
  split <;> omega
theorem nxO_12 {a : Nat → Nat → Int32} {p o : Nat} (h : opW a p o = 12) : nxO a p o true = nxO a p o false := by
  unfold nxO
  rw [if_pos (Or.inl h), if_pos (Or.inl h)]
theorem PS_spot {a : Nat → Nat → Int32} {M N : sm_M} {mk T b tc p o : Nat} (h : PS a M N mk T b tc) (ho : o ≤ onA a p) : PS a (sm_u M 0 p 0 9 (nI o)) (sm_u N 10 0 28 p (nI o)) mk T b tc := by
  obtain ⟨q, rm, rs⟩ := h
  have fn : frS jN N (sm_u N 10 0 28 p (nI o)) := frS_u (by unfold jN; omega)
  exact ⟨QA_j q (frS_u (by unfold jM; omega)) fn (RI_j (q 0 (by decide)).2.2.1 fn (fun k i x _ w => by rw [Wt_35 (by omega)] at w; exact w)), RM_fr rm (fun j i => u_mis (by omega)) (fun j i _ _ => u_mis (by omega)) (Nat.le_refl _), RS_spot rs ho⟩
/-- what stands behind a turn -/
def PE (a : Nat → Nat → Int32) (mk t tc : Nat) (M N M1 N1 : sm_M) : Prop := (∃ mk' tc', mk ≤ mk' ∧ mk' ≤ mk + 1 ∧ tc ≤ tc' ∧ tc' ≤ tc + 1 ∧ PS a M1 N1 mk' (t + 1) (t + 1) tc') ∧ frS sRC M M1 ∧ frS sRN N N1
theorem T_idle {sc : Nat × (Nat → Int32)} {a : Nat → Nat → Int32} {M N : sm_M} {p o mk t tc : Nat} {w : Int32} {b : Bool} (wf : wfA a) (r : cr a N) (ps : PS a M N mk (t + 1) t tc) (hp : p < 3) (ho : o < onA a p) (h : opW a p o = 11 ∨ opW a p o = 12) : TW sc a p o M N mk t tc (bI (decide (opW a p o = 12) || b)) (bI (!decide (opW a p o = 12) && b)) w := by
  have h16 := on16 wf hp
  have i48 : sm_ib (nI (16 * p + o)) 48 = true := i_ib (show 16 * p + o < 48 by omega) (by decide)
  have c48 : (nI (16 * p + o)).toNatClampNeg = 16 * p + o := i_cl (by omega)
  have e11 : N.1 10 0 11 (16 * p + o) = opW a p o := cr_c r 11 _ (by decide) (by decide)
  have nn : ∀ w : Int32, (w = 0 ∨ w = 1 ∨ w = 2 ∨ w = 3 ∨ w = 4 ∨ w = 5 ∨ w = 6 ∨ w = 7 ∨ w = 8 ∨ w = 9 ∨ w = 10) → ¬ opW a p o = w := by
    intro w hw z
    rcases h with h | h
    · rw [h] at z; subst z; revert hw; decide
    · rw [h] at z; subst z; revert hw; decide
  have nd : ndK (opW a p o) = -1 := by
    rcases h with h | h
    · rw [h]; decide
    · rw [h]; decide
  refine ⟨M, N, decide (opW a p o = 12) || b, !decide (opW a p o = 12) && b, ?_, ?_, PT_ok ps.1 ps.2.1 ps.2.2 (OKQ_r (ps.1 p hp)), fun z => ?_, fun z => ?_⟩
  · rw [E_Course_perform_5, if_neg (nn 0 (by decide)), if_neg (nn 1 (by decide)), if_neg (nn 2 (by decide)), if_neg (nn 3 (by decide)), if_neg (nn 4 (by decide)), if_neg (nn 5 (by decide)), if_neg (nn 6 (by decide)), if_neg (nn 7 (by decide)), if_neg (nn 8 (by decide)), if_neg (nn 9 (by decide)), if_neg (nn 10 (by decide))]
  · rw [E_Model_carriesOut_7, i48, if_pos rfl, c48, e11, if_neg (nn 0 (by decide)), if_neg (nn 1 (by decide)), if_neg (nn 2 (by decide)), if_neg (nn 3 (by decide)), if_neg (nn 4 (by decide)), if_neg (nn 5 (by decide)), if_neg (nn 6 (by decide)), if_neg (nn 7 (by decide)), if_neg (nn 8 (by decide)), if_neg (nn 9 (by decide)), if_neg (nn 10 (by decide))]
    exact T_23n wf r hp ho nd
  · rw [decide_eq_true z]; exact ⟨rfl, rfl⟩
  · rw [decide_eq_false z]
    refine ⟨by cases b <;> rfl, fun _ => Or.inr (h.resolve_right z)⟩
theorem T_perf {sc : Nat × (Nat → Int32)} {a : Nat → Nat → Int32} {M N : sm_M} {p o mk t tc : Nat} {coin : Bool} (wf : wfA a) (tl : rTel a M) (r : cr a N) (ps : PS a M N mk (t + 1) t tc) (hmk : mk + 1 < 2000000) (ht : t < 2000000) (htc : tc < 2000000) (hp : p < 3) (ho : o < onA a p) (h9 : N.1 10 0 28 p = nI o) (hft : ftT a M p o = 0) (hw : wtB a M p o = false) (h13 : ¬ opW a p o = 13) :
    ∃ M1 N1, dn sc kCourse_perform 0 [.inr (.inr (3, 0, 0)), .inl (nI p), .inl (nI o), .inl (opW a p o), .inl (bI coin)] [] M = some (0, .inl 0, M1) ∧ dn sc kModel_carriesOut 0 [.inr (.inr (10, 0, 0)), .inl (nI p), .inl (nI (16 * p + o)), .inl (bI coin)] [] N = some (0, .inl 0, N1) ∧ PE a mk t tc M N M1 N1 := by
  have h16 := on16 wf hp
  have i48 : sm_ib (nI (16 * p + o)) 48 = true := i_ib (show 16 * p + o < 48 by omega) (by decide)
  have c48 : (nI (16 * p + o)).toNatClampNeg = 16 * p + o := i_cl (by omega)
  have e11 : N.1 10 0 11 (16 * p + o) = opW a p o := cr_c r 11 _ (by decide) (by decide)
  have e12 : N.1 10 0 12 (16 * p + o) = opX a p o := cr_c r 12 _ (by decide) (by decide)
  have e13 : N.1 10 0 13 (16 * p + o) = opY a p o := cr_c r 13 _ (by decide) (by decide)
  have ca := (okO_c (okA wf hp ho)).2.2.2.2.2.2.2.1
  have rk := tl.2.1 p hp
  -- the flags with which an op begins
  have hT : TW sc a p o M N mk t tc (bI (decide (opW a p o = 12) || (decide (opW a p o = 11) && coin))) (bI (decide (opW a p o = 11) && coin)) (if opW a p o = 9 then opY a p o else 0) := by
    by_cases w11 : opW a p o = 11
    · have e := T_idle (sc := sc) (w := 0) (b := coin) wf r ps hp ho (Or.inl w11)
      have n12 : ¬ opW a p o = 12 := by rw [w11]; decide
      rw [decide_eq_false n12] at e ⊢
      rw [decide_eq_true w11, if_neg (by rw [w11]; decide)]
      exact e
    · rw [decide_eq_false w11, Bool.false_and, Bool.or_false]
      by_cases w12 : opW a p o = 12
      · have e := T_idle (sc := sc) (w := 0) (b := false) wf r ps hp ho (Or.inr w12)
        rw [decide_eq_true w12] at e ⊢
        rw [if_neg (by rw [w12]; decide)]
        exact e
      · rw [decide_eq_false w12]
        by_cases w9 : opW a p o = 9
        · rw [if_pos w9]
          have hs := (ft_0 ft_m hft).2.2.2.2.1 (by rw [w9]; decide)
          exact T_pick wf tl r ps (by omega) hp ho hs hw w9
        · rw [if_neg w9]
          by_cases w7 : opW a p o = 7
          · exact T_send wf tl r ps hmk hp ho hft hw w7
          · by_cases w8 : opW a p o = 8
            · exact T_take wf tl r ps (by omega) ht htc hp ho hft w8
            · by_cases w10 : opW a p o = 10
              · exact T_wait wf tl r ps (by omega) hp ho hft w10
              · have w06 : opW a p o = 0 ∨ opW a p o = 1 ∨ opW a p o = 2 ∨ opW a p o = 3 ∨ opW a p o = 4 ∨ opW a p o = 5 ∨ opW a p o = 6 := by
                  rcases ca with z | z | z | z | z | z | z | z | z | z | z | z | z | z
                  · exact Or.inl z
                  · exact Or.inr (Or.inl z)
                  · exact Or.inr (Or.inr (Or.inl z))
                  · exact Or.inr (Or.inr (Or.inr (Or.inl z)))
                  · exact Or.inr (Or.inr (Or.inr (Or.inr (Or.inl z))))
                  · exact Or.inr (Or.inr (Or.inr (Or.inr (Or.inr (Or.inl z)))))
                  · exact Or.inr (Or.inr (Or.inr (Or.inr (Or.inr (Or.inr z)))))
                  · exact absurd z w7
                  · exact absurd z w8
                  · exact absurd z w9
                  · exact absurd z w10
                  · exact absurd z w11
                  · exact absurd z w12
                  · exact absurd z h13
                obtain ⟨M1, N1, g1, g2, g3⟩ := T_vars (sc := sc) wf r ps.2.2 ps.2.1 ps.1 (by omega) ht htc hp ho hft w06
                have nd : ndK (opW a p o) = -1 := by
                  rcases w06 with z | z | z | z | z | z | z <;> rw [z] <;> decide
                exact ⟨M1, N1, false, false, g1 0, (g2 0 0).trans (T_23n wf (cr_run g3.2.2.1 r) hp ho nd), g3, fun z => absurd z w12, fun _ => ⟨rfl, fun z => absurd z (by decide)⟩⟩
  obtain ⟨M1, N1, jc, jr, g1, g2, ⟨⟨mk', tc', k1, k2, k3, k4, k5⟩, f1, f2, f3, f4⟩, g4, g5⟩ := hT
  have hj : nxO a p o jc = nxO a p o jr := by
    by_cases z : opW a p o = 12
    · rw [(g4 z).1, (g4 z).2, nxO_12 z]
    · rw [(g5 z).1]
  refine ⟨sm_u M1 0 p 0 9 (nI (nxO a p o jc)), sm_u N1 10 0 28 p (nI (nxO a p o jr)), ?_, ?_, ⟨mk', tc', k1, k2, k3, k4, ?_⟩, frS_t f1 sRC_u, frS_t f2 (sRN_u (by decide))⟩
  · have e20 : dn sc kCourse_perform 20 [.inr (.inr (3, 0, 0)), .inl (nI p), .inl (nI o), .inr (.inr (0, p, 0)), .inl (bI jc)] [] M1 = some (0, .inl 0, sm_u M1 0 p 0 9 (nI (nxO a p o jc))) := by
      have rk1 := (rTel_run f1 tl).2.1 p hp
      rw [E_Course_perform_20]
      cases jc with
      | false =>
        have n12 : ¬ opW a p o = 12 := fun z => absurd (g4 z).1 (by decide)
        rw [if_pos (show bI false = 0 from rfl), i_ib hp (by decide), if_pos rfl, i_cl (show p < 2147483648 by omega), P_kAfter rk1 (by omega), r1_s, af_nx n12, E_Body_goTo_0, r0_s]
      | true =>
        have w3 : opW a p o = 10 ∨ opW a p o = 11 ∨ opW a p o = 12 := by
          by_cases z : opW a p o = 12
          · exact Or.inr (Or.inr z)
          · exact ((g5 z).2 (g5 z).1.symm).imp id Or.inl
        rw [if_neg (show ¬ bI true = 0 by decide), i_ib hp (by decide), if_pos rfl, i_cl (show p < 2147483648 by omega), P_kJump rk1 (by omega), r1_s, jm_nx wf hp ho w3, E_Body_goTo_0, r0_s]
    rw [← e20, ← g1, E_Course_perform_0, i_ib hp (by decide), if_pos rfl, if_pos rfl, i_cl (show p < 2147483648 by omega), P_kA rk (by omega), r1_s, if_pos rfl, P_kB rk (by omega), r1_s, abK_i ho, abK_i ho]
    by_cases w12 : opW a p o = 12
    · rw [if_pos w12, decide_eq_true w12]; rfl
    · rw [if_neg w12, decide_eq_false w12]
      by_cases w11 : opW a p o = 11
      · rw [if_pos w11, decide_eq_true w11]
        cases coin with
        | false => rw [if_pos (show bI false = 0 from rfl)]; rfl
        | true => rw [if_neg (show ¬ bI true = 0 by decide)]; rfl
      · rw [if_neg w11, decide_eq_false w11]; rfl
  · have e25 : dn sc kModel_carriesOut 25 [.inr (.inr (10, 0, 0)), .inl (nI p), .inl (bI jr)] [] N1 = some (0, .inl 0, sm_u N1 10 0 28 p (nI (nxO a p o jr))) := by
      have hb : jr = true → otO a p o := fun z => by
        by_cases y : opW a p o = 12
        · rw [(g4 y).2] at z; cases z
        · exact (g5 y).2 z
      rw [E_Model_carriesOut_25, i_ib hp (by decide), if_pos rfl, i_cl (show p < 2147483648 by omega), f4, h9, P_mNext wf (cr_run f2 r) hp ho hb, r1_s, if_pos rfl]
    rw [← e25, ← g2]
    have e4 : dn sc kModel_carriesOut 4 [.inr (.inr (10, 0, 0)), .inl (nI p), .inl (nI (16 * p + o)), .inl (6 * nI p + opX a p o), .inl (6 * nI p + opY a p o), .inl (opX a p o)] [.inl (bI (decide (opW a p o = 11) && coin))] N = dn sc kModel_carriesOut 7 [.inr (.inr (10, 0, 0)), .inl (nI p), .inl (nI (16 * p + o)), .inl (6 * nI p + opX a p o), .inl (6 * nI p + opY a p o), .inl (opX a p o), .inl (bI (decide (opW a p o = 11) && coin))] [.inl (if opW a p o = 9 then opY a p o else 0)] N := by
      rw [E_Model_carriesOut_4, i48, if_pos rfl, c48, e11]
      by_cases w9 : opW a p o = 9
      · rw [if_pos w9, if_pos rfl, e13, if_pos w9]
      · rw [if_neg w9, if_neg w9]
    rw [← e4, E_Model_carriesOut_0, i48]
    simp only [if_true]
    rw [c48, e11, e12, e13]
    by_cases w11 : opW a p o = 11
    · rw [if_pos w11, decide_eq_true w11]
      cases coin with
      | false => rw [if_pos (show bI false = 0 from rfl)]; rfl
      | true => rw [if_neg (show ¬ bI true = 0 by decide)]; rfl
    · rw [if_neg w11, decide_eq_false w11]; rfl
  · rw [hj]
    exact PS_spot k5 nxO_on
