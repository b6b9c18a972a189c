/-! LEVEL B: the run: go on both sides -/
theorem r3_s {c p i : Nat} {M : sm_M} {K : Nat → sm_M → Option sm_R} : sm_r3 c (some (0, .inr (.inr (c, p, i)), M)) K = sm_r3 c (some (0, .inr (.inr (c, p, i)), M)) K := rfl
theorem P_body {sc : Nat × (Nat → Int32)} {M : sm_M} {p : Nat} (hp : p < 3) : dn sc kCourse_body 0 [.inr (.inr (3, 0, 0)), .inl (nI p)] [] M = some (0, .inr (.inr (0, p, 0)), M) := by
  rw [E_Course_body_0, i_ib hp (by decide), if_pos rfl, i_cl (by omega)]
theorem S_go {sc : Nat × (Nat → Int32)} {a : Nat → Nat → Int32} {M : sm_M} {B : Nat} (b : BI a M) (j : JR a M B) (hB : B + 202 < 2000000) (p : Int32) (coin : Bool) : SIR (dn sc kTop_go 0 [.inr (.inr (9, 0, 0)), .inl p, .inl (bI coin)] [] M) (fun N => dn sc kModel_go 0 [.inr (.inr (10, 0, 0)), .inl p, .inl (bI coin)] [] N) mpG a M (B + 200) := by
  have wf := b.2.1
  have e6 : ∀ (N : sm_M) (x : Int32), 0 < x → dn sc kModel_go 6 [.inr (.inr (10, 0, 0)), .inl p, .inl (bI coin)] [.inl x, .inr (.inr (10, 0, 0))] N = some (0, .inl 0, sm_u N 10 0 0 0 x) := fun N x hx => by rw [E_Model_go_6, u_hit, if_pos hx]
  unfold SIR
  rw [E_Top_go_0, P_within, r1_s]
  cases hp : wN p 3 with
  | false =>
    refine ⟨1, 0, M, ?_, frS_r, fun N hN => ⟨0, sm_u N 10 0 0 0 1, ?_, u_hit, fun h => by omega, thr_sRN, JR_thr (Nat.le_refl _) (JR_eq hN (by omega) j)⟩⟩
    · rw [show (!decide (p < 0) && decide (p < 3)) = wN p 3 from rfl, hp, if_pos (show bI false = 0 from rfl)]
    · dsimp only; rw [E_Model_go_0, P_isThird, r1_s, show (!decide (p < 0) && decide (p < 3)) = wN p 3 from rfl, hp, if_pos (show bI false = 0 from rfl), e6 N 1 (by decide)]
  | true =>
    rw [show (!decide (p < 0) && decide (p < 3)) = wN p 3 from rfl, hp, if_neg (show ¬ bI true = 0 by decide)]
    obtain ⟨q, hq, rfl⟩ := wN_of (n := 3) (by decide) hp
    have e0 : ∀ N : sm_M, dn sc kModel_go 0 [.inr (.inr (10, 0, 0)), .inl (nI q), .inl (bI coin)] [] N = if N.1 10 0 0 24 = 0 then dn sc kModel_go 6 [.inr (.inr (10, 0, 0)), .inl (nI q), .inl (bI coin)] [.inl 2, .inr (.inr (10, 0, 0))] N else if N.1 10 0 26 q = 0 then dn sc kModel_go 6 [.inr (.inr (10, 0, 0)), .inl (nI q), .inl (bI coin)] [.inl 0, .inr (.inr (10, 0, 0))] N else dn sc kModel_go 6 [.inr (.inr (10, 0, 0)), .inl (nI q), .inl (bI coin)] [.inl 2, .inr (.inr (10, 0, 0))] N := by
      intro N
      rw [E_Model_go_0, P_isThird, r1_s, show (!decide (nI q < 0) && decide (nI q < 3)) = wN (nI q) 3 from rfl, hp, if_neg (show ¬ bI true = 0 by decide), i_ib hq (by decide), i_cl (show q < 2147483648 by omega)]
      simp only [if_true]
    obtain ⟨j1, j2, mk0, j3⟩ := j
    rcases j1 with ⟨o1, o2⟩ | ⟨o1, o2, mk, t, tc, b1, b2, b3, ps⟩
    · refine ⟨3, 0, M, ?_, frS_r, fun N hN => ⟨0, sm_u N 10 0 0 0 2, ?_, u_hit, fun h => by omega, thr_sRN, JR_thr (Nat.le_refl _) (JR_eq hN (show B ≤ B + 200 by omega) ⟨Or.inl ⟨o1, o2⟩, j2, mk0, j3⟩)⟩⟩
      · rw [E_Course_isOn_0, o1, if_pos rfl, r1_s, if_pos rfl]
      · dsimp only; rw [e0, eqT_cell hN (by decide), o2, if_pos rfl, e6 N 2 (by decide)]
    · have tl := b.1
      have r := b.2.2.1
      have jj : JR a M B := ⟨Or.inr ⟨o1, o2, mk, t, tc, b1, b2, b3, ps⟩, j2, mk0, j3⟩
      obtain ⟨⟨l, l1, l2, l3⟩, _⟩ := ps.2.2 q hq
      rw [E_Course_isOn_0, o1, if_neg (show ¬ (1 : Int32) = 0 by decide), if_pos rfl, r1_s, if_neg (show ¬ (1 : Int32) = 0 by decide), P_body hq]
      show ∃ e x M1, sm_r1 (dn sc kBody_life 0 [.inr (.inr (0, q, 0))] [] M) _ = _ ∧ _
      rw [E_Body_life_0, r1_s, l2]
      by_cases zl : nI l = 0
      · rw [if_pos zl]
        obtain ⟨w1, w2⟩ := P_wP (sc := sc) wf tl r ps hq
        cases hw : wtP a M q with
        | true =>
          rw [hw] at w1 w2
          refine ⟨0, 0, M, ?_, frS_r, fun N hN => ?_⟩
          · rw [E_Course_advance_0, w1, r1_s, if_neg (show ¬ bI true = 0 by decide), r1_s, if_pos rfl]
          · have rN : cr a (sm_u N 10 0 0 0 0) := by
              refine ⟨(u_mis (by omega)).trans ((eqT_cell hN (by decide) 0 0 5).trans r.1), fun j h1 h2 => ?_⟩
              refine Eq.trans ?_ (r.2 j h1 h2)
              funext i
              exact (u_mis (by omega)).trans (eqT_cell hN (by decide) 0 j i)
            have psN := PS_on (x := 0) (frS_r (S := sRC) (M := M)) hN ps
            have w3 := (P_wP (sc := sc) wf tl rN psN hq).2
            rw [hw] at w3
            refine ⟨0, sm_u N 10 0 0 0 0, ?_, u_hit, fun _ => rfl, thr_sRN, JR_thr (show B ≤ B + 200 by omega) (JR_eq hN (Nat.le_refl _) jj)⟩
            dsimp only
            rw [e0, eqT_cell hN (by decide), o2, if_neg (show ¬ (1 : Int32) = 0 by decide), eqT_cell hN (by decide), l3, if_pos zl, E_Model_go_6, u_hit, if_neg (show ¬ (0 : Int32) < 0 by decide), w3, r1_s, if_neg (show ¬ bI true = 0 by decide)]
        | false =>
          rw [hw] at w1
          obtain ⟨M1, N0, g1, _, _, f1, _⟩ := T_turn (sc := sc) (coin := coin) wf tl r ps (by omega) (by omega) (by omega) hq w1
          refine ⟨0, 1, M1, ?_, sRC_X f1, fun N hN => ?_⟩
          · rw [g1, r1_s, if_neg (show ¬ (1 : Int32) = 0 by decide), if_pos rfl]
          · have rN : cr a (sm_u N 10 0 0 0 0) := by
              refine ⟨(u_mis (by omega)).trans ((eqT_cell hN (by decide) 0 0 5).trans ((f1.2 10 0 0 5 (by unfold sRC; omega)).trans r.1)), fun j h1 h2 => ?_⟩
              refine Eq.trans ?_ (r.2 j h1 h2)
              funext i
              exact (u_mis (by omega)).trans ((eqT_cell hN (by decide) 0 j i).trans (f1.2 10 0 j i (by unfold sRC; omega)))
            have psN := PS_on (x := 0) f1 hN ps
            have w3 := (P_wP (sc := sc) wf tl rN psN hq).2
            rw [hw] at w3
            obtain ⟨M1', N1, g1', g2', ⟨mk', tc', c1, c2, c3, c4, c5⟩, f1', f2'⟩ := T_turn (sc := sc) (coin := coin) wf tl rN psN (by omega) (by omega) (by omega) hq w1
            have ee := Prod.mk.inj (Prod.mk.inj (Option.some.inj (g1.symm.trans g1'))).2
            have eM : M1 = M1' := ee.2
            subst eM
            refine ⟨1, N1, ?_, (f2'.2 10 0 0 0 (by unfold sRN; omega)).trans u_hit, fun _ => rfl, frS_t thr_sRN (sRN_Y f2'), ?_⟩
            · dsimp only
              rw [e0, eqT_cell hN (by decide), f1.2 10 0 0 24 (by unfold sRC; omega), o2, if_neg (show ¬ (1 : Int32) = 0 by decide), eqT_cell hN (by decide), f1.2 10 0 26 q (by unfold sRC; omega), l3, if_pos zl, E_Model_go_6, u_hit, if_neg (show ¬ (0 : Int32) < 0 by decide), w3, r1_s, if_pos (show bI false = 0 from rfl), g2', r0_s]
            · have e9 : ∀ c p j i, c ≤ 9 → N1.1 c p j i = M1.1 c p j i := fun c p j i hc => (f2'.2 c p j i (fun z => by unfold sRN at z; omega)).trans ((u_mis (by omega)).trans (eqT_cell hN (by omega) p j i))
              have pj : PS a N1 N1 mk' (t + 1) (t + 1) tc' := PS_mem c5 (fun c p j i hc => e9 c p j i (by omega)) (fun _ _ => rfl)
              obtain ⟨_, q2, _, q4, q5, _, _⟩ := pj.1 0 (by decide)
              exact ⟨Or.inr ⟨(e9 3 0 0 5 (by decide)).trans ((f1.2 3 0 0 5 (by unfold sRC; omega)).trans o1), (f2'.2 10 0 0 24 (by unfold sRN; omega)).trans ((u_mis (by omega)).trans ((eqT_cell hN (by decide) 0 0 24).trans ((f1.2 10 0 0 24 (by unfold sRC; omega)).trans o2))), mk', t + 1, tc', by omega, by omega, by omega, pj⟩, ⟨q2, VK_of pj⟩, mk', by omega, q4, q5⟩
      · rw [if_neg zl]
        refine ⟨3, 0, M, rfl, frS_r, fun N hN => ⟨0, sm_u N 10 0 0 0 2, ?_, u_hit, fun h => by omega, thr_sRN, JR_thr (Nat.le_refl _) (JR_eq hN (show B ≤ B + 200 by omega) jj)⟩⟩
        dsimp only
        rw [e0, eqT_cell hN (by decide), o2, if_neg (show ¬ (1 : Int32) = 0 by decide), eqT_cell hN (by decide), l3, if_neg zl, e6 N 2 (by decide)]
