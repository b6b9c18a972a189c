/-! LEVEL B: the run: MOVE, SHARE and LEND, both sides -/
theorem V_share {sc : Nat × (Nat → Int32)} {p : Nat} {M N : sm_M} {mk t tc a u : Nat} (q : Q p M N mk (t + 1) t tc) (hp : p < 3) (ha : a < 6) (hu : u < 6) (hau : ¬ a = u) (ht : t < 2000000) (h : hC M p u = 1 ∨ hC M p u = 2) :
    ∃ M' N', dn sc kBody_share 0 [.inr (.inr (0, p, 0)), .inl (nI a), .inl (nI u)] [] M = some (0, .inl 0, M') ∧ dn sc kModel_sharesOn 0 [.inr (.inr (10, 0, 0)), .inl (nI p), .inl (nI (6 * p + a)), .inl (nI (6 * p + u))] [] N = some (0, .inl 0, N') ∧ OKQ p M N mk t tc M' N' := by
  have hibu : sm_ib (nI (6 * p + u)) 18 = true := i_ib (by omega) (by decide)
  have hiba : sm_ib (nI (6 * p + a)) 18 = true := i_ib (by omega) (by decide)
  have eh : hC M p u = aR N 29 p u := (q.1.1 u hu).1
  rcases h with h | h
  · -- of an owner
    have h1' : aR N 29 p u = 1 := eh ▸ h
    obtain ⟨L, l1, l2⟩ := P_eLo (sc := sc) M p hu (xC M p u)
    have q1 := Q_loans q hp hu h l2
    obtain ⟨L2, K, b1, b2, b3, b4, b5, b6, b7⟩ := V_bor (sc := sc) (w := 2) q1 hp ha hu hau
    have hl1 : hC (lpM M p L) p u = 1 := lpM_h.1.trans h
    rw [hl1] at b5 b7
    have hk : bt K a = false := by rw [b7, decide_eq_false (show ¬ (1 : Int32) = 2 by decide), decide_eq_false (show ¬ (1 : Int32) = 3 by decide)]; rfl
    have pv := PV_share b3.1 hp ha hu ht b4 b5 b6 hk
    have e38 : (leM (sm_u N 10 0 34 (6 * p + u) (-1)) p a).1 10 0 0 38 = nI (t + 1) := b3.2.2.2.2.2.1
    have ex : aR (leM (sm_u N 10 0 34 (6 * p + u) (-1)) p a) 30 p u = aR N 30 p u := by rw [le_j (by decide), aR_j (by omega)]
    rw [ex] at pv
    refine ⟨_, sm_u (sm_u (sm_u (leM (sm_u N 10 0 34 (6 * p + u) (-1)) p a) 10 0 29 (6 * p + a) 2) 10 0 30 (6 * p + a) (aR N 30 p u)) 10 0 32 (6 * p + a) (nI (t + 1)), ?_, ?_, mk, tc, Q_w b3 pv (fun j i => bor_6) (fun i hi => ?_) (fun i => ?_) ?_ (fun v hv g => ?_), Nat.le_refl _, by omega, Nat.le_refl _, by omega, frS_t lpM_fr (frS_t vac_fr bor_fr), ?_⟩
    · rw [E_Body_share_0, P_bOwns hu, r1_s, h, decide_eq_true rfl, if_neg (show ¬ bI true = 0 by decide), P_bValue hu, r1_s, h, if_neg (by decide), l1, r0_s, b1, r0_s]
    · rw [E_Model_sharesOn_0, hibu]
      simp only [if_true]
      rw [i_cl (show 6 * p + u < 2147483648 by omega), aR_i hu, aR_i hu, aR_i hu, h1', if_pos rfl, E_Model_sharesOn_2, b2, r0_s, hiba]
      simp only [if_true]
      rw [i_cl (show 6 * p + a < 2147483648 by omega), u_mis (show ¬(10 = 10 ∧ 0 = 0 ∧ 0 = 30 ∧ 38 = 6 * p + a) by omega), u_mis (show ¬(10 = 10 ∧ 0 = 0 ∧ 0 = 29 ∧ 38 = 6 * p + a) by omega), e38]
    · rw [u_mis (by omega), u_mis (by omega), u_mis (by omega)]
    · rw [u_mis (by omega), u_mis (by omega), u_mis (by omega)]
    · exact frS_t (u_frN ha (by decide) (by decide)) (frS_t (u_frN ha (by decide) (by decide)) (u_frN ha (by decide) (by decide)))
    · rw [aR_j (by omega), aR_j (by omega), aR_u ha] at g
      rw [aR_j (by omega), aR_u ha, aR_j (by omega)]
      by_cases z : v = a
      · rw [z, up_k] at g; exact absurd g i32_0.2.2.2.1
      · rw [up_o z] at g
        exact ⟨g, by rw [up_o z]⟩
    · exact frS_t (u_frN hu (by decide) (by decide)) (frS_t (le_fr ha) (frS_t (u_frN ha (by decide) (by decide)) (frS_t (u_frN ha (by decide) (by decide)) (u_frN ha (by decide) (by decide)))))
  · -- of a share
    have h2' : aR N 29 p u = 2 := eh ▸ h
    obtain ⟨L2, K, b1, b2, b3, b4, b5, b6, b7⟩ := V_bor (sc := sc) (w := 2) q hp ha hu hau
    rw [h] at b5 b7
    have hk : bt K a = lpC (vacM M p a L2) p u := by rw [b7, decide_eq_true (show (2 : Int32) = 2 from rfl)]; rfl
    have pv := PV_copy b3.1 hp ha hu b4 b5 b6 hk
    rw [le_j (by decide), le_j (by decide)] at pv
    refine ⟨_, sm_u (sm_u (sm_u (leM N p a) 10 0 29 (6 * p + a) 2) 10 0 30 (6 * p + a) (aR N 30 p u)) 10 0 32 (6 * p + a) (aR N 32 p u), ?_, ?_, mk, tc, Q_up (Q_w b3 pv (fun j i => bor_6) (fun i hi => ?_) (fun i => ?_) ?_ (fun v hv g => ?_)) (by omega), Nat.le_refl _, by omega, Nat.le_refl _, by omega, frS_t vac_fr bor_fr, ?_⟩
    · rw [E_Body_share_0, P_bOwns hu, r1_s, h, decide_eq_false (show ¬ (2 : Int32) = 1 by decide), if_pos (show bI false = 0 from rfl), b1, r0_s]
    · rw [E_Model_sharesOn_0, hibu]
      simp only [if_true]
      rw [i_cl (show 6 * p + u < 2147483648 by omega), aR_i hu, aR_i hu, aR_i hu, h2', if_neg (show ¬ (2 : Int32) = 1 by decide), E_Model_sharesOn_2, b2, r0_s, hiba]
      simp only [if_true]
      rw [i_cl (show 6 * p + a < 2147483648 by omega), if_neg (show ¬ (2 : Int32) = 1 by decide)]
    · rw [u_mis (by omega), u_mis (by omega), u_mis (by omega)]
    · rw [u_mis (by omega), u_mis (by omega), u_mis (by omega)]
    · exact frS_t (u_frN ha (by decide) (by decide)) (frS_t (u_frN ha (by decide) (by decide)) (u_frN ha (by decide) (by decide)))
    · rw [aR_j (by omega), aR_j (by omega), aR_u ha] at g
      rw [aR_j (by omega), aR_u ha, aR_j (by omega)]
      by_cases z : v = a
      · rw [z, up_k] at g; exact absurd g i32_0.2.2.2.1
      · rw [up_o z] at g
        exact ⟨g, by rw [up_o z]⟩
    · exact frS_t (le_fr ha) (frS_t (u_frN ha (by decide) (by decide)) (frS_t (u_frN ha (by decide) (by decide)) (u_frN ha (by decide) (by decide))))
/-- LEND: the reference's writes behind leaves -/
theorem V_lend {sc : Nat × (Nat → Int32)} {p : Nat} {M N : sm_M} {mk t tc a u : Nat} (q : Q p M N mk (t + 1) t tc) (hp : p < 3) (ha : a < 6) (hu : u < 6) (hau : ¬ a = u) (ht : t < 2000000) (h : hC M p u = 1) :
    ∃ M', dn sc kBody_lend 0 [.inr (.inr (0, p, 0)), .inl (nI a), .inl (nI u)] [] M = some (0, .inl 0, M') ∧ dn sc kModel_leaves 0 [.inr (.inr (10, 0, 0)), .inl (nI (6 * p + a))] [] N = some (0, .inl 0, leM N p a) ∧
      OKQ p M N mk t tc M' (sm_u (sm_u (sm_u (sm_u (leM N p a) 10 0 33 (6 * p + u) (nI (t + 1))) 10 0 34 (6 * p + u) (nI (6 * p + a))) 10 0 29 (6 * p + a) 3) 10 0 30 (6 * p + a) (aR N 30 p u)) := by
  obtain ⟨L, l1, l2⟩ := P_eAll (sc := sc) M p hu (by rw [h]; decide)
  have q1 : Q p (lpM M p L) (sm_u (sm_u N 10 0 33 (6 * p + u) (nI (t + 1))) 10 0 34 (6 * p + u) (-1)) mk (t + 1) (t + 1) tc :=
    Q_w q (PV_ends q.1 hp hu ht h l2) (fun j i => u_mis (by omega)) (fun i _ => (u_mis (by omega)).trans (u_mis (by omega))) (fun i => (u_mis (by omega)).trans (u_mis (by omega))) (frS_t (u_frN hu (by decide) (by decide)) (u_frN hu (by decide) (by decide))) (fun v hv g => by rw [aR_j (by omega), aR_j (by omega)] at g; exact ⟨g, by rw [aR_j (by omega), aR_j (by omega)]⟩)
  obtain ⟨L2, K, b1, b2, b3, b4, b5, b6, b7⟩ := V_bor (sc := sc) (w := 3) q1 hp ha hu hau
  have hl1 : hC (lpM M p L) p u = 1 := lpM_h.1.trans h
  rw [hl1] at b5 b7
  have hk : bt K a = false := by rw [b7, decide_eq_false (show ¬ (1 : Int32) = 2 by decide), decide_eq_false (show ¬ (1 : Int32) = 3 by decide)]; rfl
  have e34 : aR (leM (sm_u (sm_u N 10 0 33 (6 * p + u) (nI (t + 1))) 10 0 34 (6 * p + u) (-1)) p a) 34 p u = -1 := by rw [le_j (by decide), aR_u hu, up_k]
  have pv := PV_lend b3.1 hp ha hu b4 b5 e34 b6 hk
  have ex : aR (leM (sm_u (sm_u N 10 0 33 (6 * p + u) (nI (t + 1))) 10 0 34 (6 * p + u) (-1)) p a) 30 p u = aR N 30 p u := by rw [le_j (by decide), aR_j (by omega), aR_j (by omega)]
  rw [ex] at pv
  obtain ⟨d, d1, d2, d3⟩ := Q_d q
  have em : sm_u (leM (sm_u (sm_u N 10 0 33 (6 * p + u) (nI (t + 1))) 10 0 34 (6 * p + u) (-1)) p a) 10 0 34 (6 * p + u) (nI (6 * p + a)) = sm_u (sm_u (leM N p a) 10 0 33 (6 * p + u) (nI (t + 1))) 10 0 34 (6 * p + u) (nI (6 * p + a)) := by
    rw [leM_comm (Or.inr rfl), u_over, leM_comm (Or.inl rfl), leM_comm (Or.inr rfl)]
  rw [em] at pv
  have qq : Q p (borM (vacM (lpM M p L) p a L2) p a u 3 K) (sm_u (sm_u (sm_u (sm_u (leM N p a) 10 0 33 (6 * p + u) (nI (t + 1))) 10 0 34 (6 * p + u) (nI (6 * p + a))) 10 0 29 (6 * p + a) 3) 10 0 30 (6 * p + a) (aR N 30 p u)) mk (t + 1) (t + 1) tc := by
    rw [← em] at pv ⊢
    refine Q_w b3 pv (fun j i => bor_6) (fun i hi => ?_) (fun i => ?_) ?_ (fun v hv g => ?_)
    · rw [u_mis (by omega), u_mis (by omega), u_mis (by omega)]
    · rw [u_mis (by omega), u_mis (by omega), u_mis (by omega)]
    · exact frS_t (u_frN hu (by decide) (by decide)) (frS_t (u_frN ha (by decide) (by decide)) (u_frN ha (by decide) (by decide)))
    · rw [aR_j (by omega), aR_u ha, aR_j (by omega)] at g
      rw [aR_u ha, aR_j (by omega), aR_j (by omega)]
      by_cases z : v = a
      · rw [z, up_k] at g; exact absurd g i32_0.2.2.2.2.1
      · rw [up_o z] at g
        exact ⟨g, by rw [up_o z]⟩
  refine ⟨_, ?_, P_mLeaves hp ha d2 d3, mk, tc, qq, Nat.le_refl _, by omega, Nat.le_refl _, by omega, frS_t lpM_fr (frS_t vac_fr bor_fr), frS_t (le_fr ha) (frS_t (u_frN hu (by decide) (by decide)) (frS_t (u_frN hu (by decide) (by decide)) (frS_t (u_frN ha (by decide) (by decide)) (u_frN ha (by decide) (by decide)))))⟩
  rw [E_Body_lend_0, l1, r0_s, b1, r0_s]
/-- MOVE of what is shared or lent -/
theorem V_moveB {sc : Nat × (Nat → Int32)} {p : Nat} {M N : sm_M} {mk t tc a u : Nat} (q : Q p M N mk (t + 1) t tc) (hp : p < 3) (ha : a < 6) (hu : u < 6) (hau : ¬ a = u) (h : (hC M p u = 2 ∨ hC M p u = 3) ∧ lpC M p u = false) :
    ∃ M' N', dn sc kBody_move 0 [.inr (.inr (0, p, 0)), .inl (nI a), .inl (nI u)] [] M = some (0, .inl 0, M') ∧ dn sc kModel_movesOver 0 [.inr (.inr (10, 0, 0)), .inl (nI p), .inl (nI (6 * p + a)), .inl (nI (6 * p + u))] [] N = some (0, .inl 0, N') ∧ OKQ p M N mk t tc M' N' := by
  have hibu : sm_ib (nI (6 * p + u)) 18 = true := i_ib (by omega) (by decide)
  have hiba : sm_ib (nI (6 * p + a)) 18 = true := i_ib (by omega) (by decide)
  have eh : hC M p u = aR N 29 p u := (q.1.1 u hu).1
  have nau : ¬ nI a = nI u := by rw [i_eq (by omega) (by omega)]; exact hau
  obtain ⟨h23, hlp⟩ := h
  have n1 : ¬ hC M p u = 1 := by rcases h23 with z | z <;> rw [z] <;> decide
  have n1' : ¬ aR N 29 p u = 1 := by rw [← eh]; exact n1
  have e0 : dn sc kModel_movesOver 0 [.inr (.inr (10, 0, 0)), .inl (nI p), .inl (nI (6 * p + a)), .inl (nI (6 * p + u))] [] N = dn sc kModel_movesOver 3 [.inr (.inr (10, 0, 0)), .inl (nI p), .inl (nI (6 * p + a)), .inl (nI (6 * p + u)), .inl (aR N 29 p u), .inl (aR N 30 p u), .inl (aR N 31 p u), .inl (aR N 32 p u)] [] N := by
    rw [E_Model_movesOver_0, hibu]
    simp only [if_true]
    rw [i_cl (by omega), aR_i hu, aR_i hu, aR_i hu, aR_i hu, if_neg n1']
  rcases h23 with h | h
  · have h2' : aR N 29 p u = 2 := eh ▸ h
    obtain ⟨L2, K, b1, b2, b3, b4, b5, b6, b7⟩ := V_bor (sc := sc) (w := 2) q hp ha hu hau
    rw [h] at b5 b7
    have hk : bt K a = lpC (vacM M p a L2) p u := by rw [b7, decide_eq_true (show (2 : Int32) = 2 from rfl)]; rfl
    have pv := PV_copy b3.1 hp ha hu b4 b5 b6 hk
    rw [le_j (by decide), le_j (by decide)] at pv
    have hbh : hC (borM (vacM M p a L2) p a u 2 K) p u = 2 := by rw [borM_e.1, up_o (fun z => hau z.symm)]; exact b5
    refine ⟨_, sm_u (sm_u (sm_u (leM N p a) 10 0 29 (6 * p + a) 2) 10 0 30 (6 * p + a) (aR N 30 p u)) 10 0 32 (6 * p + a) (aR N 32 p u), ?_, ?_, mk, tc, Q_up (Q_w b3 pv (fun j i => bor_6) (fun i hi => ?_) (fun i => ?_) ?_ (fun v hv g => ?_)) (by omega), Nat.le_refl _, by omega, Nat.le_refl _, by omega, frS_t vac_fr bor_fr, ?_⟩
    · rw [E_Body_move_0, if_neg nau, P_bOwns hu, r1_s, h, decide_eq_false (show ¬ (2 : Int32) = 1 by decide), if_pos (show bI false = 0 from rfl), P_bShares hu, r1_s, h, decide_eq_true rfl, if_neg (show ¬ bI true = 0 by decide), E_Body_move_7, b1, r0_s, P_bBorrows hu, r1_s, hbh, decide_eq_false (show ¬ (2 : Int32) = 3 by decide), if_pos (show bI false = 0 from rfl)]
      exact p
    · rw [e0, E_Model_movesOver_3, b2, r0_s, h2', if_neg (show ¬ (2 : Int32) = 1 by decide), hiba]
      simp only [if_true]
      rw [i_cl (show 6 * p + a < 2147483648 by omega), if_neg (show ¬ (2 : Int32) = 3 by decide)]
    · rw [u_mis (by omega), u_mis (by omega), u_mis (by omega)]
    · rw [u_mis (by omega), u_mis (by omega), u_mis (by omega)]
    · exact frS_t (u_frN ha (by decide) (by decide)) (frS_t (u_frN ha (by decide) (by decide)) (u_frN ha (by decide) (by decide)))
    · rw [aR_j (by omega), aR_j (by omega), aR_u ha] at g
      rw [aR_j (by omega), aR_u ha, aR_j (by omega)]
      by_cases z : v = a
      · rw [z, up_k] at g; exact absurd g i32_0.2.2.2.1
      · rw [up_o z] at g
        exact ⟨g, by rw [up_o z]⟩
    · exact frS_t (le_fr ha) (frS_t (u_frN ha (by decide) (by decide)) (frS_t (u_frN ha (by decide) (by decide)) (u_frN ha (by decide) (by decide))))
  · have h3' : aR N 29 p u = 3 := eh ▸ h
    obtain ⟨o, o1, o2, o3, o5⟩ := V_hold q.1 hu (Or.inr ⟨Or.inr h, hlp⟩)
    have o5 := o5 h
    have uq := Q_uq q
    obtain ⟨L2, K, b1, b2, b3, b4, b5, b6, b7⟩ := V_bor (sc := sc) (w := 3) q hp ha hu hau
    rw [h] at b5 b7
    have hk : bt K a = lpC (vacM M p a L2) p u := by rw [b7, decide_eq_true (show (3 : Int32) = 3 from rfl), Bool.or_true]; rfl
    have hbh : hC (borM (vacM M p a L2) p a u 3 K) p u = 3 := by rw [borM_e.1, up_o (fun z => hau z.symm)]; exact b5
    -- the owner behind leaves
    have oW : ∃ oo, ((oo = -1 ∧ ∀ o, o < 6 → ¬ (aR (leM N p a) 29 p o = 1 ∧ aR (leM N p a) 30 p o = aR (leM N p a) 30 p u)) ∨ ∃ o, o < 6 ∧ oo = nI (6 * p + o) ∧ aR (leM N p a) 29 p o = 1 ∧ aR (leM N p a) 30 p o = aR (leM N p a) 30 p u ∧ aR (leM N p a) 34 p o = nI (6 * p + u)) ∧
        dn sc kModel_ownerOf 0 [.inr (.inr (10, 0, 0)), .inl (nI p), .inl (aR N 30 p u)] [] (sm_u (sm_u (sm_u (leM N p a) 10 0 29 (6 * p + a) 3) 10 0 30 (6 * p + a) (aR N 30 p u)) 10 0 32 (6 * p + a) (aR N 32 p u)) = some (0, .inl oo, sm_u (sm_u (sm_u (leM N p a) 10 0 29 (6 * p + a) 3) 10 0 30 (6 * p + a) (aR N 30 p u)) 10 0 32 (6 * p + a) (aR N 32 p u)) := by
      have f29 : aR (sm_u (sm_u (sm_u (leM N p a) 10 0 29 (6 * p + a) 3) 10 0 30 (6 * p + a) (aR N 30 p u)) 10 0 32 (6 * p + a) (aR N 32 p u)) 29 p = upL (upL (aR N 29 p) a 0) a 3 := by rw [aR_j (by omega), aR_j (by omega), aR_u ha, le_29 ha]
      have f30 : aR (sm_u (sm_u (sm_u (leM N p a) 10 0 29 (6 * p + a) 3) 10 0 30 (6 * p + a) (aR N 30 p u)) 10 0 32 (6 * p + a) (aR N 32 p u)) 30 p = upL (aR N 30 p) a (aR N 30 p u) := by rw [aR_j (by omega), aR_u ha, aR_j (by omega), le_j (by decide)]
      have gg : ∀ m, m < 6 → aR (sm_u (sm_u (sm_u (leM N p a) 10 0 29 (6 * p + a) 3) 10 0 30 (6 * p + a) (aR N 30 p u)) 10 0 32 (6 * p + a) (aR N 32 p u)) 29 p m = 1 → aR (sm_u (sm_u (sm_u (leM N p a) 10 0 29 (6 * p + a) 3) 10 0 30 (6 * p + a) (aR N 30 p u)) 10 0 32 (6 * p + a) (aR N 32 p u)) 30 p m = aR N 30 p u → ¬ m = a ∧ m = o := by
        intro m hm g1 g2
        rw [f29] at g1
        rw [f30] at g2
        by_cases z : m = a
        · rw [z, up_k] at g1; exact absurd g1 i32_0.2.2.2.2.1
        · rw [up_o z, up_o z] at g1
          rw [up_o z] at g2
          exact ⟨z, uq m o hm o1 g1 o2 (g2.trans o3.symm)⟩
      by_cases hoa : o = a
      · refine ⟨-1, Or.inl ⟨rfl, fun m hm g => ?_⟩, P_mOw_n hp (fun m hm g1 g2 => ?_)⟩
        · rw [le_29 ha, le_j (by decide)] at g
          by_cases z : m = a
          · rw [z, up_k] at g; exact i32_0.1 g.1
          · rw [up_o z] at g
            exact z ((uq m o hm o1 g.1 o2 (g.2.trans o3.symm)).trans hoa)
        · obtain ⟨z1, z2⟩ := gg m hm g1 g2
          exact z1 (z2.trans hoa)
      · refine ⟨nI (6 * p + o), Or.inr ⟨o, o1, rfl, ?_, ?_, ?_⟩, P_mOw hp o1 ?_ ?_ (fun m hm g1 g2 => (gg m hm g1 g2).2)⟩
        · rw [le_29 ha, up_o hoa]; exact o2
        · rw [le_j (by decide)]; exact o3
        · rw [le_j (by decide)]; exact o5
        · rw [f29, up_o hoa, up_o hoa]; exact o2
        · rw [f30, up_o hoa]; exact o3
    obtain ⟨oo, w1, w2⟩ := oW
    have pv := PV_pass b3.1 hp ha hu hau b4 b5 w1 b6 hk
    have ex : psM (leM N p a) p a u oo = sm_u (if oo = -1 then sm_u (sm_u (sm_u (leM N p a) 10 0 29 (6 * p + a) 3) 10 0 30 (6 * p + a) (aR N 30 p u)) 10 0 32 (6 * p + a) (aR N 32 p u) else sm_u (sm_u (sm_u (sm_u (leM N p a) 10 0 29 (6 * p + a) 3) 10 0 30 (6 * p + a) (aR N 30 p u)) 10 0 32 (6 * p + a) (aR N 32 p u)) 10 0 34 oo.toNatClampNeg (nI (6 * p + a))) 10 0 29 (6 * p + u) 0 := by
      unfold psM
      rw [le_j (by decide), le_j (by decide)]
    have o34 : oo = -1 ∨ ∃ o, o < 6 ∧ oo = nI (6 * p + o) := w1.imp (fun z => z.1) (fun ⟨o, p1, p2, _⟩ => ⟨o, p1, p2⟩)
    have F1 : frS (fN p) (leM N p a) (psM (leM N p a) p a u oo) := by
      rw [ex]
      refine frS_t ?_ (u_frN hu (by decide) (by decide))
      have F0 : frS (fN p) (leM N p a) (sm_u (sm_u (sm_u (leM N p a) 10 0 29 (6 * p + a) 3) 10 0 30 (6 * p + a) (aR N 30 p u)) 10 0 32 (6 * p + a) (aR N 32 p u)) := frS_t (u_frN ha (by decide) (by decide)) (frS_t (u_frN ha (by decide) (by decide)) (u_frN ha (by decide) (by decide)))
      rcases o34 with z | ⟨o', p1, p2⟩
      · rw [if_pos z]; exact F0
      · rw [p2, i_cl (by omega)]
        split
        · exact F0
        · exact frS_t F0 (u_frN p1 (by decide) (by decide))
    refine ⟨_, psM (leM N p a) p a u oo, ?_, ?_, mk, tc, Q_up (Q_w b3 pv (fun j i => (u_mis (by omega)).trans bor_6) (fun i hi => ?_) (fun i => ?_) F1 (fun v hv g => ?_)) (by omega), Nat.le_refl _, by omega, Nat.le_refl _, by omega, frS_t vac_fr (frS_t bor_fr (frS_u (Or.inl ⟨rfl, rfl, by omega⟩))), frS_t (le_fr ha) F1⟩
    · rw [E_Body_move_0, if_neg nau, P_bOwns hu, r1_s, h, decide_eq_false (show ¬ (3 : Int32) = 1 by decide), if_pos (show bI false = 0 from rfl), P_bShares hu, r1_s, h, decide_eq_false (show ¬ (3 : Int32) = 2 by decide), if_pos (show bI false = 0 from rfl), E_Body_move_7, b1, r0_s, P_bBorrows hu, r1_s, hbh, decide_eq_true rfl, if_neg (show ¬ bI true = 0 by decide), P_bClear hu, r0_s]
      exact p
    · rw [e0, E_Model_movesOver_3, b2, r0_s, h3', if_neg (show ¬ (3 : Int32) = 1 by decide), hiba, hibu]
      simp only [if_true]
      rw [i_cl (show 6 * p + a < 2147483648 by omega), i_cl (show 6 * p + u < 2147483648 by omega), w2, r1_s, ex]
      rcases o34 with z | ⟨o', p1, p2⟩
      · rw [if_pos z, if_pos z]
      · have no : ¬ oo = -1 := by rw [p2]; exact (by decide : ∀ n, n < 100 → ¬ nI n = -1) _ (by omega)
        have ib : sm_ib oo 18 = true := by rw [p2]; exact i_ib (by omega) (by decide)
        rw [if_neg no, if_neg no, ib, if_pos rfl]
    · rw [ex, u_mis (by omega)]
      split
      · rw [u_mis (by omega), u_mis (by omega), u_mis (by omega)]
      · rw [u_mis (by omega), u_mis (by omega), u_mis (by omega), u_mis (by omega)]
    · rw [ex, u_mis (by omega)]
      split
      · rw [u_mis (by omega), u_mis (by omega), u_mis (by omega)]
      · rw [u_mis (by omega), u_mis (by omega), u_mis (by omega), u_mis (by omega)]
    · have f29 : aR (psM (leM N p a) p a u oo) 29 p = upL (upL (aR (leM N p a) 29 p) a 3) u 0 := by
        rw [ex, aR_u hu]
        split
        · rw [aR_j (by omega), aR_j (by omega), aR_u ha]
        · rw [aR_j (by omega), aR_j (by omega), aR_j (by omega), aR_u ha]
      have f30 : aR (psM (leM N p a) p a u oo) 30 p = upL (aR (leM N p a) 30 p) a (aR N 30 p u) := by
        rw [ex, aR_j (by omega)]
        split
        · rw [aR_j (by omega), aR_u ha, aR_j (by omega)]
        · rw [aR_j (by omega), aR_j (by omega), aR_u ha, aR_j (by omega)]
      rw [f29] at g
      rw [f30]
      by_cases z : v = u
      · rw [z, up_k] at g; exact absurd g i32_0.1
      · rw [up_o z] at g
        by_cases z2 : v = a
        · rw [z2, up_k] at g; exact absurd g i32_0.2.2.2.2.1
        · rw [up_o z2] at g
          exact ⟨g, by rw [up_o z2]⟩
/-- MOVE of what is owned -/
theorem V_moveO {sc : Nat × (Nat → Int32)} {p : Nat} {M N : sm_M} {mk t tc a u : Nat} (q : Q p M N mk (t + 1) t tc) (hp : p < 3) (ha : a < 6) (hu : u < 6) (hau : ¬ a = u) (ht : t < 2000000) (htc : tc < 2000000) (h : hC M p u = 1) (hf : Fresh N (nI mk)) :
    ∃ M' N', dn sc kBody_move 0 [.inr (.inr (0, p, 0)), .inl (nI a), .inl (nI u)] [] M = some (0, .inl 0, M') ∧ dn sc kModel_movesOver 0 [.inr (.inr (10, 0, 0)), .inl (nI p), .inl (nI (6 * p + a)), .inl (nI (6 * p + u))] [] N = some (0, .inl 0, N') ∧ OKQ p M N mk t tc M' N' := by
  have hibu : sm_ib (nI (6 * p + u)) 18 = true := i_ib (by omega) (by decide)
  have hiba : sm_ib (nI (6 * p + a)) 18 = true := i_ib (by omega) (by decide)
  have nau : ¬ nI a = nI u := by rw [i_eq (by omega) (by omega)]; exact hau
  have h1' : aR N 29 p u = 1 := (q.1.1 u hu).1.symm.trans h
  have ek : kC M p u = aR N 31 p u := (q.1.1 u hu).2.2
  have e0 : ∀ X, dn sc kBody_handOver 0 [.inr (.inr (0, p, 0)), .inl (nI u)] [] M = X → dn sc kBody_move 0 [.inr (.inr (0, p, 0)), .inl (nI a), .inl (nI u)] [] M = sm_r1 X (fun x6 M5 => sm_r1 (dn sc kBody_kindOf 0 [.inr (.inr (0, p, 0)), .inl (nI u)] [] M5) (fun x8 M7 => sm_r0 (dn sc kBody_own 0 [.inr (.inr (0, p, 0)), .inl (nI a), .inl x6, .inl x8] [] M7) (fun M9 => some (0, .inl 0, M9)))) := by
    intro X hX
    rw [E_Body_move_0, if_neg nau, P_bOwns hu, r1_s, h, decide_eq_true rfl, if_neg (show ¬ bI true = 0 by decide), hX]
  by_cases hk : kC M p u = 0
  · obtain ⟨M1, a1, a2, a3, a4, a5, a6, a7, a8⟩ := V_hand0 (sc := sc) q hp hu h hk
    have hf' : Fresh (cpR N p u) (nI mk) := by
      refine ⟨fun q' v hq hv g => ?_, fun k i hk g => ?_⟩
      · rw [(a8 q').1] at g
        rw [(a8 q').2]
        exact hf.1 q' v hq hv g
      · rw [a7] at g
        exact hf.2 k i hk g
    obtain ⟨M2, b1, b2, b3, b4, b5, b6⟩ := V_own (sc := sc) (kd := 0) (y := mk) a3 hp ha (by omega) ht htc ⟨0, by decide, rfl⟩ hf'
    refine ⟨M2, _, ?_, ?_, mk + 1, tc + 1, b4, by omega, Nat.le_refl _, by omega, Nat.le_refl _, frS_t a4 b5, frS_t a5 b6⟩
    · rw [e0 _ a1, r1_s, P_bKind hu, r1_s, a6, b1, r0_s]
    · rw [E_Model_movesOver_0, hibu]
      simp only [if_true]
      rw [i_cl (by omega), aR_i hu, aR_i hu, aR_i hu, aR_i hu, if_pos h1', if_pos (ek.symm.trans hk), a2, r1_s, b2, r0_s, b3, r0_s]
  · obtain ⟨M1, a1, a3, a4, a5, a6, a7, y, a8, a9⟩ := V_hand1 (sc := sc) q hp hu h hk
    rw [a9] at a1 a7
    obtain ⟨M2, b1, b2, b3, b4, b5, b6⟩ := V_own (sc := sc) (kd := aR N 31 p u) (y := y) a3 hp ha a8 ht htc (q.1.2.2.2.1 u hu h1').1 a7
    have hk' : ¬ aR N 31 p u = 0 := by rw [← ek]; exact hk
    obtain ⟨d, d1, d2, d3⟩ := Q_d q
    have em : sm_u (owM (leM N p a) p a (nI y) (aR N 31 p u)) 10 0 29 (6 * p + u) 0 = owM (leM (sm_u N 10 0 29 (6 * p + u) 0) p a) p a (nI y) (aR N 31 p u) := by rw [gn_ow hau, gn_le ha hu hau]
    refine ⟨M2, _, ?_, ?_, mk, tc + 1, b4, Nat.le_refl _, by omega, by omega, Nat.le_refl _, frS_t a4 b5, frS_t a5 b6⟩
    · rw [e0 _ a1, r1_s, P_bKind hu, r1_s, a6, b1, r0_s]
    · rw [E_Model_movesOver_0, hibu]
      simp only [if_true]
      rw [i_cl (show 6 * p + u < 2147483648 by omega), aR_i hu, aR_i hu, aR_i hu, aR_i hu, if_pos h1', if_neg hk', E_Model_movesOver_3, P_mLeaves hp ha d2 d3, r0_s, h1', if_pos rfl, P_mOwns hp ha, r0_s, hibu, if_pos rfl, i_cl (show 6 * p + u < 2147483648 by omega), a9, em]
/-- MAKE: what the reference does, in its order -/
theorem V_make {sc : Nat × (Nat → Int32)} {p : Nat} {M N : sm_M} {mk t tc a : Nat} {kd : Int32} (q : Q p M N mk (t + 1) t tc) (hp : p < 3) (ha : a < 6) (ht : t < 2000000) (htc : tc < 2000000) (hk : ∃ n, n < 3 ∧ kd = nI n) (hf : Fresh N (nI mk)) :
    ∃ M' N2, dn sc kLedger_newValue 0 [.inr (.inr (6, 0, 0))] [] M = some (0, .inl (nI mk), numM M) ∧ dn sc kBody_own 0 [.inr (.inr (0, p, 0)), .inl (nI a), .inl (nI mk), .inl kd] [] (numM M) = some (0, .inl 0, M') ∧ dn sc kModel_leaves 0 [.inr (.inr (10, 0, 0)), .inl (nI (6 * p + a))] [] N = some (0, .inl 0, leM N p a) ∧ (leM N p a).1 10 0 0 39 = nI mk ∧
      dn sc kModel_owns 0 [.inr (.inr (10, 0, 0)), .inl (nI (6 * p + a)), .inl (nI mk), .inl kd] [] (leM N p a) = some (0, .inl 0, N2) ∧ OKQ p M N mk t tc M' (mdM N2) := by
  have q1 := Q_md q
  obtain ⟨M2, b1, b2, b3, b4, b5, b6⟩ := V_own (sc := sc) (kd := kd) (y := mk) q1 hp ha (by omega) ht htc hk (Fresh_0 hf)
  obtain ⟨d, d1, d2, d3⟩ := Q_d q
  have nv := P_newValue (sc := sc) (M := M)
  rw [q.2.2.2.1] at nv
  refine ⟨M2, owM (leM N p a) p a (nI mk) kd, nv, b1, P_mLeaves hp ha d2 d3, (le_f (by decide)).trans q.2.2.2.2.1, P_mOwns hp ha, mk + 1, tc + 1, ?_, by omega, Nat.le_refl _, by omega, Nat.le_refl _, frS_t num_fr b5, ?_⟩
  · rw [md_ow, md_le]; exact b4
  · rw [md_ow, md_le]; exact frS_t md_fr b6
