/-! LEVEL B: telling in one shape: being stuck, and the run, behind it -/
theorem ch_tel {a b : Nat → Nat → Int32} (e : telE a b) : chE a b := by
  obtain ⟨e0, e⟩ := e
  unfold chE cnA prA lA rA pnA wA kA bA
  rw [e0, e 2 (by decide) (by decide), e 3 (by decide) (by decide), e 4 (by decide) (by decide), e 5 (by decide) (by decide), e 7 (by decide) (by decide), e 8 (by decide) (by decide), e 9 (by decide) (by decide)]
  exact ⟨rfl, fun _ _ => ⟨⟨rfl, rfl, rfl⟩, rfl, fun _ _ => ⟨rfl, rfl, rfl⟩⟩⟩
theorem ok_sim {a b : Nat → Nat → Int32} {q : Nat} (h : simA a b q) (wf : wfA a) (wb : wfA b) (hq : q < 3) (k : ok1 a q) : ok1 b q :=
  ⟨by rw [← sim_cS h wf wb hq, ← sim_kS h wf wb hq]; exact k.1, by rw [← (cE_sim h wf wb hq).1]; exact k.2⟩
theorem nx_sim {a b : Nat → Nat → Int32} (c : chE a b) (s : ∀ q, q < 3 → simA a b q) (wf : wfA a) (wb : wfA b) {h : Nat → Nat} {p w : Nat} (hp : p < 3) (k : ok1 a p) (g : Gd a h) : nxL a h p w = nxL b h p w := by
  have h16 := on16 wf hp
  obtain ⟨g1, g2, g3⟩ := g.1 p hp
  have sp := s p hp
  have eon := sp.1
  unfold nxL
  by_cases z0 : h p / 32 = 0
  rotate_left
  · rw [if_pos z0, if_pos z0]
  have e32 : h p % 32 = h p := by omega
  rw [if_neg (show ¬ ¬ h p / 32 = 0 from fun y => y z0), if_neg (show ¬ ¬ h p / 32 = 0 from fun y => y z0), e32, ← eon]
  rw [e32] at g2 g3
  by_cases zo : h p < onA a p
  rotate_left
  · rw [if_pos (Or.inl zo), if_pos (Or.inl zo)]
  obtain ⟨x1, x2, x3, x4, x5⟩ := sim_x sp zo
  have en : ∀ b', nxO a p (h p) b' = nxO b p (h p) b' := fun b' => sim_nx sp zo
  rw [← x1]
  by_cases z13 : opW a p (h p) = 13
  · rw [if_pos (Or.inr z13), if_pos (Or.inr z13)]
  have zn : ¬ (¬ h p < onA a p ∨ opW a p (h p) = 13) := fun y => y.elim (fun y => y zo) z13
  rw [if_neg zn, if_neg zn]
  by_cases z2 : w = 1 ∧ ¬ opW a p (h p) = 11
  · rw [if_pos z2, if_pos z2]
  rw [if_neg z2, if_neg z2]
  simp only [en]
  have ch : ∀ (hn : ¬ ndK (opW a p (h p)) = -1), tQ a p (h p) = tQ b p (h p) ∧ fQ a p (h p) = fQ b p (h p) ∧ mgL a p (h p) = mgL b p (h p) := by
    intro hn
    obtain ⟨o, ha, hs⟩ := ch_of wf hp k g (by omega) zo z13 hn
    obtain ⟨c1, c3, _⟩ := of_c wf o
    obtain ⟨_, _, _, w10, _⟩ := wf.2.2.2.2 _ c1
    have h8 := (wf.1 _ w10).2.1
    obtain ⟨⟨e1, e2, e3⟩, e4, e5⟩ := c.2 _ c1
    obtain ⟨f1, f2, f3⟩ := e5 (stN a h p (xN a p (h p))) (by omega)
    refine ⟨?_, ?_, ?_⟩
    · unfold tQ qN oN
      rw [← x4, e2, e3]
    · unfold fQ qN
      rw [← x4, e2]
    · unfold mgL kdN
      rw [← x1, ← x5, ← x4, ← sim_cS sp wf wb hp, e1]
      unfold stN at f2
      rw [e32] at f2
      rw [f2]
  by_cases z7 : opW a p (h p) = 7 ∨ opW a p (h p) = 9
  · obtain ⟨q1, q2, q3⟩ := ch (nd_79 z7).2.1
    rw [if_pos z7, if_pos z7, q1, q3]
  rw [if_neg z7, if_neg z7]
  by_cases z8 : opW a p (h p) = 8 ∨ opW a p (h p) = 10
  · obtain ⟨q1, q2, q3⟩ := ch (nd_80 z8).2.1
    rw [if_pos z8, if_pos z8, q2]
  rw [if_neg z8, if_neg z8]
/-- all rows are good -/
def allG (a : Nat → Nat → Int32) (s : (Nat → Nat → Nat) × Nat) : Prop := ∀ k, k < s.2 → Gd a (s.1 k)
theorem allG_ad {a : Nat → Nat → Int32} {s : (Nat → Nat → Nat) × Nat} {h : Nat → Nat} (g : allG a s) (gh : Gd a h) : allG a (adS s h) := by
  by_cases z : s.2 < 1001 ∧ ¬ inS s h
  · rw [adS_y z.1 z.2]
    intro k hk
    unfold pushS at hk ⊢
    dsimp only at hk ⊢
    by_cases y : k = s.2
    · rw [if_pos y]; exact gh
    · rw [if_neg y]; exact g k (by omega)
  · rw [adS_n z]; exact g
section
variable {a b : Nat → Nat → Int32} (c : chE a b) (s : ∀ q, q < 3 → simA a b q) (wf : wfA a) (wb : wfA b) (ok : ∀ p, p < 3 → ok1 a p)
theorem gL_sim {a b : Nat → Nat → Int32} (c : chE a b) (s : ∀ q, q < 3 → simA a b q) (wf : wfA a) (wb : wfA b) (ok : ∀ p, p < 3 → ok1 a p) {r : Nat → Nat} (g : Gd a r) {i : Nat} (hi : i < 6) {t : ((Nat → Nat → Nat) × Nat) × Bool} (ht : allG a t.1) : gLs a r i t = gLs b r i t ∧ allG a (gLs a r i t).1 := by
  have hp : i / 2 < 3 := by omega
  have e := nx_sim (w := i % 2) c s wf wb hp (ok _ hp) g
  unfold gLs
  rw [← e]
  refine ⟨rfl, ?_⟩
  cases q : nxL a r (i / 2) (i % 2) with
  | none => exact ht
  | some h' => exact allG_ad ht (Gd_nx wf hp (ok _ hp) g q)
theorem go_sim {a b : Nat → Nat → Int32} (c : chE a b) (s : ∀ q, q < 3 → simA a b q) (wf : wfA a) (wb : wfA b) (ok : ∀ p, p < 3 → ok1 a p) {r : Nat → Nat} (g : Gd a r) : ∀ n i (t : ((Nat → Nat → Nat) × Nat) × Bool), i + n ≤ 6 → allG a t.1 → goS a r n i t = goS b r n i t ∧ allG a (goS a r n i t).1 := by
  intro n
  induction n with
  | zero => intro i t _ ht; exact ⟨rfl, ht⟩
  | succ n ih =>
    intro i t hi ht
    obtain ⟨h1, h2⟩ := gL_sim c s wf wb ok g (show i < 6 by omega) ht
    obtain ⟨h3, h4⟩ := ih (i + 1) _ (by omega) h2
    show goS a r n (i + 1) (gLs a r i t) = goS b r n (i + 1) (gLs b r i t) ∧ allG a (goS a r n (i + 1) (gLs a r i t)).1
    rw [← h1]
    exact ⟨h3, h4⟩
theorem se_sim {a b : Nat → Nat → Int32} (c : chE a b) (s : ∀ q, q < 3 → simA a b q) (wf : wfA a) (wb : wfA b) (ok : ∀ p, p < 3 → ok1 a p) : ∀ k i (t : (Nat → Nat → Nat) × Nat) (f : Bool), allG a t → seS a k i t f = seS b k i t f := by
  intro k
  induction k with
  | zero => intro i t f _; rfl
  | succ k ih =>
    intro i t f ht
    unfold seS
    by_cases z : i < t.2 ∧ i < 1000 ∧ t.2 ≤ 1000
    · rw [if_pos z, if_pos z]
      obtain ⟨h1, h2⟩ := go_sim c s wf wb ok (ht i z.1) 6 0 (t, false) (by decide) ht
      rw [← h1]
      exact ih (i + 1) _ _ h2
    · rw [if_neg z, if_neg z]
theorem stk_sim {a b : Nat → Nat → Int32} (c : chE a b) (s : ∀ q, q < 3 → simA a b q) (wf : wfA a) (wb : wfA b) (ok : ∀ p, p < 3 → ok1 a p) : stkA a = stkA b :=
  se_sim c s wf wb ok 1001 0 _ false (allG_ad (fun k hk => absurd hk (Nat.not_lt_zero _)) (Gd_0 wf ok))
end
theorem LI_sim {a b : Nat → Nat → Int32} {M : sm_M} (c : chE a b) (s : ∀ q, q < 3 → simA a b q) (wf : wfA a) (wb : wfA b) (l : LI a M) : LI b M :=
  l.imp id (fun ⟨k, e⟩ => ⟨fun p hp => ok_sim (s p hp) wf wb hp (k p hp), by rw [← stk_sim c s wf wb k]; exact e⟩)
theorem RS_ch {a b : Nat → Nat → Int32} {M N : sm_M} (c : chE a b) (ho : ∀ p, p < 3 → onA b p = onA a p) (r : RS a M N) : RS b M N := by
  intro p hp
  obtain ⟨r1, r2, ⟨o, o1, o2, o3⟩, r4, r5⟩ := r p hp
  refine ⟨r1, r2, ⟨o, by rw [ho p hp]; exact o1, o2, o3⟩, r4, fun c' h => ?_⟩
  have hc : c' < cnA a := by unfold ofA at h; rw [Bool.and_eq_true, decide_eq_true_eq, c.1] at h; exact h.1
  obtain ⟨⟨e1, e2, e3⟩, e4, _⟩ := c.2 c' hc
  have h' : ofA a c' p = true := by
    unfold ofA at h ⊢
    rw [c.1, e2, e3] at h
    exact h
  obtain ⟨s, s1, s2, s3⟩ := r5 c' h'
  refine ⟨s, by rw [e1, e4]; exact s1, s2, ?_⟩
  unfold qN at s3 ⊢
  rw [e2]
  exact s3
theorem JR_ch {a b : Nat → Nat → Int32} {M : sm_M} {B : Nat} (c : chE a b) (ho : ∀ p, p < 3 → onA b p = onA a p) (j : JR a M B) : JR b M B :=
  ⟨j.1.imp id (fun ⟨g1, g2, mq, t, tc, b1, b2, b3, ps⟩ => ⟨g1, g2, mq, t, tc, b1, b2, b3, ps.1, ps.2.1, RS_ch c ho ps.2.2⟩), j.2⟩
theorem on_tel {a b : Nat → Nat → Int32} (e : telE a b) (p : Nat) : onA b p = onA a p := by
  unfold onA
  rw [e.2 10 (by decide) (by decide)]
/-- all stands, said of the reference's own cells -/
theorem GI_tel {a : Nat → Nat → Int32} {M : sm_M} {B : Nat} (g : GI a M B) : GI (mA M) M B := by
  obtain ⟨b, j, l⟩ := g
  have e : telE a (mA M) := b.2.2.1
  have bm := BI_tel b
  exact ⟨bm, JR_ch (ch_tel e) (fun p _ => on_tel e p) j, LI_sim (ch_tel e) (fun q _ => sim_tel e q) b.2.1 bm.2.1 l⟩
/-- a call that both sides refuse -/
theorem GI_thr {a : Nat → Nat → Int32} {M N : sm_M} {B B' : Nat} {x : Int32} (g : GI a M B) (hB : B ≤ B') (he : eqT M N) : GI a (sm_u N 10 0 0 0 x) B' :=
  ⟨BI_thr (BI_eq he g.1), JR_thr (Nat.le_refl _) (JR_eq he hB g.2.1), LI_c ((u_mis (by omega)).trans (eqT_cell he (by decide) 0 0 6)) ((u_mis (by omega)).trans (eqT_cell he (by decide) 0 0 7)) g.2.2⟩
/-- no run, behind a telling -/
theorem JR_off {S : Nat → Nat → Nat → Nat → Prop} {a b : Nat → Nat → Int32} {M N : sm_M} {B B' : Nat} (h : frw S M N) (hS : ∀ c p j i, S c p j i → ¬ (c = 0 ∨ c = 6 ∨ (c = 10 ∧ p = 0 ∧ (30 ≤ j ∨ (j = 0 ∧ 38 ≤ i ∧ i ≤ 40))))) (hB : B ≤ B') (o1 : N.1 3 0 0 5 = 0) (o2 : N.1 10 0 0 24 = 0) (r : JR a M B) : JR b N B' := by
  obtain ⟨_, r2, mk, m1, m2, m3⟩ := r
  have e := fun c p j i (z : c = 0 ∨ c = 6 ∨ (c = 10 ∧ p = 0 ∧ (30 ≤ j ∨ (j = 0 ∧ 38 ≤ i ∧ i ≤ 40)))) => h c p j i (fun y => hS c p j i y z)
  exact ⟨Or.inl ⟨o1, o2⟩, ⟨RD_fr r2.1 (e 6 0 0 1 (by decide)) (fun i => e 6 0 1 i (by omega)) (e 10 0 0 40 (by decide)) (fun i => e 10 0 42 i (by omega)), VK_c r2.2 (fun p j i => e 0 p j i (by omega)) (fun j i hj => e 10 0 j i (by omega))⟩, mk, by omega, (e 6 0 0 2 (by decide)).trans m2, (e 10 0 0 39 (by decide)).trans m3⟩
