/-! LEVEL B: the run: the variables of a process, class and reference -/
/-- what a variable shares or has lent holds: by the reference's times -/
def hbP (h x s e l : Nat → Int32) (b v : Nat) : Prop := ∃ o, o < 6 ∧ h o = 1 ∧ x o = x v ∧ (h v = 2 → ¬ s v < e o) ∧ (h v = 3 → l o = nI (b + v))
def VR (h x k sc : Nat → Int32) (lap : Nat → Bool) (s e l : Nat → Int32) (b mk t tc : Nat) : Prop :=
  (∀ v, v < 6 → ∃ n, n < 4 ∧ h v = nI n) ∧ (∀ v, v < 6 → ¬ h v = 0 → ∃ y, y < mk ∧ x v = nI y) ∧
  (∀ v, v < 6 → h v = 1 → (∃ n, n < 3 ∧ k v = nI n) ∧ (∃ n, n ≤ tc ∧ sc v = nI n) ∧ (∃ n, n ≤ t ∧ s v = nI n) ∧ ∃ n, n ≤ t ∧ e v = nI n) ∧
  (∀ v, v < 6 → h v = 2 → ∃ n, n ≤ t ∧ s v = nI n) ∧
  (∀ v, v < 6 → (h v = 2 ∨ h v = 3) → (lap v = false ↔ hbP h x s e l b v)) ∧
  (∀ v w, v < 6 → w < 6 → h v = 1 → h w = 1 → (sc v < sc w ↔ s v < s w)) ∧
  (∀ v w, v < 6 → w < 6 → h v = 1 → h w = 1 → x v = x w → v = w)
theorem up_k {f : Nat → Int32} {a : Nat} {y : Int32} : upL f a y a = y := if_pos rfl
theorem up_o {f : Nat → Int32} {a v : Nat} {y : Int32} (h : ¬ v = a) : upL f a y v = f v := if_neg h
theorem i32_0 : ¬ (0 : Int32) = 1 ∧ ¬ (0 : Int32) = 2 ∧ ¬ (0 : Int32) = 3 ∧ ¬ (2 : Int32) = 1 ∧ ¬ (3 : Int32) = 1 ∧ ¬ (1 : Int32) = 2 ∧ ¬ (1 : Int32) = 3 ∧ ¬ (2 : Int32) = 3 ∧ ¬ (3 : Int32) = 2 := by decide
/-- a variable is vacated; also: what an owner has goes -/
theorem VR_vac {h x k sc : Nat → Int32} {lap lap' : Nat → Bool} {s e l : Nat → Int32} {b mk t tc a : Nat} (r : VR h x k sc lap s e l b mk t tc) (ha : a < 6)
    (hl : ∀ v, v < 6 → ¬ v = a → (lap' v = false ↔ (lap v = false ∧ ¬ (h a = 1 ∧ x v = x a ∧ (h v = 2 ∨ h v = 3))))) : VR (upL h a 0) x k sc lap' s e l b mk t tc := by
  obtain ⟨r1, r2, r3, r4, r5, r6, r7⟩ := r
  have ho : ∀ v, upL h a 0 v = 1 → ¬ v = a ∧ h v = 1 := by
    intro v hv
    by_cases z : v = a
    · rw [z, up_k] at hv; exact absurd hv i32_0.1
    · rw [up_o z] at hv; exact ⟨z, hv⟩
  refine ⟨fun v hv => ?_, fun v hv hn => ?_, fun v hv h1 => r3 v hv (ho v h1).2, fun v hv h2 => ?_, fun v hv h23 => ?_, fun v w hv hw h1 h2 => r6 v w hv hw (ho v h1).2 (ho w h2).2, fun v w hv hw h1 h2 => r7 v w hv hw (ho v h1).2 (ho w h2).2⟩
  · by_cases z : v = a
    · exact ⟨0, by decide, by rw [z, up_k]; rfl⟩
    · rw [up_o z]; exact r1 v hv
  · by_cases z : v = a
    · rw [z, up_k] at hn; exact absurd rfl hn
    · rw [up_o z] at hn; exact r2 v hv hn
  · by_cases z : v = a
    · rw [z, up_k] at h2; exact absurd h2 i32_0.2.1
    · rw [up_o z] at h2; exact r4 v hv h2
  · by_cases z : v = a
    · rw [z, up_k] at h23; exact absurd h23 (fun y => y.elim i32_0.2.1 i32_0.2.2.1)
    · rw [up_o z] at h23
      rw [hl v hv z, r5 v hv h23]
      unfold hbP
      rw [up_o z]
      refine ⟨fun ⟨⟨o, o1, o2, o3, o4, o5⟩, hn⟩ => ?_, fun ⟨o, o1, o2, o3, o4, o5⟩ => ⟨⟨o, o1, (ho o o2).2, o3, o4, o5⟩, fun ⟨y1, y2, _⟩ => (ho o o2).1 (r7 o a o1 ha (ho o o2).2 y1 (o3.trans y2))⟩⟩
      have : ¬ o = a := fun y => hn ⟨by rw [← y]; exact o2, by rw [← y]; exact o3.symm, h23⟩
      exact ⟨o, o1, by rw [up_o this]; exact o2, o3, o4, o5⟩
/-- a variable that has nothing owns a value that no other one owns -/
theorem VR_own {h x k sc : Nat → Int32} {lap : Nat → Bool} {s e l : Nat → Int32} {b mk t tc a y : Nat} {kd : Int32} (r : VR h x k sc lap s e l b mk t tc) (ha : a < 6) (h0 : h a = 0) (hy : y < mk) (hb : b + 6 < 100) (ht : t < 2000000) (htc : tc < 2000000) (hk : ∃ n, n < 3 ∧ kd = nI n) (hno : ∀ o, o < 6 → h o = 1 → ¬ x o = nI y) :
    VR (upL h a 1) (upL x a (nI y)) (upL k a kd) (upL sc a (nI (tc + 1))) lap (upL s a (nI (t + 1))) (upL e a (nI (t + 1))) (upL l a (-1)) b mk (t + 1) (tc + 1) := by
  obtain ⟨r1, r2, r3, r4, r5, r6, r7⟩ := r
  have lts : ∀ n, n ≤ t → nI n < nI (t + 1) := fun n hn => by rw [i_lt (by omega) (by omega)]; omega
  have ltc : ∀ n, n ≤ tc → nI n < nI (tc + 1) := fun n hn => by rw [i_lt (by omega) (by omega)]; omega
  have nlt : ∀ {n m : Nat}, n < 2147483648 → m < 2147483648 → n ≤ m → ¬ nI m < nI n := fun hn hm hle => by rw [i_lt hm hn]; omega
  refine ⟨fun v hv => ?_, fun v hv hn => ?_, fun v hv h1 => ?_, fun v hv h2 => ?_, fun v hv h23 => ?_, fun v w hv hw h1 h2 => ?_, fun v w hv hw h1 h2 hx => ?_⟩
  · by_cases z : v = a
    · exact ⟨1, by decide, by rw [z, up_k]; rfl⟩
    · rw [up_o z]; exact r1 v hv
  · by_cases z : v = a
    · rw [z, up_k]; exact ⟨y, hy, rfl⟩
    · rw [up_o z] at hn ⊢; exact r2 v hv hn
  · by_cases z : v = a
    · subst z
      rw [up_k, up_k, up_k, up_k]
      exact ⟨hk, ⟨_, Nat.le_refl _, rfl⟩, ⟨_, Nat.le_refl _, rfl⟩, ⟨_, Nat.le_refl _, rfl⟩⟩
    · rw [up_o z] at h1
      obtain ⟨a1, ⟨n2, b2, c2⟩, ⟨n3, b3, c3⟩, ⟨n4, b4, c4⟩⟩ := r3 v hv h1
      rw [up_o z, up_o z, up_o z, up_o z]
      exact ⟨a1, ⟨n2, by omega, c2⟩, ⟨n3, by omega, c3⟩, ⟨n4, by omega, c4⟩⟩
  · by_cases z : v = a
    · rw [z, up_k] at h2; exact absurd h2 i32_0.2.2.2.2.2.1
    · rw [up_o z] at h2
      obtain ⟨n, b1, c1⟩ := r4 v hv h2
      rw [up_o z]
      exact ⟨n, by omega, c1⟩
  · by_cases z : v = a
    · rw [z, up_k] at h23; exact absurd h23 (fun y => y.elim i32_0.2.2.2.2.2.1 i32_0.2.2.2.2.2.2.1)
    · rw [up_o z] at h23
      rw [r5 v hv h23]
      unfold hbP
      rw [up_o z, up_o z, up_o z]
      refine ⟨fun ⟨o, o1, o2, o3, o4, o5⟩ => ?_, fun ⟨o, o1, o2, o3, o4, o5⟩ => ?_⟩
      · have : ¬ o = a := fun y => by rw [y, h0] at o2; exact i32_0.1 o2
        exact ⟨o, o1, by rw [up_o this]; exact o2, by rw [up_o this]; exact o3, by rw [up_o this]; exact o4, by rw [up_o this]; exact o5⟩
      · by_cases q : o = a
        · exfalso
          subst q
          rw [up_k] at o4 o5
          rcases h23 with g | g
          · obtain ⟨n, b1, c1⟩ := r4 v hv g
            exact o4 g (by rw [c1]; exact lts n b1)
          · exact absurd (o5 g).symm ((by decide : ∀ n, n < 100 → ¬ nI n = -1) _ (by omega))
        · rw [up_o q] at o2 o3 o4 o5
          exact ⟨o, o1, o2, o3, o4, o5⟩
  · by_cases z : v = a
    · subst z
      rw [up_k, up_k]
      by_cases z2 : w = v
      · rw [z2, up_k, up_k]
        exact ⟨fun g => absurd g (nlt (by omega) (by omega) (Nat.le_refl _)), fun g => absurd g (nlt (by omega) (by omega) (Nat.le_refl _))⟩
      · rw [up_o z2] at h2
        rw [up_o z2, up_o z2]
        obtain ⟨_, ⟨n2, b2, c2⟩, ⟨n3, b3, c3⟩, _⟩ := r3 w hw h2
        rw [c2, c3]
        exact ⟨fun g => absurd g (nlt (by omega) (by omega) (by omega)), fun g => absurd g (nlt (by omega) (by omega) (by omega))⟩
    · rw [up_o z] at h1
      rw [up_o z, up_o z]
      by_cases z2 : w = a
      · subst z2
        rw [up_k, up_k]
        obtain ⟨_, ⟨n2, b2, c2⟩, ⟨n3, b3, c3⟩, _⟩ := r3 v hv h1
        rw [c2, c3]
        exact ⟨fun _ => lts n3 b3, fun _ => ltc n2 b2⟩
      · rw [up_o z2] at h2
        rw [up_o z2, up_o z2]
        exact r6 v w hv hw h1 h2
  · by_cases z : v = a
    · subst z
      by_cases z2 : w = v
      · exact z2.symm
      · rw [up_o z2] at h2
        rw [up_k, up_o z2] at hx
        exact absurd hx.symm (hno w hw h2)
    · rw [up_o z] at h1
      by_cases z2 : w = a
      · subst z2
        rw [up_k, up_o z] at hx
        exact absurd hx (hno v hv h1)
      · rw [up_o z2] at h2
        rw [up_o z, up_o z2] at hx
        exact r7 v w hv hw h1 h2 hx
/-- one more value is made -/
theorem VR_mk {h x k sc : Nat → Int32} {lap : Nat → Bool} {s e l : Nat → Int32} {b mk mk' t t' tc tc' : Nat} (r : VR h x k sc lap s e l b mk t tc) (hm : mk ≤ mk') (ht : t ≤ t') (htc : tc ≤ tc') : VR h x k sc lap s e l b mk' t' tc' := by
  obtain ⟨r1, r2, r3, r4, r5, r6, r7⟩ := r
  refine ⟨r1, fun v hv hn => ?_, fun v hv h1 => ?_, fun v hv h2 => ?_, r5, r6, r7⟩
  · obtain ⟨y, hy, e⟩ := r2 v hv hn
    exact ⟨y, by omega, e⟩
  · obtain ⟨a1, ⟨n2, b2, c2⟩, ⟨n3, b3, c3⟩, ⟨n4, b4, c4⟩⟩ := r3 v hv h1
    exact ⟨a1, ⟨n2, by omega, c2⟩, ⟨n3, by omega, c3⟩, ⟨n4, by omega, c4⟩⟩
  · obtain ⟨n, b1, c1⟩ := r4 v hv h2
    exact ⟨n, by omega, c1⟩
theorem nI_b {b v w : Nat} (hb : b + 6 < 100) (hv : v < 6) (hw : w < 6) (h : nI (b + v) = nI (b + w)) : v = w := by
  rw [i_eq (by omega) (by omega)] at h
  omega
/-- loans of a value end, but that to a user of it -/
theorem VR_read {h x k sc : Nat → Int32} {lap lap' : Nat → Bool} {s e l : Nat → Int32} {b mk t tc u o0 : Nat} {L : Int32} (r : VR h x k sc lap s e l b mk t tc) (hb : b + 6 < 100) (hu : u < 6) (ho : o0 < 6) (h1 : h o0 = 1) (hx : x o0 = x u)
    (hL : L = -1 ∨ L = nI (b + u)) (hL3 : h u = 3 → (L = nI (b + u) ↔ l o0 = nI (b + u))) (hl : ∀ v, v < 6 → (lap' v = false ↔ (lap v = false ∧ ¬ (¬ v = u ∧ h v = 3 ∧ x v = x u)))) : VR h x k sc lap' s e (upL l o0 L) b mk t tc := by
  obtain ⟨r1, r2, r3, r4, r5, r6, r7⟩ := r
  refine ⟨r1, r2, r3, r4, fun v hv h23 => ?_, r6, r7⟩
  rw [hl v hv, r5 v hv h23]
  unfold hbP
  rcases h23 with g | g
  · refine ⟨fun ⟨⟨o, o1, o2, o3, o4, _⟩, _⟩ => ⟨o, o1, o2, o3, o4, fun y => absurd (g.symm.trans y) i32_0.2.2.2.2.2.2.2.1⟩, fun ⟨o, o1, o2, o3, o4, _⟩ => ⟨⟨o, o1, o2, o3, o4, fun y => absurd (g.symm.trans y) i32_0.2.2.2.2.2.2.2.1⟩, fun y => absurd (g.symm.trans y.2.1) i32_0.2.2.2.2.2.2.2.1⟩⟩
  · have n2 : h v = 2 → False := fun y => i32_0.2.2.2.2.2.2.2.1 (y.symm.trans g)
    by_cases q : x v = x u
    · by_cases z : v = u
      · subst z
        have hh := hL3 g
        refine ⟨fun ⟨⟨o, o1, o2, o3, o4, o5⟩, _⟩ => ?_, fun ⟨o, o1, o2, o3, o4, o5⟩ => ⟨⟨o, o1, o2, o3, fun y => absurd (n2 y) id, fun _ => ?_⟩, fun y => y.1 rfl⟩⟩
        · have : o = o0 := r7 o o0 o1 ho o2 h1 (o3.trans hx.symm)
          subst this
          exact ⟨o, o1, o2, o3, o4, fun _ => by rw [up_k]; exact hh.mpr (o5 g)⟩
        · have : o = o0 := r7 o o0 o1 ho o2 h1 (o3.trans hx.symm)
          subst this
          have := o5 g
          rw [up_k] at this
          exact hh.mp this
      · refine ⟨fun y => absurd ⟨z, g, q⟩ y.2, fun ⟨o, o1, o2, o3, o4, o5⟩ => ?_⟩
        have : o = o0 := r7 o o0 o1 ho o2 h1 (o3.trans (q.trans hx.symm))
        subst this
        have h5 := o5 g
        rw [up_k] at h5
        rcases hL with y | y
        · rw [y] at h5
          exact absurd h5.symm ((by decide : ∀ n, n < 100 → ¬ nI n = -1) _ (by omega))
        · rw [y] at h5
          exact absurd (nI_b hb hu hv h5).symm z
    · have no : ∀ o, o < 6 → h o = 1 → x o = x v → ¬ o = o0 := fun o _ _ y3 y => q (by rw [← y3, y]; exact hx)
      refine ⟨fun ⟨⟨o, o1, o2, o3, o4, o5⟩, _⟩ => ⟨o, o1, o2, o3, o4, fun y => by rw [up_o (no o o1 o2 o3)]; exact o5 y⟩, fun ⟨o, o1, o2, o3, o4, o5⟩ => ⟨⟨o, o1, o2, o3, o4, fun y => by have := o5 y; rw [up_o (no o o1 o2 o3)] at this; exact this⟩, fun y => q y.2.2⟩⟩
/-- shares of an owner's value end, as it changes -/
theorem VR_chg {h x k sc : Nat → Int32} {lap lap' : Nat → Bool} {s e l : Nat → Int32} {b mk t tc o0 : Nat} (r : VR h x k sc lap s e l b mk t tc) (ho : o0 < 6) (h1 : h o0 = 1) (ht : t < 2000000)
    (hl : ∀ v, v < 6 → (lap' v = false ↔ (lap v = false ∧ ¬ (h v = 2 ∧ x v = x o0)))) : VR h x k sc lap' s (upL e o0 (nI (t + 1))) l b mk (t + 1) tc := by
  obtain ⟨r1, r2, r3, r4, r5, r6, r7⟩ := r
  refine ⟨r1, r2, fun v hv h1v => ?_, fun v hv h2 => ?_, fun v hv h23 => ?_, r6, r7⟩
  · obtain ⟨a1, a2, ⟨n3, b3, c3⟩, ⟨n4, b4, c4⟩⟩ := r3 v hv h1v
    refine ⟨a1, a2, ⟨n3, by omega, c3⟩, ?_⟩
    by_cases z : v = o0
    · exact ⟨t + 1, Nat.le_refl _, by rw [z, up_k]⟩
    · exact ⟨n4, by omega, by rw [up_o z]; exact c4⟩
  · obtain ⟨n, b1, c1⟩ := r4 v hv h2
    exact ⟨n, by omega, c1⟩
  · rw [hl v hv, r5 v hv h23]
    unfold hbP
    rcases h23 with g | g
    · by_cases q : x v = x o0
      · refine ⟨fun y => absurd ⟨g, q⟩ y.2, fun ⟨o, o1, o2, o3, o4, o5⟩ => ?_⟩
        have : o = o0 := r7 o o0 o1 ho o2 h1 (o3.trans q)
        subst this
        have h4 := o4 g
        rw [up_k] at h4
        obtain ⟨n, b1, c1⟩ := r4 v hv g
        exact absurd (show s v < nI (t + 1) by rw [c1, i_lt (by omega) (by omega)]; omega) h4
      · have no : ∀ o, o < 6 → h o = 1 → x o = x v → ¬ o = o0 := fun o _ _ y3 y => q (by rw [← y3, y])
        refine ⟨fun ⟨⟨o, o1, o2, o3, o4, o5⟩, _⟩ => ⟨o, o1, o2, o3, fun y => by rw [up_o (no o o1 o2 o3)]; exact o4 y, o5⟩, fun ⟨o, o1, o2, o3, o4, o5⟩ => ⟨⟨o, o1, o2, o3, fun y => by have := o4 y; rw [up_o (no o o1 o2 o3)] at this; exact this, o5⟩, fun y => q y.2⟩⟩
    · have n2 : h v = 2 → False := fun y => i32_0.2.2.2.2.2.2.2.1 (y.symm.trans g)
      refine ⟨fun ⟨⟨o, o1, o2, o3, _, o5⟩, _⟩ => ⟨o, o1, o2, o3, fun y => absurd (n2 y) id, o5⟩, fun ⟨o, o1, o2, o3, _, o5⟩ => ⟨⟨o, o1, o2, o3, fun y => absurd (n2 y) id, o5⟩, fun y => n2 y.1⟩⟩
/-- a variable that has nothing gets something that is no owner: what the others have stays -/
theorem VR_put {h x k sc : Nat → Int32} {lap lap' : Nat → Bool} {s s' e l l' : Nat → Int32} {b mk t t' tc a : Nat} {w y : Int32} (r : VR h x k sc lap s e l b mk t tc) (htt : t ≤ t') (h0 : h a = 0) (hw : w = 2 ∨ w = 3) (hy : ∃ n, n < mk ∧ y = nI n)
    (hs : ∀ v, v < 6 → ¬ v = a → s' v = s v) (hsa : w = 2 → ∃ n, n ≤ t' ∧ s' a = nI n) (hlo : ∀ v, v < 6 → ¬ v = a → lap' v = lap v)
    (hll : ∀ v o, v < 6 → o < 6 → ¬ v = a → h o = 1 → h v = 3 → x o = x v → (l' o = nI (b + v) ↔ l o = nI (b + v)))
    (hla : lap' a = false ↔ ∃ o, o < 6 ∧ h o = 1 ∧ x o = y ∧ (w = 2 → ¬ s' a < e o) ∧ (w = 3 → l' o = nI (b + a))) : VR (upL h a w) (upL x a y) k sc lap' s' e l' b mk t' tc := by
  obtain ⟨r1, r2, r3, r4, r5, r6, r7⟩ := r
  have w1 : ¬ w = 1 := by rcases hw with z | z <;> rw [z] <;> decide
  have ho : ∀ v, upL h a w v = 1 → ¬ v = a ∧ h v = 1 := by
    intro v hv
    by_cases z : v = a
    · rw [z, up_k] at hv; exact absurd hv w1
    · rw [up_o z] at hv; exact ⟨z, hv⟩
  have oa : ∀ o, h o = 1 → ¬ o = a := fun o g z => by rw [z, h0] at g; exact i32_0.1 g
  refine ⟨fun v hv => ?_, fun v hv hn => ?_, fun v hv h1 => ?_, fun v hv h2 => ?_, fun v hv h23 => ?_, fun v w' hv hw' h1 h2 => ?_, fun v w' hv hw' h1 h2 hx => ?_⟩
  · by_cases z : v = a
    · rw [z, up_k]
      rcases hw with g | g
      · exact ⟨2, by decide, g⟩
      · exact ⟨3, by decide, g⟩
    · rw [up_o z]; exact r1 v hv
  · by_cases z : v = a
    · rw [z, up_k]; exact hy
    · rw [up_o z] at hn ⊢; exact r2 v hv hn
  · obtain ⟨z, g⟩ := ho v h1
    obtain ⟨a1, a2, ⟨n3, b3, c3⟩, ⟨n4, b4, c4⟩⟩ := r3 v hv g
    exact ⟨a1, a2, ⟨n3, by omega, by rw [hs v hv z]; exact c3⟩, ⟨n4, by omega, c4⟩⟩
  · by_cases z : v = a
    · rw [z, up_k] at h2
      rw [z]
      exact hsa h2
    · rw [up_o z] at h2
      obtain ⟨n, b1, c1⟩ := r4 v hv h2
      exact ⟨n, by omega, by rw [hs v hv z]; exact c1⟩
  · by_cases z : v = a
    · rw [z] at h23 ⊢
      rw [hla]
      unfold hbP
      rw [up_k, up_k]
      refine ⟨fun ⟨o, o1, o2, o3, o4, o5⟩ => ⟨o, o1, by rw [up_o (oa o o2)]; exact o2, by rw [up_o (oa o o2)]; exact o3, o4, o5⟩, fun ⟨o, o1, o2, o3, o4, o5⟩ => ?_⟩
      obtain ⟨q, g⟩ := ho o o2
      rw [up_o q] at o3
      exact ⟨o, o1, g, o3, o4, o5⟩
    · rw [up_o z] at h23
      rw [hlo v hv z, r5 v hv h23]
      unfold hbP
      rw [up_o z, up_o z, hs v hv z]
      refine ⟨fun ⟨o, o1, o2, o3, o4, o5⟩ => ⟨o, o1, by rw [up_o (oa o o2)]; exact o2, by rw [up_o (oa o o2)]; exact o3, o4, fun g => (hll v o hv o1 z o2 g o3).mpr (o5 g)⟩, fun ⟨o, o1, o2, o3, o4, o5⟩ => ?_⟩
      obtain ⟨q, g⟩ := ho o o2
      rw [up_o q] at o3
      exact ⟨o, o1, g, o3, o4, fun g3 => (hll v o hv o1 z g g3 o3).mp (o5 g3)⟩
  · obtain ⟨z1, g1⟩ := ho v h1
    obtain ⟨z2, g2⟩ := ho w' h2
    rw [hs v hv z1, hs w' hw' z2]
    exact r6 v w' hv hw' g1 g2
  · obtain ⟨z1, g1⟩ := ho v h1
    obtain ⟨z2, g2⟩ := ho w' h2
    rw [up_o z1, up_o z2] at hx
    exact r7 v w' hv hw' g1 g2 hx
/-- a share of what an owner has -/
theorem VR_share {h x k sc : Nat → Int32} {lap lap' : Nat → Bool} {s e l : Nat → Int32} {b mk t tc a u : Nat} (r : VR h x k sc lap s e l b mk t tc) (ht : t < 2000000) (hu : u < 6) (h0 : h a = 0) (h1 : h u = 1) (hlo : ∀ v, v < 6 → ¬ v = a → lap' v = lap v) (hla : lap' a = false) :
    VR (upL h a 2) (upL x a (x u)) k sc lap' (upL s a (nI (t + 1))) e l b mk (t + 1) tc := by
  obtain ⟨_, _, _, n4, b4, c4⟩ := (r.2.2.1 u hu h1)
  refine VR_put r (by omega) h0 (Or.inl rfl) (r.2.1 u hu (by rw [h1]; decide)) (fun v _ z => up_o z) (fun _ => ⟨t + 1, Nat.le_refl _, up_k⟩) hlo (fun _ _ _ _ _ _ _ _ => Iff.rfl) ⟨fun _ => ⟨u, hu, h1, rfl, fun _ => ?_, fun y => absurd y i32_0.2.2.2.2.2.2.2.1⟩, fun _ => hla⟩
  rw [up_k, c4, i_lt (by omega) (by omega)]
  omega
/-- a share is copied -/
theorem VR_copy {h x k sc : Nat → Int32} {lap lap' : Nat → Bool} {s e l : Nat → Int32} {b mk t tc a u : Nat} (r : VR h x k sc lap s e l b mk t tc) (hu : u < 6) (h0 : h a = 0) (h2 : h u = 2) (hlo : ∀ v, v < 6 → ¬ v = a → lap' v = lap v) (hla : lap' a = lap u) :
    VR (upL h a 2) (upL x a (x u)) k sc lap' (upL s a (s u)) e l b mk t tc := by
  refine VR_put r (Nat.le_refl _) h0 (Or.inl rfl) (r.2.1 u hu (by rw [h2]; decide)) (fun v _ z => up_o z) (fun _ => by rw [up_k]; exact r.2.2.2.1 u hu h2) hlo (fun _ _ _ _ _ _ _ _ => Iff.rfl) ?_
  rw [hla, r.2.2.2.2.1 u hu (Or.inl h2), up_k]
  unfold hbP
  refine ⟨fun ⟨o, o1, o2, o3, o4, _⟩ => ⟨o, o1, o2, o3, fun _ => o4 h2, fun y => absurd y i32_0.2.2.2.2.2.2.2.1⟩, fun ⟨o, o1, o2, o3, o4, _⟩ => ⟨o, o1, o2, o3, fun _ => o4 rfl, fun y => absurd (h2.symm.trans y) i32_0.2.2.2.2.2.2.2.1⟩⟩
/-- what an owner has is lent -/
theorem VR_lend {h x k sc : Nat → Int32} {lap lap' : Nat → Bool} {s e l : Nat → Int32} {b mk t tc a u : Nat} (r : VR h x k sc lap s e l b mk t tc) (hb : b + 6 < 100) (ha : a < 6) (hu : u < 6) (h0 : h a = 0) (h1 : h u = 1) (hl : l u = -1) (hlo : ∀ v, v < 6 → ¬ v = a → lap' v = lap v) (hla : lap' a = false) :
    VR (upL h a 3) (upL x a (x u)) k sc lap' s e (upL l u (nI (b + a))) b mk t tc := by
  refine VR_put r (Nat.le_refl _) h0 (Or.inr rfl) (r.2.1 u hu (by rw [h1]; decide)) (fun v _ _ => rfl) (fun y => absurd y i32_0.2.2.2.2.2.2.2.2) hlo (fun v o hv ho z g _ gx => ?_) ⟨fun _ => ⟨u, hu, h1, rfl, fun y => absurd y i32_0.2.2.2.2.2.2.2.2, fun _ => up_k⟩, fun _ => hla⟩
  by_cases q : o = u
  · subst q
    rw [up_k, hl]
    exact ⟨fun y => absurd (nI_b hb ha hv y).symm z, fun y => absurd y.symm ((by decide : ∀ n, n < 100 → ¬ nI n = -1) _ (by omega))⟩
  · rw [up_o q]
/-- a loan goes to another variable -/
theorem VR_pass {h x k sc : Nat → Int32} {lap lap' : Nat → Bool} {s e l l' : Nat → Int32} {b mk t tc a u : Nat} (r : VR h x k sc lap s e l b mk t tc) (hb : b + 6 < 100) (ha : a < 6) (hu : u < 6) (hau : ¬ a = u) (h0 : h a = 0) (h3 : h u = 3) (ho : ∀ o, o < 6 → h o = 1 → x o = x u → l o = nI (b + u) ∧ l' o = nI (b + a)) (hn : ∀ o, o < 6 → ¬ (h o = 1 ∧ x o = x u) → l' o = l o)
    (hlo : ∀ v, v < 6 → ¬ v = a → lap' v = lap v) (hla : lap' a = lap u) : VR (upL (upL h a 3) u 0) (upL x a (x u)) k sc lap' (upL s a (s u)) e l' b mk t tc := by
  have r1 : VR (upL h a 3) (upL x a (x u)) k sc lap' (upL s a (s u)) e l' b mk t tc ∨ True := Or.inr trivial
  have oa : ∀ o, h o = 1 → ¬ o = a := fun o g z => by rw [z, h0] at g; exact i32_0.1 g
  have ou : ∀ o, h o = 1 → ¬ o = u := fun o g z => by rw [z, h3] at g; exact i32_0.2.2.2.2.1 g
  -- first the old one goes, then the new one comes
  have r0 : VR (upL h u 0) x k sc lap s e l b mk t tc := VR_vac r hu (fun v _ _ => ⟨fun g => ⟨g, fun y => i32_0.2.2.2.2.1 (h3.symm.trans y.1)⟩, fun g => g.1⟩)
  have eh : upL (upL h a 3) u 0 = upL (upL h u 0) a 3 := by
    funext v
    unfold upL
    by_cases z : v = u
    · rw [if_pos z, if_neg (fun y => hau (y.symm.trans z)), if_pos z]
    · rw [if_neg z, if_neg z]
  rw [eh]
  refine VR_put r0 (Nat.le_refl _) (by rw [up_o hau]; exact h0) (Or.inr rfl) (r.2.1 u hu (by rw [h3]; decide)) (fun v _ z => up_o z) (fun y => absurd y i32_0.2.2.2.2.2.2.2.2) hlo (fun v o hv ho' z g g3 gx => ?_) ?_
  · have hou : ¬ o = u := fun y => by rw [y, up_k] at g; exact i32_0.1 g
    have hvu : ¬ v = u := fun y => by rw [y, up_k] at g3; exact i32_0.2.2.1 g3
    rw [up_o hou] at g
    by_cases q : x o = x u
    · obtain ⟨y1, y2⟩ := ho o ho' g q
      rw [y1, y2]
      exact ⟨fun y => absurd (nI_b hb ha hv y).symm z, fun y => absurd (nI_b hb hu hv y).symm hvu⟩
    · rw [hn o ho' (fun y => q y.2)]
  · rw [hla, r.2.2.2.2.1 u hu (Or.inr h3)]
    unfold hbP
    refine ⟨fun ⟨o, o1, o2, o3, _, _⟩ => ⟨o, o1, by rw [up_o (ou o o2)]; exact o2, o3, fun y => absurd y i32_0.2.2.2.2.2.2.2.2, fun _ => (ho o o1 o2 o3).2⟩, fun ⟨o, o1, o2, o3, _, _⟩ => ?_⟩
    have hou : ¬ o = u := fun y => by rw [y, up_k] at o2; exact i32_0.1 o2
    rw [up_o hou] at o2
    exact ⟨o, o1, o2, o3, fun y => absurd (y.symm.trans h3) i32_0.2.2.2.2.2.2.2.1, fun _ => (ho o o1 o2 o3).1⟩
