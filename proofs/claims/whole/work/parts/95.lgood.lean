/-! LEVEL B: layouts: without errors what can be come to stays good -/
theorem fsR_no {P : Nat → Bool} : ∀ {k i : Nat}, i + k < 2147483648 → fsR k i P = -1 → ∀ m, i ≤ m → m < i + k → P m = false := by
  intro k
  induction k with
  | zero => intro i _ _ m h1 h2; omega
  | succ k ih =>
    intro i hb h m h1 h2
    rw [fsR_s] at h
    by_cases z : P i = true
    · rw [if_pos z] at h
      have := congrArg Int32.toInt h
      rw [nI_toInt (by omega), show (-1 : Int32).toInt = -1 from rfl] at this
      omega
    · rw [if_neg z] at h
      by_cases q : m = i
      · subst q
        cases e : P m with
        | false => rfl
        | true => exact absurd e z
      · exact ih (by omega) h m (by omega) (by omega)
/-- a process without an error -/
def ok1 (a : Nat → Nat → Int32) (p : Nat) : Prop := kS a p (cS a p) ∧ cO a p = -1
theorem ne_0 {a : Nat → Nat → Int32} (wf : wfA a) {p o : Nat} (hp : p < 3) (k : ok1 a p) (ho : o ≤ onA a p) (hc : (cS a p).1 o = true) : cE a p o = 0 := by
  have h16 := on16 wf hp
  have h := fsR_no (by omega) k.2 o (Nat.zero_le _) (by omega)
  unfold hasE at h
  rw [hc, Bool.true_and, Bool.not_eq_false', decide_eq_true_eq] at h
  exact h
theorem er_u {a : Nat → Nat → Int32} {p o : Nat} {v : Nat → Int32} {lb : Int32} (h : erE a p o v lb = 0) : unB v = false := by
  unfold erE at h
  by_cases z : unB v = true
  · rw [if_pos z] at h; exact absurd h (by decide)
  · cases e : unB v with
    | false => rfl
    | true => exact absurd e z
theorem er_t {a : Nat → Nat → Int32} {p o : Nat} {v : Nat → Int32} {lb : Int32} (h : erE a p o v lb = 0) (ho : ¬ (o = onA a p ∨ opW a p o = 13)) (hn : ¬ ndK (opW a p o) = -1) : tF a p o v = true := by
  have hu := er_u h
  unfold erE at h
  rw [hu, if_neg (show ¬ false = true by decide), if_neg ho] at h
  cases e : tF a p o v with
  | true => rfl
  | false =>
    exfalso
    rw [e] at h
    split at h
    · exact absurd h (by decide)
    split at h
    · exact absurd h (by decide)
    split at h
    · exact absurd h (by decide)
    split at h
    · exact absurd h (by decide)
    rw [if_pos ⟨hn, rfl⟩] at h
    exact absurd h (by decide)
theorem ne_c {a : Nat → Nat → Int32} (wf : wfA a) {p o c : Nat} (hp : p < 3) (k : ok1 a p) (ho : o ≤ onA a p) (hc : (cS a p).1 o = true) (h : ofA a c p = true) : ∃ s, s < pnA a (prA a c) ∧ s < 8 ∧ (cS a p).2 o (6 + c) = nI s := by
  have h16 := on16 wf hp
  have ok := k.1.2.2 o (by omega) hc
  have h0 := er_u (ne_0 wf hp k ho hc)
  obtain ⟨c1, c3, _⟩ := of_c wf h
  obtain ⟨_, _, _, w10, _⟩ := wf.2.2.2.2 c c1
  have h8 := (wf.1 _ w10).2.1
  rcases (ok.2 c c3).1 h with z | ⟨s, s1, s2⟩
  · exfalso
    unfold unB at h0
    have := anR_f h0 (6 + c) (by omega) (by omega)
    rw [decide_eq_false_iff_not, if_neg (by omega)] at this
    exact this z
  · exact ⟨s, s1, by omega, s2⟩
theorem ne_t {a : Nat → Nat → Int32} (wf : wfA a) {p o : Nat} (hp : p < 3) (k : ok1 a p) (ho : o < onA a p) (hc : (cS a p).1 o = true) (h13 : ¬ opW a p o = 13) (hn : ¬ ndK (opW a p o) = -1) : tF a p o ((cS a p).2 o) = true :=
  er_t (ne_0 wf hp k (by omega) hc) (fun z => z.elim (by omega) h13) hn
theorem mv {a : Nat → Nat → Int32} (wf : wfA a) {p o : Nat} {b : Bool} (hp : p < 3) (k : ok1 a p) (ho : o < onA a p) (hc : (cS a p).1 o = true) (h13 : ¬ opW a p o = 13) (hb : b = true → otO a p o) :
    (cS a p).1 (nxO a p o b) = true ∧ ∀ c, ofA a c p = true → (cS a p).2 (nxO a p o b) (6 + c) = trF a p o (bN b) ((cS a p).2 o) (6 + c) := by
  obtain ⟨e1, e2⟩ := k.1.1.2.2 o ho hc h13
  have e : edF a p (cS a p) o b := by
    cases b with
    | false => exact e1
    | true => exact e2 (hb rfl)
  refine ⟨e.1, fun c h => ?_⟩
  obtain ⟨c1, c3, _⟩ := of_c wf h
  have l := e.2 (6 + c) (by omega)
  rw [le9_s (by omega)] at l
  rcases l with z | z
  · exact z.symm
  · obtain ⟨s, s1, s2, s3⟩ := ne_c wf hp k nxO_le e.1 h
    rw [s3] at z
    have := congrArg Int32.toInt z
    rw [nI_toInt (by omega), show (-2 : Int32).toInt = -2 from rfl] at this
    omega
noncomputable def mgL (a : Nat → Nat → Int32) (p o : Nat) : Nat := if opW a p o = 7 then 1 + kdN a (xN a p o) ((cS a p).2 o (6 + xN a p o)).toNatClampNeg else 4 + yN a p o
/-- the queue to which an op sends, and that from which it takes -/
def tQ (a : Nat → Nat → Int32) (p o : Nat) : Nat := 3 + qN a (xN a p o) (oN a (xN a p o) p)
def fQ (a : Nat → Nat → Int32) (p o : Nat) : Nat := 3 + qN a (xN a p o) p
/-- the layout behind a process's next op, by a way -/
noncomputable def nxL (a : Nat → Nat → Int32) (h : Nat → Nat) (p w : Nat) : Option (Nat → Nat) :=
  if ¬ h p / 32 = 0 then none
  else if ¬ h p % 32 < onA a p ∨ opW a p (h p % 32) = 13 then (if w = 1 then none else some (up h p (h p + 32)))
  else if w = 1 ∧ ¬ opW a p (h p % 32) = 11 then none
  else if opW a p (h p % 32) = 7 ∨ opW a p (h p % 32) = 9 then (if ¬ h (tQ a p (h p % 32)) / 8 = 0 then none else some (up (up h (tQ a p (h p % 32)) (apQ (h (tQ a p (h p % 32))) (mgL a p (h p % 32)))) p (nxO a p (h p % 32) false)))
  else if opW a p (h p % 32) = 8 ∨ opW a p (h p % 32) = 10 then (if h (fQ a p (h p % 32)) % 8 = 0 then none else some (up (up h (fQ a p (h p % 32)) (h (fQ a p (h p % 32)) / 8)) p (nxO a p (h p % 32) (decide (opW a p (h p % 32) = 10 ∧ h (fQ a p (h p % 32)) % 8 = 5)))))
  else some (up h p (nxO a p (h p % 32) (decide (w = 1))))
/-- what changes one place, and one channel's queues -/
theorem Gd_g {a : Nat → Nat → Int32} (wf : wfA a) {h h' : Nat → Nat} {p c0 : Nat} (g : Gd a h) (hq : ∀ q, q < 3 → ¬ q = p → h' q = h q) (hp : h' p < 64 ∧ h' p % 32 ≤ onA a p ∧ (cS a p).1 (h' p % 32) = true) (hk : ∀ k, k < 6 → ¬ k / 2 = c0 → h' (3 + k) = h (3 + k)) (hw : ∀ k, k < 6 → wfq (h' (3 + k))) (hs : ∀ c, ¬ c = c0 → ofA a c p = true → stN a h' p c = stN a h p c) (h0 : (c0 < cnA a ∧ Qs a c0 h') ∨ c0 = 3) : Gd a h' := by
  have h3 := wf.2.2.2.1
  refine ⟨fun q hq3 => ?_, hw, fun c hc => ?_, fun c hc c3 => ?_⟩
  · by_cases z : q = p
    · subst z; exact hp
    · rw [hq q hq3 z]; exact g.1 q hq3
  · by_cases z : c = c0
    · subst z
      exact (h0.resolve_right (by omega)).2
    · obtain ⟨_, _, _, _, wl, wr, wn, _⟩ := wf.2.2.2.2 c hc
      have st : ∀ q, q < 3 → ofA a c q = true → stN a h' q c = stN a h q c := by
        intro q q3 o
        by_cases y : q = p
        · subst y; exact hs c z o
        · unfold stN; rw [hq q q3 y]
      have ol : ofA a c (lA a c) = true := by unfold ofA; rw [decide_eq_true hc, decide_eq_true rfl]; rfl
      have or' : ofA a c (rA a c) = true := by unfold ofA; rw [decide_eq_true hc, decide_eq_true (show rA a c = rA a c from rfl), Bool.or_true]; rfl
      have x := g.2.2.1 c hc
      unfold Qs QQ at x ⊢
      rw [qN_l, qN_r wn] at x ⊢
      rw [st _ wl ol, st _ wr or', hk (2 * c) (by omega) (by omega), hk (2 * c + 1) (by omega) (by omega)]
      exact x
  · have z : ¬ c = c0 := fun z => by
      rcases h0 with y | y
      · omega
      · omega
    rw [hk (2 * c) (by omega) (by omega), hk (2 * c + 1) (by omega) (by omega)]
    exact g.2.2.2 c hc c3
theorem Gd_0 {a : Nat → Nat → Int32} (wf : wfA a) (ok : ∀ p, p < 3 → ok1 a p) : Gd a (fun _ => 0) := by
  have st : ∀ p c, p < 3 → ofA a c p = true → (cS a p).2 0 (6 + c) = 0 := by
    intro p c hp o
    obtain ⟨_, c3, _⟩ := of_c wf o
    have l := (ok p hp).1.1.2.1 (6 + c) (by omega)
    rw [le9_s (by omega)] at l
    unfold inV at l
    rw [if_pos (Or.inr (by rw [show 6 + c - 6 = c by omega]; exact o))] at l
    rcases l with z | z
    · exact z.symm
    · obtain ⟨s, _, s2, s3⟩ := ne_c wf hp (ok p hp) (Nat.zero_le _) (ok p hp).1.1.1 o
      rw [s3] at z
      have := congrArg Int32.toInt z
      rw [nI_toInt (by omega), show (-2 : Int32).toInt = -2 from rfl] at this
      omega
  refine ⟨fun p hp => ⟨(by decide : 0 < 64), Nat.zero_le _, (ok p hp).1.1.1⟩, fun k _ => ⟨fun _ => rfl, (by decide : 0 % 8 ≤ 5), (by decide : 0 / 8 ≤ 5)⟩, fun c hc => ?_, fun _ _ _ => ⟨rfl, rfl⟩⟩
  obtain ⟨_, _, _, _, wl, wr, wn, _⟩ := wf.2.2.2.2 c hc
  have ol : ofA a c (lA a c) = true := by unfold ofA; rw [decide_eq_true hc, decide_eq_true rfl]; rfl
  have or' : ofA a c (rA a c) = true := by unfold ofA; rw [decide_eq_true hc, decide_eq_true (show rA a c = rA a c from rfl), Bool.or_true]; rfl
  refine Or.inl ⟨rfl, ?_⟩
  unfold pth
  rw [if_pos rfl]
  unfold stN
  dsimp only
  rw [show 0 % 32 = 0 from rfl, st _ c wl ol, st _ c wr or']
