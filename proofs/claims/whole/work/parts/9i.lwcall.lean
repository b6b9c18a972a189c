/-! LEVEL B: the law's calls, what they throw, and what they answer -/
theorem r0_i {o : Option sm_R} {K : sm_M → Option sm_R} {r : sm_R} (h : sm_r0 o K = some r) : ∃ M, K M = some r := by
  unfold sm_r0 at h
  split at h
  · exact ⟨_, h⟩
  · cases h
theorem r1_i {o : Option sm_R} {K : Int32 → sm_M → Option sm_R} {r : sm_R} (h : sm_r1 o K = some r) : ∃ x M, K x M = some r := by
  unfold sm_r1 at h
  split at h
  · exact ⟨_, _, h⟩
  · cases h
theorem r3_i {c : Nat} {o : Option sm_R} {K : Nat → sm_M → Option sm_R} {r : sm_R} (h : sm_r3 c o K = some r) : ∃ x M, K x M = some r := by
  unfold sm_r3 at h
  split at h
  · rename_i c' p M
    cases hb : Nat.beq c' c with
    | false => rw [hb] at h; cases h
    | true => rw [hb] at h; exact ⟨_, _, h⟩
  · cases h
theorem GI_m {a : Nat → Nat → Int32} {M : sm_M} {B B' : Nat} (g : GI a M B) (h : B ≤ B') : GI a M B' := ⟨g.1, JR_fr (S := fun _ _ _ _ => False) frS_r (fun _ _ _ _ z => z.elim) h g.2.1, g.2.2⟩
theorem GSM_m {dC : Option sm_R} {dR : sm_M → Option sm_R} {mp : Nat → Int32} {B B' : Nat} (g : GSM dC dR mp B) (h : B ≤ B') : GSM dC dR mp B' := by
  obtain ⟨e, x, M1, h1, h2⟩ := g
  refine ⟨e, x, M1, h1, fun N hN => ?_⟩
  obtain ⟨y, N1, k1, k2, k3, b, k4⟩ := h2 N hN
  exact ⟨y, N1, k1, k2, k3, b, GI_m k4 h⟩
/-- what a call that answers shows in the law -/
def foW (w : Nat × Nat × List Nat) (x : Int32) : Int64 := match w.2.1 with
  | 0 => x.toInt64
  | _ => if x = 0 then 0 else 1
theorem LB_call {dC : Option sm_R} {dR : sm_M → Option sm_R} {mp : Nat → Int32} {B : Nat} (w : Nat × Nat × List Nat) (g : GSM dC dR mp B) (h0 : mp 0 = 0) (hmp : ∀ e v M, dC = some (e + 1, v, M) → mp (e + 1) = nI (w.2.2.getD e 0) ∧ ¬ nI (w.2.2.getD e 0) = 0) (hfr : ∀ N r, dR N = some r → r.2.2.2 30 = N.2 30) :
    ∃ x2 M1 y N1, sm_wr1 w (some (.inr (.inr (30, 0, 1)))) dC = some (0, .inl x2, M1) ∧ dR M1 = some (0, .inl y, N1) ∧ N1.1 10 0 0 0 = x2 ∧ (x2 = 0 → N1.2 30 0 1 0 = foW w y) ∧ ∃ b, GI b N1 B := by
  obtain ⟨e, x, Mc, h1, h2⟩ := g
  cases e with
  | zero =>
    obtain ⟨y, N1, k1, k2, k3, k4⟩ := h2 (sm_w Mc 30 0 1 0 (foW w x)) (fun c hc => ⟨rfl, by
      funext p j i
      rw [w_2, if_neg (fun z => by omega)]⟩)
    refine ⟨0, _, y, N1, by rw [h1]; rfl, k1, k2.trans h0, fun _ => ?_, k4⟩
    have e30 := hfr _ _ k1
    dsimp only at e30
    rw [e30, w_2, if_pos ⟨rfl, rfl, rfl, rfl⟩, k3 rfl]
  | succ e =>
    obtain ⟨m1, m2⟩ := hmp e _ _ h1
    obtain ⟨y, N1, k1, k2, k3, k4⟩ := h2 Mc (fun _ _ => ⟨rfl, rfl⟩)
    exact ⟨_, Mc, y, N1, by rw [h1]; rfl, k1, k2.trans m1, fun z => absurd z m2, k4⟩
theorem mod_30 {sc : Nat × (Nat → Int32)} {m : Nat} {vs : List sm_v} {M : sm_M} {r : sm_R} (hm : m < 263) (h2 : 177 ≤ m) (hv : fr_s fr_Sm vs) (h : dn sc m 0 vs [] M = some r) : r.2.2.2 30 = M.2 30 :=
  ((fr_mod (sc := sc) (b := 0) (M := M) hm h2 hv fr_s_nil r h).2 30 (by decide)).2

theorem E_Lw_step (sc : Nat × (Nat → Int32)) (M : sm_M) (p1 : Int32) (p2 : Int32) (p3 : Int32) (p4 : Int32) : dn sc kLaw_step 0 [.inr (.inr (9, 0, 0)), .inl p1, .inl p2, .inl p3, .inl p4, .inr (.inr (30, 0, 1))] [] M = sm_wr1 (kTop_step, 0, [1, 2, 3]) (some (.inr (.inr (30, 0, 1)))) (dn sc kTop_step 0 [.inr (.inr (9, 0, 0)), .inl p1, .inl p2, .inl p3, .inl p4] [] M) := by
  show sm_den (lt_P sc) kLaw_step 0 _ [] M = _
  rw [sm_den_eq]
  rfl
theorem ex_step {sc : Nat × (Nat → Int32)} {M : sm_M} {p1 : Int32} {p2 : Int32} {p3 : Int32} {p4 : Int32} {r : sm_R} (h : dn sc kTop_step 0 [.inr (.inr (9, 0, 0)), .inl p1, .inl p2, .inl p3, .inl p4] [] M = some r) : r.1 = 0 ∨ r.1 = 1 ∨ r.1 = 2 ∨ r.1 = 3 := by
  rw [E_Top_step_0] at h
  rcases r1_i h with ⟨_, _, h⟩
  try dsimp only at h
  split at h
  · cases h
    exact Or.inr (Or.inl rfl)
  · rcases r1_i h with ⟨_, _, h⟩
    try dsimp only at h
    split at h
    · cases h
      exact Or.inr (Or.inr (Or.inl rfl))
    · split at h
      · rcases r1_i h with ⟨_, _, h⟩
        try dsimp only at h
        split at h
        · rcases r1_i h with ⟨_, _, h⟩
          try dsimp only at h
          split at h
          · rcases r1_i h with ⟨_, _, h⟩
            try dsimp only at h
            cases h
            exact Or.inl rfl
          · cases h
            exact Or.inr (Or.inr (Or.inr (rfl)))
        · cases h
          exact Or.inr (Or.inr (Or.inr (rfl)))
      · cases h
theorem E_Lw_channel (sc : Nat × (Nat → Int32)) (M : sm_M) (p1 : Int32) (p2 : Int32) (p3 : Int32) : dn sc kLaw_channel 0 [.inr (.inr (9, 0, 0)), .inl p1, .inl p2, .inl p3, .inr (.inr (30, 0, 1))] [] M = sm_wr1 (kTop_channel, 0, [1, 2, 3]) (some (.inr (.inr (30, 0, 1)))) (dn sc kTop_channel 0 [.inr (.inr (9, 0, 0)), .inl p1, .inl p2, .inl p3] [] M) := by
  show sm_den (lt_P sc) kLaw_channel 0 _ [] M = _
  rw [sm_den_eq]
  rfl
theorem ex_channel {sc : Nat × (Nat → Int32)} {M : sm_M} {p1 : Int32} {p2 : Int32} {p3 : Int32} {r : sm_R} (h : dn sc kTop_channel 0 [.inr (.inr (9, 0, 0)), .inl p1, .inl p2, .inl p3] [] M = some r) : r.1 = 0 ∨ r.1 = 1 ∨ r.1 = 2 ∨ r.1 = 3 := by
  rw [E_Top_channel_0] at h
  rcases r1_i h with ⟨_, _, h⟩
  try dsimp only at h
  split at h
  · cases h
    exact Or.inr (Or.inl rfl)
  · rcases r1_i h with ⟨_, _, h⟩
    try dsimp only at h
    split at h
    · cases h
      exact Or.inr (Or.inl rfl)
    · rcases r1_i h with ⟨_, _, h⟩
      try dsimp only at h
      split at h
      · cases h
        exact Or.inr (Or.inl rfl)
      · split at h
        · cases h
          exact Or.inr (Or.inr (Or.inl rfl))
        · rcases r1_i h with ⟨_, _, h⟩
          try dsimp only at h
          split at h
          · split at h
            · rcases r1_i h with ⟨_, _, h⟩
              try dsimp only at h
              split at h
              · cases h
                exact Or.inr (Or.inr (Or.inr (rfl)))
              · rcases r0_i h with ⟨_, h⟩
                try dsimp only at h
                rcases r0_i h with ⟨_, h⟩
                try dsimp only at h
                rcases r1_i h with ⟨_, _, h⟩
                try dsimp only at h
                cases h
                exact Or.inl rfl
            · cases h
          · cases h
            exact Or.inr (Or.inr (Or.inr (rfl)))
theorem E_Lw_op (sc : Nat × (Nat → Int32)) (M : sm_M) (p1 : Int32) (p2 : Int32) (p3 : Int32) (p4 : Int32) : dn sc kLaw_op 0 [.inr (.inr (9, 0, 0)), .inl p1, .inl p2, .inl p3, .inl p4, .inr (.inr (30, 0, 1))] [] M = sm_wr1 (kTop_op, 0, [1, 2, 3]) (some (.inr (.inr (30, 0, 1)))) (dn sc kTop_op 0 [.inr (.inr (9, 0, 0)), .inl p1, .inl p2, .inl p3, .inl p4] [] M) := by
  show sm_den (lt_P sc) kLaw_op 0 _ [] M = _
  rw [sm_den_eq]
  rfl
theorem ex_op {sc : Nat × (Nat → Int32)} {M : sm_M} {p1 : Int32} {p2 : Int32} {p3 : Int32} {p4 : Int32} {r : sm_R} (h : dn sc kTop_op 0 [.inr (.inr (9, 0, 0)), .inl p1, .inl p2, .inl p3, .inl p4] [] M = some r) : r.1 = 0 ∨ r.1 = 1 ∨ r.1 = 2 ∨ r.1 = 3 := by
  rw [E_Top_op_0] at h
  rcases r1_i h with ⟨_, _, h⟩
  try dsimp only at h
  split at h
  · cases h
    exact Or.inr (Or.inl rfl)
  · rcases r1_i h with ⟨_, _, h⟩
    try dsimp only at h
    split at h
    · cases h
      exact Or.inr (Or.inr (Or.inl rfl))
    · split at h
      · rcases r1_i h with ⟨_, _, h⟩
        try dsimp only at h
        split at h
        · rcases r0_i h with ⟨_, h⟩
          try dsimp only at h
          rcases r1_i h with ⟨_, _, h⟩
          try dsimp only at h
          cases h
          exact Or.inl rfl
        · cases h
          exact Or.inr (Or.inr (Or.inr (rfl)))
      · cases h
theorem E_Lw_unop (sc : Nat × (Nat → Int32)) (M : sm_M) (p1 : Int32) : dn sc kLaw_unop 0 [.inr (.inr (9, 0, 0)), .inl p1, .inr (.inr (30, 0, 1))] [] M = sm_wr1 (kTop_unop, 0, [1, 0, 2]) (some (.inr (.inr (30, 0, 1)))) (dn sc kTop_unop 0 [.inr (.inr (9, 0, 0)), .inl p1] [] M) := by
  show sm_den (lt_P sc) kLaw_unop 0 _ [] M = _
  rw [sm_den_eq]
  rfl
theorem ex_unop {sc : Nat × (Nat → Int32)} {M : sm_M} {p1 : Int32} {r : sm_R} (h : dn sc kTop_unop 0 [.inr (.inr (9, 0, 0)), .inl p1] [] M = some r) : r.1 = 0 ∨ r.1 = 1 ∨ r.1 = 3 := by
  rw [E_Top_unop_0] at h
  rcases r1_i h with ⟨_, _, h⟩
  try dsimp only at h
  split at h
  · cases h
    exact Or.inr (Or.inl rfl)
  · split at h
    · rcases r1_i h with ⟨_, _, h⟩
      try dsimp only at h
      split at h
      · cases h
        exact Or.inr (Or.inr (rfl))
      · rcases r0_i h with ⟨_, h⟩
        try dsimp only at h
        rcases r1_i h with ⟨_, _, h⟩
        try dsimp only at h
        cases h
        exact Or.inl rfl
    · cases h
theorem E_Lw_check (sc : Nat × (Nat → Int32)) (M : sm_M) (p1 : Int32) : dn sc kLaw_check 0 [.inr (.inr (9, 0, 0)), .inl p1, .inr (.inr (30, 0, 1))] [] M = sm_wr1 (kTop_check, 0, [1, 0, 0]) (some (.inr (.inr (30, 0, 1)))) (dn sc kTop_check 0 [.inr (.inr (9, 0, 0)), .inl p1] [] M) := by
  show sm_den (lt_P sc) kLaw_check 0 _ [] M = _
  rw [sm_den_eq]
  rfl
theorem ex_check {sc : Nat × (Nat → Int32)} {M : sm_M} {p1 : Int32} {r : sm_R} (h : dn sc kTop_check 0 [.inr (.inr (9, 0, 0)), .inl p1] [] M = some r) : r.1 = 0 ∨ r.1 = 1 := by
  rw [E_Top_check_0] at h
  rcases r1_i h with ⟨_, _, h⟩
  try dsimp only at h
  split at h
  · cases h
    exact Or.inr (rfl)
  · split at h
    · rcases r3_i h with ⟨_, _, h⟩
      try dsimp only at h
      rcases r1_i h with ⟨_, _, h⟩
      try dsimp only at h
      cases h
      exact Or.inl rfl
    · cases h
theorem E_Lw_error (sc : Nat × (Nat → Int32)) (M : sm_M) (p1 : Int32) : dn sc kLaw_error 0 [.inr (.inr (9, 0, 0)), .inl p1, .inr (.inr (30, 0, 1))] [] M = sm_wr1 (kTop_error, 0, [1, 0, 0]) (some (.inr (.inr (30, 0, 1)))) (dn sc kTop_error 0 [.inr (.inr (9, 0, 0)), .inl p1] [] M) := by
  show sm_den (lt_P sc) kLaw_error 0 _ [] M = _
  rw [sm_den_eq]
  rfl
theorem ex_error {sc : Nat × (Nat → Int32)} {M : sm_M} {p1 : Int32} {r : sm_R} (h : dn sc kTop_error 0 [.inr (.inr (9, 0, 0)), .inl p1] [] M = some r) : r.1 = 0 ∨ r.1 = 1 := by
  rw [E_Top_error_0] at h
  rcases r1_i h with ⟨_, _, h⟩
  try dsimp only at h
  split at h
  · cases h
    exact Or.inr (rfl)
  · split at h
    · rcases r3_i h with ⟨_, _, h⟩
      try dsimp only at h
      rcases r1_i h with ⟨_, _, h⟩
      try dsimp only at h
      cases h
      exact Or.inl rfl
    · cases h
theorem E_Lw_borrower (sc : Nat × (Nat → Int32)) (M : sm_M) (p1 : Int32) : dn sc kLaw_borrower 0 [.inr (.inr (9, 0, 0)), .inl p1, .inr (.inr (30, 0, 1))] [] M = sm_wr1 (kTop_borrower, 0, [1, 0, 2]) (some (.inr (.inr (30, 0, 1)))) (dn sc kTop_borrower 0 [.inr (.inr (9, 0, 0)), .inl p1] [] M) := by
  show sm_den (lt_P sc) kLaw_borrower 0 _ [] M = _
  rw [sm_den_eq]
  rfl
theorem ex_borrower {sc : Nat × (Nat → Int32)} {M : sm_M} {p1 : Int32} {r : sm_R} (h : dn sc kTop_borrower 0 [.inr (.inr (9, 0, 0)), .inl p1] [] M = some r) : r.1 = 0 ∨ r.1 = 1 ∨ r.1 = 3 := by
  rw [E_Top_borrower_0] at h
  rcases r1_i h with ⟨_, _, h⟩
  try dsimp only at h
  split at h
  · cases h
    exact Or.inr (Or.inl rfl)
  · split at h
    · rcases r3_i h with ⟨_, _, h⟩
      try dsimp only at h
      rcases r1_i h with ⟨_, _, h⟩
      try dsimp only at h
      split at h
      · rcases r1_i h with ⟨_, _, h⟩
        try dsimp only at h
        cases h
        exact Or.inl rfl
      · cases h
        exact Or.inr (Or.inr (rfl))
    · cases h
theorem E_Lw_holds (sc : Nat × (Nat → Int32)) (M : sm_M) (p1 : Int32) (p2 : Int32) (p3 : Int32) : dn sc kLaw_holds 0 [.inr (.inr (9, 0, 0)), .inl p1, .inl p2, .inl p3, .inr (.inr (30, 0, 1))] [] M = sm_wr1 (kTop_holds, 0, [1, 0, 0]) (some (.inr (.inr (30, 0, 1)))) (dn sc kTop_holds 0 [.inr (.inr (9, 0, 0)), .inl p1, .inl p2, .inl p3] [] M) := by
  show sm_den (lt_P sc) kLaw_holds 0 _ [] M = _
  rw [sm_den_eq]
  rfl
theorem ex_holds {sc : Nat × (Nat → Int32)} {M : sm_M} {p1 : Int32} {p2 : Int32} {p3 : Int32} {r : sm_R} (h : dn sc kTop_holds 0 [.inr (.inr (9, 0, 0)), .inl p1, .inl p2, .inl p3] [] M = some r) : r.1 = 0 ∨ r.1 = 1 := by
  rw [E_Top_holds_0] at h
  rcases r1_i h with ⟨_, _, h⟩
  try dsimp only at h
  split at h
  · cases h
    exact Or.inr (rfl)
  · rcases r1_i h with ⟨_, _, h⟩
    try dsimp only at h
    split at h
    · cases h
      exact Or.inr (rfl)
    · split at h
      · rcases r3_i h with ⟨_, _, h⟩
        try dsimp only at h
        rcases r1_i h with ⟨_, _, h⟩
        try dsimp only at h
        split at h
        · cases h
          exact Or.inl rfl
        · rcases r1_i h with ⟨_, _, h⟩
          try dsimp only at h
          cases h
          exact Or.inl rfl
      · cases h
theorem E_Lw_at (sc : Nat × (Nat → Int32)) (M : sm_M) (p1 : Int32) (p2 : Int32) (p3 : Int32) : dn sc kLaw_at 0 [.inr (.inr (9, 0, 0)), .inl p1, .inl p2, .inl p3, .inr (.inr (30, 0, 1))] [] M = sm_wr1 (kTop_at, 0, [1, 0, 0]) (some (.inr (.inr (30, 0, 1)))) (dn sc kTop_at 0 [.inr (.inr (9, 0, 0)), .inl p1, .inl p2, .inl p3] [] M) := by
  show sm_den (lt_P sc) kLaw_at 0 _ [] M = _
  rw [sm_den_eq]
  rfl
theorem ex_at {sc : Nat × (Nat → Int32)} {M : sm_M} {p1 : Int32} {p2 : Int32} {p3 : Int32} {r : sm_R} (h : dn sc kTop_at 0 [.inr (.inr (9, 0, 0)), .inl p1, .inl p2, .inl p3] [] M = some r) : r.1 = 0 ∨ r.1 = 1 := by
  rw [E_Top_at_0] at h
  rcases r1_i h with ⟨_, _, h⟩
  try dsimp only at h
  split at h
  · cases h
    exact Or.inr (rfl)
  · rcases r1_i h with ⟨_, _, h⟩
    try dsimp only at h
    rcases r1_i h with ⟨_, _, h⟩
    try dsimp only at h
    split at h
    · cases h
      exact Or.inr (rfl)
    · split at h
      · rcases r3_i h with ⟨_, _, h⟩
        try dsimp only at h
        rcases r1_i h with ⟨_, _, h⟩
        try dsimp only at h
        split at h
        · cases h
          exact Or.inl rfl
        · rcases r1_i h with ⟨_, _, h⟩
          try dsimp only at h
          cases h
          exact Or.inl rfl
      · cases h
theorem E_Lw_lives (sc : Nat × (Nat → Int32)) (M : sm_M) (p1 : Int32) (p2 : Int32) : dn sc kLaw_lives 0 [.inr (.inr (9, 0, 0)), .inl p1, .inl p2, .inr (.inr (30, 0, 1))] [] M = sm_wr1 (kTop_lives, 0, [1, 0, 0]) (some (.inr (.inr (30, 0, 1)))) (dn sc kTop_lives 0 [.inr (.inr (9, 0, 0)), .inl p1, .inl p2] [] M) := by
  show sm_den (lt_P sc) kLaw_lives 0 _ [] M = _
  rw [sm_den_eq]
  rfl
theorem ex_lives {sc : Nat × (Nat → Int32)} {M : sm_M} {p1 : Int32} {p2 : Int32} {r : sm_R} (h : dn sc kTop_lives 0 [.inr (.inr (9, 0, 0)), .inl p1, .inl p2] [] M = some r) : r.1 = 0 ∨ r.1 = 1 := by
  rw [E_Top_lives_0] at h
  rcases r1_i h with ⟨_, _, h⟩
  try dsimp only at h
  split at h
  · cases h
    exact Or.inr (rfl)
  · split at h
    · rcases r3_i h with ⟨_, _, h⟩
      try dsimp only at h
      rcases r1_i h with ⟨_, _, h⟩
      try dsimp only at h
      cases h
      exact Or.inl rfl
    · cases h
theorem E_Lw_stuck (sc : Nat × (Nat → Int32)) (M : sm_M) : dn sc kLaw_stuck 0 [.inr (.inr (9, 0, 0)), .inr (.inr (30, 0, 1))] [] M = sm_wr1 (kTop_stuck, 0, [0, 0, 1]) (some (.inr (.inr (30, 0, 1)))) (dn sc kTop_stuck 0 [.inr (.inr (9, 0, 0))] [] M) := by
  show sm_den (lt_P sc) kLaw_stuck 0 _ [] M = _
  rw [sm_den_eq]
  rfl
theorem ex_stuck1 {sc : Nat × (Nat → Int32)} {r : sm_R} : ∀ n i (M : sm_M), i + n = 3 → dn sc kTop_stuck 1 [.inr (.inr (9, 0, 0)), .inl (nI i)] [] M = some r → r.1 = 0 ∨ r.1 = 3 := by
  intro n
  induction n with
  | zero =>
    intro i M hi h
    obtain rfl : i = 3 := by omega
    rw [E_Top_stuck_1, if_neg (by decide)] at h
    rcases r1_i h with ⟨_, _, h⟩
    cases h
    exact Or.inl rfl
  | succ n ih =>
    intro i M hi h
    rw [E_Top_stuck_1, nI_1, if_pos (show nI i < 3 by rw [show (3 : Int32) = nI 3 from rfl, i_lt (by omega) (by decide)]; omega)] at h
    split at h
    · rcases r3_i h with ⟨_, _, h⟩
      rcases r1_i h with ⟨_, _, h⟩
      split at h
      · exact ih (i + 1) _ (by omega) h
      · cases h
        exact Or.inr rfl
    · cases h
theorem ex_stuck {sc : Nat × (Nat → Int32)} {M : sm_M} {r : sm_R} (h : dn sc kTop_stuck 0 [.inr (.inr (9, 0, 0))] [] M = some r) : r.1 = 0 ∨ r.1 = 3 := by
  rw [E_Top_stuck_0] at h
  exact ex_stuck1 3 0 M (by decide) h
theorem E_Lw_run (sc : Nat × (Nat → Int32)) (M : sm_M) (p1 : Int32) (p2 : Int32) : dn sc kLaw_run 0 [.inr (.inr (9, 0, 0)), .inl p1, .inl p2, .inr (.inr (30, 0, 1))] [] M = sm_wr1 (kTop_run, 0, [0, 1, 2]) (some (.inr (.inr (30, 0, 1)))) (dn sc kTop_run 0 [.inr (.inr (9, 0, 0)), .inl p1, .inl p2] [] M) := by
  show sm_den (lt_P sc) kLaw_run 0 _ [] M = _
  rw [sm_den_eq]
  rfl
theorem ex_run {sc : Nat × (Nat → Int32)} {M : sm_M} {p1 : Int32} {p2 : Int32} {r : sm_R} (h : dn sc kTop_run 0 [.inr (.inr (9, 0, 0)), .inl p1, .inl p2] [] M = some r) : r.1 = 0 ∨ r.1 = 2 ∨ r.1 = 3 := by
  rw [E_Top_run_0] at h
  split at h
  · cases h
    exact Or.inr (Or.inl rfl)
  · split at h
    · cases h
      exact Or.inr (Or.inl rfl)
    · rcases r1_i h with ⟨_, _, h⟩
      try dsimp only at h
      split at h
      · cases h
        exact Or.inr (Or.inr (rfl))
      · rcases r1_i h with ⟨_, _, h⟩
        try dsimp only at h
        cases h
        exact Or.inl rfl
theorem E_Lw_state (sc : Nat × (Nat → Int32)) (M : sm_M) (p1 : Int32) : dn sc kLaw_state 0 [.inr (.inr (9, 0, 0)), .inl p1, .inr (.inr (30, 0, 1))] [] M = sm_wr1 (kTop_state, 0, [1, 0, 2]) (some (.inr (.inr (30, 0, 1)))) (dn sc kTop_state 0 [.inr (.inr (9, 0, 0)), .inl p1] [] M) := by
  show sm_den (lt_P sc) kLaw_state 0 _ [] M = _
  rw [sm_den_eq]
  rfl
theorem ex_state {sc : Nat × (Nat → Int32)} {M : sm_M} {p1 : Int32} {r : sm_R} (h : dn sc kTop_state 0 [.inr (.inr (9, 0, 0)), .inl p1] [] M = some r) : r.1 = 0 ∨ r.1 = 1 ∨ r.1 = 3 := by
  rw [E_Top_state_0] at h
  rcases r1_i h with ⟨_, _, h⟩
  try dsimp only at h
  split at h
  · cases h
    exact Or.inr (Or.inl rfl)
  · rcases r1_i h with ⟨_, _, h⟩
    try dsimp only at h
    split at h
    · cases h
      exact Or.inr (Or.inr (rfl))
    · rcases r3_i h with ⟨_, _, h⟩
      try dsimp only at h
      rcases r1_i h with ⟨_, _, h⟩
      try dsimp only at h
      cases h
      exact Or.inl rfl
theorem E_Lw_fault (sc : Nat × (Nat → Int32)) (M : sm_M) (p1 : Int32) : dn sc kLaw_fault 0 [.inr (.inr (9, 0, 0)), .inl p1, .inr (.inr (30, 0, 1))] [] M = sm_wr1 (kTop_fault, 0, [1, 0, 2]) (some (.inr (.inr (30, 0, 1)))) (dn sc kTop_fault 0 [.inr (.inr (9, 0, 0)), .inl p1] [] M) := by
  show sm_den (lt_P sc) kLaw_fault 0 _ [] M = _
  rw [sm_den_eq]
  rfl
theorem ex_fault {sc : Nat × (Nat → Int32)} {M : sm_M} {p1 : Int32} {r : sm_R} (h : dn sc kTop_fault 0 [.inr (.inr (9, 0, 0)), .inl p1] [] M = some r) : r.1 = 0 ∨ r.1 = 1 ∨ r.1 = 3 := by
  rw [E_Top_fault_0] at h
  rcases r1_i h with ⟨_, _, h⟩
  try dsimp only at h
  split at h
  · cases h
    exact Or.inr (Or.inl rfl)
  · rcases r1_i h with ⟨_, _, h⟩
    try dsimp only at h
    split at h
    · cases h
      exact Or.inr (Or.inr (rfl))
    · rcases r3_i h with ⟨_, _, h⟩
      try dsimp only at h
      rcases r1_i h with ⟨_, _, h⟩
      try dsimp only at h
      cases h
      exact Or.inl rfl
theorem E_Lw_place (sc : Nat × (Nat → Int32)) (M : sm_M) (p1 : Int32) : dn sc kLaw_place 0 [.inr (.inr (9, 0, 0)), .inl p1, .inr (.inr (30, 0, 1))] [] M = sm_wr1 (kTop_place, 0, [1, 0, 2]) (some (.inr (.inr (30, 0, 1)))) (dn sc kTop_place 0 [.inr (.inr (9, 0, 0)), .inl p1] [] M) := by
  show sm_den (lt_P sc) kLaw_place 0 _ [] M = _
  rw [sm_den_eq]
  rfl
theorem ex_place {sc : Nat × (Nat → Int32)} {M : sm_M} {p1 : Int32} {r : sm_R} (h : dn sc kTop_place 0 [.inr (.inr (9, 0, 0)), .inl p1] [] M = some r) : r.1 = 0 ∨ r.1 = 1 ∨ r.1 = 3 := by
  rw [E_Top_place_0] at h
  rcases r1_i h with ⟨_, _, h⟩
  try dsimp only at h
  split at h
  · cases h
    exact Or.inr (Or.inl rfl)
  · rcases r1_i h with ⟨_, _, h⟩
    try dsimp only at h
    split at h
    · cases h
      exact Or.inr (Or.inr (rfl))
    · rcases r3_i h with ⟨_, _, h⟩
      try dsimp only at h
      rcases r1_i h with ⟨_, _, h⟩
      try dsimp only at h
      cases h
      exact Or.inl rfl
theorem E_Lw_value (sc : Nat × (Nat → Int32)) (M : sm_M) (p1 : Int32) (p2 : Int32) : dn sc kLaw_value 0 [.inr (.inr (9, 0, 0)), .inl p1, .inl p2, .inr (.inr (30, 0, 1))] [] M = sm_wr1 (kTop_value, 0, [1, 0, 2]) (some (.inr (.inr (30, 0, 1)))) (dn sc kTop_value 0 [.inr (.inr (9, 0, 0)), .inl p1, .inl p2] [] M) := by
  show sm_den (lt_P sc) kLaw_value 0 _ [] M = _
  rw [sm_den_eq]
  rfl
theorem ex_value {sc : Nat × (Nat → Int32)} {M : sm_M} {p1 : Int32} {p2 : Int32} {r : sm_R} (h : dn sc kTop_value 0 [.inr (.inr (9, 0, 0)), .inl p1, .inl p2] [] M = some r) : r.1 = 0 ∨ r.1 = 1 ∨ r.1 = 3 := by
  rw [E_Top_value_0] at h
  rcases r1_i h with ⟨_, _, h⟩
  try dsimp only at h
  split at h
  · cases h
    exact Or.inr (Or.inl rfl)
  · rcases r1_i h with ⟨_, _, h⟩
    try dsimp only at h
    split at h
    · cases h
      exact Or.inr (Or.inl rfl)
    · rcases r1_i h with ⟨_, _, h⟩
      try dsimp only at h
      split at h
      · cases h
        exact Or.inr (Or.inr (rfl))
      · rcases r3_i h with ⟨_, _, h⟩
        try dsimp only at h
        rcases r1_i h with ⟨_, _, h⟩
        try dsimp only at h
        cases h
        exact Or.inl rfl
theorem E_Lw_waiting (sc : Nat × (Nat → Int32)) (M : sm_M) (p1 : Int32) (p2 : Int32) : dn sc kLaw_waiting 0 [.inr (.inr (9, 0, 0)), .inl p1, .inl p2, .inr (.inr (30, 0, 1))] [] M = sm_wr1 (kTop_waiting, 0, [1, 0, 2]) (some (.inr (.inr (30, 0, 1)))) (dn sc kTop_waiting 0 [.inr (.inr (9, 0, 0)), .inl p1, .inl p2] [] M) := by
  show sm_den (lt_P sc) kLaw_waiting 0 _ [] M = _
  rw [sm_den_eq]
  rfl
theorem ex_waiting {sc : Nat × (Nat → Int32)} {M : sm_M} {p1 : Int32} {p2 : Int32} {r : sm_R} (h : dn sc kTop_waiting 0 [.inr (.inr (9, 0, 0)), .inl p1, .inl p2] [] M = some r) : r.1 = 0 ∨ r.1 = 1 ∨ r.1 = 3 := by
  rw [E_Top_waiting_0] at h
  rcases r1_i h with ⟨_, _, h⟩
  try dsimp only at h
  split at h
  · cases h
    exact Or.inr (Or.inl rfl)
  · rcases r1_i h with ⟨_, _, h⟩
    try dsimp only at h
    split at h
    · cases h
      exact Or.inr (Or.inl rfl)
    · rcases r1_i h with ⟨_, _, h⟩
      try dsimp only at h
      split at h
      · cases h
        exact Or.inr (Or.inr (rfl))
      · rcases r1_i h with ⟨_, _, h⟩
        try dsimp only at h
        cases h
        exact Or.inl rfl
theorem E_Lw_dropped (sc : Nat × (Nat → Int32)) (M : sm_M) (p1 : Int32) : dn sc kLaw_dropped 0 [.inr (.inr (9, 0, 0)), .inl p1, .inr (.inr (30, 0, 1))] [] M = sm_wr1 (kTop_dropped, 0, [1, 0, 0]) (some (.inr (.inr (30, 0, 1)))) (dn sc kTop_dropped 0 [.inr (.inr (9, 0, 0)), .inl p1] [] M) := by
  show sm_den (lt_P sc) kLaw_dropped 0 _ [] M = _
  rw [sm_den_eq]
  rfl
theorem ex_dropped {sc : Nat × (Nat → Int32)} {M : sm_M} {p1 : Int32} {r : sm_R} (h : dn sc kTop_dropped 0 [.inr (.inr (9, 0, 0)), .inl p1] [] M = some r) : r.1 = 0 ∨ r.1 = 1 := by
  rw [E_Top_dropped_0] at h
  rcases r3_i h with ⟨_, _, h⟩
  try dsimp only at h
  rcases r1_i h with ⟨_, _, h⟩
  try dsimp only at h
  rcases r1_i h with ⟨_, _, h⟩
  try dsimp only at h
  split at h
  · cases h
    exact Or.inr (rfl)
  · rcases r3_i h with ⟨_, _, h⟩
    try dsimp only at h
    rcases r1_i h with ⟨_, _, h⟩
    try dsimp only at h
    cases h
    exact Or.inl rfl
theorem E_Lw_go (sc : Nat × (Nat → Int32)) (M : sm_M) (p1 : Int32) (p2 : Int32) : dn sc kLaw_go 0 [.inr (.inr (9, 0, 0)), .inl p1, .inl p2, .inr (.inr (30, 0, 1))] [] M = sm_wr1 (kTop_go, 1, [1, 0, 2]) (some (.inr (.inr (30, 0, 1)))) (dn sc kTop_go 0 [.inr (.inr (9, 0, 0)), .inl p1, .inl p2] [] M) := by
  show sm_den (lt_P sc) kLaw_go 0 _ [] M = _
  rw [sm_den_eq]
  rfl
theorem ex_go {sc : Nat × (Nat → Int32)} {M : sm_M} {p1 : Int32} {p2 : Int32} {r : sm_R} (h : dn sc kTop_go 0 [.inr (.inr (9, 0, 0)), .inl p1, .inl p2] [] M = some r) : r.1 = 0 ∨ r.1 = 1 ∨ r.1 = 3 := by
  rw [E_Top_go_0] at h
  rcases r1_i h with ⟨_, _, h⟩
  try dsimp only at h
  split at h
  · cases h
    exact Or.inr (Or.inl rfl)
  · rcases r1_i h with ⟨_, _, h⟩
    try dsimp only at h
    split at h
    · cases h
      exact Or.inr (Or.inr (rfl))
    · rcases r3_i h with ⟨_, _, h⟩
      try dsimp only at h
      rcases r1_i h with ⟨_, _, h⟩
      try dsimp only at h
      split at h
      · rcases r1_i h with ⟨_, _, h⟩
        try dsimp only at h
        split at h
        · cases h
          exact Or.inl rfl
        · split at h
          · cases h
            exact Or.inl rfl
          · cases h
      · cases h
        exact Or.inr (Or.inr (rfl))
theorem ex_made {sc : Nat × (Nat → Int32)} {M : sm_M} {r : sm_R} (h : dn sc kTop_made 0 [.inr (.inr (9, 0, 0))] [] M = some r) : r.1 = 0 := by
  rw [E_Top_made_0] at h
  rcases r3_i h with ⟨_, _, h⟩
  try dsimp only at h
  rcases r1_i h with ⟨_, _, h⟩
  try dsimp only at h
  cases h
  rfl
theorem ex_drops {sc : Nat × (Nat → Int32)} {M : sm_M} {r : sm_R} (h : dn sc kTop_drops 0 [.inr (.inr (9, 0, 0))] [] M = some r) : r.1 = 0 := by
  rw [E_Top_drops_0] at h
  rcases r3_i h with ⟨_, _, h⟩
  try dsimp only at h
  rcases r1_i h with ⟨_, _, h⟩
  try dsimp only at h
  cases h
  rfl
theorem ex_begin {sc : Nat × (Nat → Int32)} {M : sm_M} {r : sm_R} (h : dn sc kTop_begin 0 [.inr (.inr (9, 0, 0))] [] M = some r) : r.1 = 0 := by
  rw [E_Top_begin_0] at h
  rcases r0_i h with ⟨_, h⟩
  cases h
  rfl
