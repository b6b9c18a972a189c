/-! LEVEL B: the ops of a process of the class -/
/-- a process's ops in the class: n of them, W what, X and Y its a and b -/
def rK (M : sm_M) (p n : Nat) (W X Y : Nat → Int32) : Prop := M.1 2 p 0 3 = nI n ∧ n ≤ 16 ∧ ∀ i, i < n → M.1 2 p 1 i = W i ∧ M.1 2 p 2 i = X i ∧ M.1 2 p 3 i = Y i
def whK (n : Nat) (W : Nat → Int32) (i : Nat) : Int32 := if i < n then W i else 13
def abK (n : Nat) (X : Nat → Int32) (i : Nat) : Int32 := if i < n then X i else -1
def tgK (w x y : Int32) : Int32 := if w = 0 ∨ w = 1 ∨ w = 5 ∨ w = 6 then x else if w = 8 then y else -1
def usK (w x y : Int32) : Int32 := if w = 1 ∨ w = 5 ∨ w = 6 ∨ w = 7 then y else if w = 2 ∨ w = 3 ∨ w = 4 then x else -1
def ndK (w : Int32) : Int32 := if w = 7 then 0 else if w = 8 then 1 else if w = 9 then 2 else if w = 10 then 3 else -1
def chK (w x : Int32) : Int32 := if ndK w = -1 then -1 else x
theorem P_kWhat {sc : Nat × (Nat → Int32)} {M : sm_M} {p n : Nat} {W X Y : Nat → Int32} (r : rK M p n W X Y) {i : Nat} (hi : i < 2147483648) : dn sc kCode_whatAt 0 [.inr (.inr (2, p, 0)), .inl (nI i)] [] M = some (0, .inl (whK n W i), M) := by
  obtain ⟨h, hn, r⟩ := r
  rw [E_Code_whatAt_0, if_neg (nI_pos hi), h]
  unfold whK
  by_cases q : i < n
  · rw [if_pos (by rw [i_lt hi (by omega)]; exact q), i_ib (show i < 16 by omega) (by decide), if_pos rfl, i_cl hi, if_pos q, (r i q).1]
  · rw [if_neg (by rw [i_lt hi (by omega)]; exact q), if_neg q]
theorem P_kA {sc : Nat × (Nat → Int32)} {M : sm_M} {p n : Nat} {W X Y : Nat → Int32} (r : rK M p n W X Y) {i : Nat} (hi : i < 2147483648) : dn sc kCode_aAt 0 [.inr (.inr (2, p, 0)), .inl (nI i)] [] M = some (0, .inl (abK n X i), M) := by
  obtain ⟨h, hn, r⟩ := r
  rw [E_Code_aAt_0, if_neg (nI_pos hi), h]
  unfold abK
  by_cases q : i < n
  · rw [if_pos (by rw [i_lt hi (by omega)]; exact q), i_ib (show i < 16 by omega) (by decide), if_pos rfl, i_cl hi, if_pos q, (r i q).2.1]
  · rw [if_neg (by rw [i_lt hi (by omega)]; exact q), if_neg q]
theorem P_kB {sc : Nat × (Nat → Int32)} {M : sm_M} {p n : Nat} {W X Y : Nat → Int32} (r : rK M p n W X Y) {i : Nat} (hi : i < 2147483648) : dn sc kCode_bAt 0 [.inr (.inr (2, p, 0)), .inl (nI i)] [] M = some (0, .inl (abK n Y i), M) := by
  obtain ⟨h, hn, r⟩ := r
  rw [E_Code_bAt_0, if_neg (nI_pos hi), h]
  unfold abK
  by_cases q : i < n
  · rw [if_pos (by rw [i_lt hi (by omega)]; exact q), i_ib (show i < 16 by omega) (by decide), if_pos rfl, i_cl hi, if_pos q, (r i q).2.2]
  · rw [if_neg (by rw [i_lt hi (by omega)]; exact q), if_neg q]
theorem P_kTarget {sc : Nat × (Nat → Int32)} {M : sm_M} {p n : Nat} {W X Y : Nat → Int32} (r : rK M p n W X Y) {i : Nat} (hi : i < 2147483648) : dn sc kCode_targetAt 0 [.inr (.inr (2, p, 0)), .inl (nI i)] [] M = some (0, .inl (tgK (whK n W i) (abK n X i) (abK n Y i)), M) := by
  simp only [E_Code_targetAt_0, P_kWhat r hi, r1_s, P_kA r hi, P_kB r hi]
  generalize whK n W i = w
  unfold tgK
  repeat' split
  all_goals first
    | rfl
    | (exfalso; simp_all)
theorem P_kUsed {sc : Nat × (Nat → Int32)} {M : sm_M} {p n : Nat} {W X Y : Nat → Int32} (r : rK M p n W X Y) {i : Nat} (hi : i < 2147483648) : dn sc kCode_usedAt 0 [.inr (.inr (2, p, 0)), .inl (nI i)] [] M = some (0, .inl (usK (whK n W i) (abK n X i) (abK n Y i)), M) := by
  simp only [E_Code_usedAt_0, P_kWhat r hi, r1_s, P_kA r hi, P_kB r hi]
  generalize whK n W i = w
  unfold usK
  repeat' split
  all_goals first
    | rfl
    | (exfalso; simp_all)
theorem P_kNeeded (sc : Nat × (Nat → Int32)) (M : sm_M) (w : Int32) : dn sc kCode_stepNeeded 0 [.inl w] [] M = some (0, .inl (ndK w), M) := by
  rw [E_Code_stepNeeded_0]
  unfold ndK
  repeat' split
  all_goals rfl
theorem P_kChannel {sc : Nat × (Nat → Int32)} {M : sm_M} {p n : Nat} {W X Y : Nat → Int32} (r : rK M p n W X Y) {i : Nat} (hi : i < 2147483648) : dn sc kCode_channelAt 0 [.inr (.inr (2, p, 0)), .inl (nI i)] [] M = some (0, .inl (chK (whK n W i) (abK n X i)), M) := by
  simp only [E_Code_channelAt_0, P_kWhat r hi, r1_s, P_kA r hi, P_kNeeded]
  unfold chK
  split <;> rfl
theorem P_kAfter {sc : Nat × (Nat → Int32)} {M : sm_M} {p n : Nat} {W X Y : Nat → Int32} (r : rK M p n W X Y) {i : Nat} (hi : i ≤ 16) : dn sc kCode_after 0 [.inr (.inr (2, p, 0)), .inl (nI i)] [] M = some (0, .inl (nI (if i + 1 < n then i + 1 else n)), M) := by
  have hn := r.2.1
  rw [E_Code_after_0, r.1, nI_1]
  by_cases q : n < i + 1
  · rw [if_pos (by rw [i_lt (by omega) (by omega)]; exact q), if_neg (by omega)]
  · rw [if_neg (by rw [i_lt (by omega) (by omega)]; exact q)]
    by_cases q2 : i + 1 < n
    · rw [if_pos q2]
    · rw [if_neg q2, show i + 1 = n by omega]
/-- where an op goes on by its b -/
def jmK (n : Nat) (Y : Nat → Int32) (i : Nat) : Int32 := if wN (abK n Y i) (nI n) = true then abK n Y i else nI n
theorem P_kJump {sc : Nat × (Nat → Int32)} {M : sm_M} {p n : Nat} {W X Y : Nat → Int32} (r : rK M p n W X Y) {i : Nat} (hi : i < 2147483648) : dn sc kCode_jumpOf 0 [.inr (.inr (2, p, 0)), .inl (nI i)] [] M = some (0, .inl (jmK n Y i), M) := by
  have h := r.1
  simp only [E_Code_jumpOf_0, r1_s, P_kB r hi, h]
  unfold jmK wN
  generalize abK n Y i = y
  by_cases q : y < 0
  · rw [if_pos q, decide_eq_true q]; rfl
  · rw [if_neg q, decide_eq_false q]
    by_cases q2 : y < nI n
    · rw [if_pos q2, decide_eq_true q2]; rfl
    · rw [if_neg q2, decide_eq_false q2]; rfl
theorem P_kFull {sc : Nat × (Nat → Int32)} {M : sm_M} {p n : Nat} {W X Y : Nat → Int32} (r : rK M p n W X Y) : dn sc kCode_isFull 0 [.inr (.inr (2, p, 0))] [] M = some (0, .inl (bI (decide (n = 16))), M) := by
  have hn := r.2.1
  rw [E_Code_isFull_0, ite_0, r.1]
  have h2 : (!decide (nI n < 16)) = decide (n = 16) := by
    rw [← decide_not]
    refine decide_eq_decide.mpr ?_
    rw [show (16 : Int32) = nI 16 from rfl, i_lt (by omega) (by decide)]
    omega
  rw [h2]
theorem P_kSize {sc : Nat × (Nat → Int32)} {M : sm_M} {p n : Nat} {W X Y : Nat → Int32} (r : rK M p n W X Y) : dn sc kCode_size 0 [.inr (.inr (2, p, 0))] [] M = some (0, .inl (nI n), M) := by
  rw [E_Code_size_0, r.1]
theorem P_kAdd {sc : Nat × (Nat → Int32)} {M : sm_M} {p n : Nat} {W X Y : Nat → Int32} (r : rK M p n W X Y) (hn : n < 16) (w a b : Int32) : dn sc kCode_add 0 [.inr (.inr (2, p, 0)), .inl w, .inl a, .inl b] [] M = some (0, .inl (nI n), sm_u (sm_u (sm_u (sm_u M 2 p 1 n w) 2 p 2 n a) 2 p 3 n b) 2 p 0 3 (nI (n + 1))) := by
  have h := r.1
  rw [E_Code_add_0, P_kFull r, r1_s, decide_eq_false (show ¬ n = 16 by omega), bI_f]
  simp only [u_1, h, i_ib hn (by decide), i_cl (show n < 2147483648 by omega), nI_1, if_true, and_true, and_false, if_false, true_and, false_and, Nat.reduceEqDiff, nI_pred]
theorem P_kLast {sc : Nat × (Nat → Int32)} {M : sm_M} {p n : Nat} {W X Y : Nat → Int32} (r : rK M p (n + 1) W X Y) : dn sc kCode_removeLast 0 [.inr (.inr (2, p, 0))] [] M = some (0, .inl (nI n), sm_u M 2 p 0 3 (nI n)) := by
  have h := r.1
  have hn := r.2.1
  rw [E_Code_removeLast_0, h, show (0 : Int32) = nI 0 from rfl, if_pos (by rw [i_lt (by omega) (by omega)]; omega), nI_pred, u_1, if_pos ⟨rfl, rfl, rfl, rfl⟩]
/-- what an op may be -/
def okO (w a b : Int32) : Bool := if w = 0 then wN a 6 && wN b 3 else if w = 1 then wN a 6 && wN b 6 else if w = 2 ∨ w = 3 ∨ w = 4 then wN a 6 else if w = 5 ∨ w = 6 then wN a 6 && wN b 6 && !decide (a = b) else if w = 7 ∨ w = 8 then wN a 3 && wN b 6 else if w = 9 then wN a 3 && wN b 2 else if w = 10 then wN a 3 && wN b 16 else if w = 11 ∨ w = 12 then wN b 16 else decide (w = 13)
theorem P_kAllows12 (sc : Nat × (Nat → Int32)) (M : sm_M) (a b : Int32) : dn sc kCode_allows 12 [.inl a, .inl b] [] M = some (0, .inl (bI (wN a 6 && wN b 6 && !decide (a = b))), M) := by
  simp only [E_Code_allows_12, P_within, r1_s, ite_0]
  rw [show (!decide (a < 0) && decide (a < 6)) = wN a 6 from rfl, show (!decide (b < 0) && decide (b < 6)) = wN b 6 from rfl]
  cases wN a 6 <;> cases wN b 6 <;> rfl
theorem P_kAllows18 (sc : Nat × (Nat → Int32)) (M : sm_M) (a b : Int32) : dn sc kCode_allows 18 [.inl a, .inl b] [] M = some (0, .inl (bI (wN a 3 && wN b 6)), M) := by
  rw [E_Code_allows_18, P_within, r1_s, P_within, two_K]; rfl
theorem two_R {x y : Bool} {M : sm_M} : (if bI x = 0 then some (0, Sum.inl (0 : Int32), M) else if bI y = 0 then some (0, .inl 0, M) else some (0, .inl 1, M) : Option sm_R) = some (0, .inl (bI (x && y)), M) := by cases x <;> cases y <;> rfl
theorem P_kAllows (sc : Nat × (Nat → Int32)) (M : sm_M) (w a b : Int32) : dn sc kCode_allows 0 [.inl w, .inl a, .inl b] [] M = some (0, .inl (bI (okO w a b)), M) := by
  rw [E_Code_allows_0, P_kAllows12, P_kAllows18]
  simp only [P_within, r1_s, two_R, bI_K, ite_1]
  unfold okO wN
  by_cases q : w = 0
  · rw [if_pos q, if_pos q]
  rw [if_neg q, if_neg q]; clear q
  by_cases q : w = 1
  · rw [if_pos q, if_pos q]
  rw [if_neg q, if_neg q]; clear q
  by_cases q : w = 2
  · rw [if_pos q, if_pos (Or.inl q)]
  rw [if_neg q]
  by_cases q3 : w = 3
  · rw [if_pos q3, if_pos (Or.inr (Or.inl q3))]
  rw [if_neg q3]
  by_cases q4 : w = 4
  · rw [if_pos q4, if_pos (Or.inr (Or.inr q4))]
  rw [if_neg q4, if_neg (show ¬(w = 2 ∨ w = 3 ∨ w = 4) from fun h => h.elim q (fun h => h.elim q3 q4))]; clear q q3 q4
  by_cases q : w = 5
  · rw [if_pos q, if_pos (Or.inl q)]
  rw [if_neg q]
  by_cases q3 : w = 6
  · rw [if_pos q3, if_pos (Or.inr q3)]
  rw [if_neg q3, if_neg (show ¬(w = 5 ∨ w = 6) from fun h => h.elim q q3)]; clear q q3
  by_cases q : w = 7
  · rw [if_pos q, if_pos (Or.inl q)]
  rw [if_neg q]
  by_cases q3 : w = 8
  · rw [if_pos q3, if_pos (Or.inr q3)]
  rw [if_neg q3, if_neg (show ¬(w = 7 ∨ w = 8) from fun h => h.elim q q3)]; clear q q3
  by_cases q : w = 9
  · rw [if_pos q, if_pos q]
  rw [if_neg q, if_neg q]; clear q
  by_cases q : w = 10
  · rw [if_pos q, if_pos q]
  rw [if_neg q, if_neg q]; clear q
  by_cases q : w = 11
  · rw [if_pos q, if_pos (Or.inl q)]
  rw [if_neg q]
  by_cases q3 : w = 12
  · rw [if_pos q3, if_pos (Or.inr q3)]
  rw [if_neg q3, if_neg (show ¬(w = 11 ∨ w = 12) from fun h => h.elim q q3)]
