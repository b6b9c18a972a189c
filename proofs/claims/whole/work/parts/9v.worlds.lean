/-! the world at the law's loop's head -/
def adL (adT : Nat × Nat × Nat → Nat) (oM : Nat) (qM : Nat → Nat) (l3 b : Nat) : Nat × Nat × Nat → Nat := fun r => match r.1 with
  | 10 => ad10 oM qM r
  | 30 => l3
  | 99 => b
  | _ => adT r
set_option maxRecDepth 100000 in
set_option maxHeartbeats 20000000 in
theorem eW10 (tc : Nat → ClassId) (oM : Nat) (qM : Nat → Nat) (adT : Nat × Nat × Nat → Nat) (l3 b : Nat) : W10 tc (adL adT oM qM l3 b) = cwd_10 tc oM qM := (Eq.refl _).trans rfl
set_option maxRecDepth 100000 in
set_option maxHeartbeats 20000000 in
theorem eW9 (tc : Nat → ClassId) (oM : Nat) (qM : Nat → Nat) (adT : Nat × Nat × Nat → Nat) (l3 b : Nat) : W9 tc (adL adT oM qM l3 b) = W9 tc adT := by
  unfold W9 ids9
  simp only [List.map_cons, List.map_nil]
  exact (Eq.refl _).trans rfl
theorem eW (tc : Nat → ClassId) (ad : Nat × Nat × Nat → Nat) : sm_W tc ad M0w = W9 tc ad ++ (W10 tc ad ++ [(ad (30, 0, 1), .inl (tc 2, 1, .inr (.inl (fun _ => 0))))]) := by
  unfold sm_W
  rw [ids_all, List.map_append, List.map_append]
  exact (Eq.refl _).trans rfl
