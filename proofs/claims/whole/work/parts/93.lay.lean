/-! LEVEL B: layouts: what they are, as numbers -/
def up (h : Nat → Nat) (j v : Nat) : Nat → Nat := fun i => if i = j then v else h i
theorem up_h {h : Nat → Nat} {j v : Nat} : up h j v j = v := if_pos rfl
theorem up_m {h : Nat → Nat} {i j v : Nat} (q : ¬ i = j) : up h j v i = h i := if_neg q
def dgs (h : Nat → Nat) : Prop := ∀ j, j < 9 → h j < 64
/-- the class's number of a layout: three places and six queues -/
def eN (h : Nat → Nat) : Nat := h 0 + h 1 * 64 + h 2 * 4096 + h 3 * 262144 + h 4 * 16777216 + h 5 * 1073741824 + h 6 * 68719476736 + h 7 * 4398046511104 + h 8 * 281474976710656
theorem by_9 {P : Nat → Prop} (h0 : P 0) (h1 : P 1) (h2 : P 2) (h3 : P 3) (h4 : P 4) (h5 : P 5) (h6 : P 6) (h7 : P 7) (h8 : P 8) : ∀ j, j < 9 → P j := by
  intro j hj
  rcases (by omega : j = 0 ∨ j = 1 ∨ j = 2 ∨ j = 3 ∨ j = 4 ∨ j = 5 ∨ j = 6 ∨ j = 7 ∨ j = 8) with h | h | h | h | h | h | h | h | h <;> subst h <;> assumption
theorem dgs_9 {h : Nat → Nat} (d : dgs h) : h 0 < 64 ∧ h 1 < 64 ∧ h 2 < 64 ∧ h 3 < 64 ∧ h 4 < 64 ∧ h 5 < 64 ∧ h 6 < 64 ∧ h 7 < 64 ∧ h 8 < 64 := ⟨d 0 (by decide), d 1 (by decide), d 2 (by decide), d 3 (by decide), d 4 (by decide), d 5 (by decide), d 6 (by decide), d 7 (by decide), d 8 (by decide)⟩
theorem eN_lt {h : Nat → Nat} (d : dgs h) : eN h < 18014398509481984 := by
  obtain ⟨d0, d1, d2, d3, d4, d5, d6, d7, d8⟩ := dgs_9 d
  unfold eN
  omega
theorem eN_d {h : Nat → Nat} (d : dgs h) : ∀ j, j < 9 → eN h / 2 ^ (6 * j) % 64 = h j := by
  obtain ⟨d0, d1, d2, d3, d4, d5, d6, d7, d8⟩ := dgs_9 d
  unfold eN
  apply by_9 <;> omega
theorem eN_e {h g : Nat → Nat} (e : ∀ j, j < 9 → h j = g j) : eN h = eN g := by
  unfold eN
  rw [e 0 (by decide), e 1 (by decide), e 2 (by decide), e 3 (by decide), e 4 (by decide), e 5 (by decide), e 6 (by decide), e 7 (by decide), e 8 (by decide)]
theorem eN_i {h g : Nat → Nat} (d : dgs h) (d2 : dgs g) (e : eN h = eN g) : ∀ j, j < 9 → h j = g j := fun j hj => by
  rw [← eN_d d j hj, ← eN_d d2 j hj, e]
theorem eN_up {h : Nat → Nat} {v : Nat} : ∀ j, j < 9 → eN (up h j v) + h j * 2 ^ (6 * j) = eN h + v * 2 ^ (6 * j) := by
  unfold eN up
  apply by_9 <;> simp only [Nat.reduceEqDiff, if_true, if_false, Nat.reduceMul, Nat.reducePow] <;> omega
theorem dgs_up {h : Nat → Nat} {j v : Nat} (d : dgs h) (hv : v < 64) : dgs (up h j v) := by
  intro i hi
  unfold up
  split
  · exact hv
  · exact d i hi
/-- a message in the reference's number -/
def abM (m : Nat) : Nat := if m = 0 then 0 else if m ≤ 3 then 1 else m - 2
def abQ (q : Nat) : Nat := abM (q % 8) + 8 * abM (q / 8)
def wfq (q : Nat) : Prop := (q % 8 = 0 → q = 0) ∧ q % 8 ≤ 5 ∧ q / 8 ≤ 5
theorem wfq_64 {q : Nat} (w : wfq q) : q < 64 := by unfold wfq at w; omega
theorem abM_3 {m : Nat} (h : m ≤ 5) : abM m ≤ 3 := by unfold abM; split; · omega
                                                      · split <;> omega
theorem abM_0 {m : Nat} : abM m = 0 ↔ m = 0 := by
  unfold abM
  split
  · omega
  · split <;> omega
theorem abQ_32 {q : Nat} (w : wfq q) : abQ q < 28 ∧ abQ q % 8 ≤ 3 ∧ abQ q % 8 = abM (q % 8) ∧ abQ q / 8 = abM (q / 8) := by
  have h1 := abM_3 w.2.1
  have h2 := abM_3 w.2.2
  unfold abQ
  omega
theorem abQ_0 {q : Nat} (w : wfq q) : abQ q = 0 ↔ q = 0 := by
  have h1 := abQ_32 w
  have e1 := abM_0 (m := q % 8)
  have e2 := abM_0 (m := q / 8)
  unfold abQ at *
  unfold wfq at w
  omega
/-- the reference's number of a layout -/
def rN (h : Nat → Nat) : Nat := h 0 % 32 + h 1 % 32 * 32 + h 2 % 32 * 1024 + h 0 / 32 * 32768 + h 1 / 32 * 65536 + h 2 / 32 * 131072 + abQ (h 3) * 262144 + abQ (h 4) * 16777216 + abQ (h 5) * 1073741824 + abQ (h 6) * 68719476736 + abQ (h 7) * 4398046511104 + abQ (h 8) * 281474976710656
def wfh (h : Nat → Nat) : Prop := (∀ p, p < 3 → h p < 64) ∧ ∀ k, k < 6 → wfq (h (3 + k))
theorem wfh_d {h : Nat → Nat} (w : wfh h) : dgs h := by
  intro j hj
  by_cases q : j < 3
  · exact w.1 j q
  · have := wfq_64 (w.2 (j - 3) (by omega))
    rwa [show 3 + (j - 3) = j by omega] at this
theorem wfh_9 {h : Nat → Nat} (w : wfh h) : h 0 < 64 ∧ h 1 < 64 ∧ h 2 < 64 ∧ abQ (h 3) < 28 ∧ abQ (h 4) < 28 ∧ abQ (h 5) < 28 ∧ abQ (h 6) < 28 ∧ abQ (h 7) < 28 ∧ abQ (h 8) < 28 :=
  ⟨w.1 0 (by decide), w.1 1 (by decide), w.1 2 (by decide), (abQ_32 (w.2 0 (by decide))).1, (abQ_32 (w.2 1 (by decide))).1, (abQ_32 (w.2 2 (by decide))).1, (abQ_32 (w.2 3 (by decide))).1, (abQ_32 (w.2 4 (by decide))).1, (abQ_32 (w.2 5 (by decide))).1⟩
theorem rN_lt {h : Nat → Nat} (w : wfh h) : rN h < 18014398509481984 := by
  obtain ⟨d0, d1, d2, d3, d4, d5, d6, d7, d8⟩ := wfh_9 w
  unfold rN
  omega
theorem in_3 {p : Nat} (h : p < 3) : p = 0 ∨ p = 1 ∨ p = 2 := by omega
theorem in_6 {k : Nat} (h : k < 6) : k = 0 ∨ k = 1 ∨ k = 2 ∨ k = 3 ∨ k = 4 ∨ k = 5 := by omega
theorem dgt {n lo d hi S W : Nat} (e : n = lo + S * (d + W * hi)) (h1 : lo < S) (h2 : d < W) : n / S % W = d := by
  rw [e, Nat.add_mul_div_left _ _ (by omega), Nat.div_eq_of_lt h1, Nat.zero_add, Nat.add_mul_mod_self_left, Nat.mod_eq_of_lt h2]
theorem mixd {a0 a1 a2 o0 o1 o2 q0 q1 q2 q3 q4 q5 : Nat} (ba0 : a0 < 32) (ba1 : a1 < 32) (ba2 : a2 < 32) (bo0 : o0 < 2) (bo1 : o1 < 2) (bo2 : o2 < 2) (bq0 : q0 < 64) (bq1 : q1 < 64) (bq2 : q2 < 64) (bq3 : q3 < 64) (bq4 : q4 < 64) (bq5 : q5 < 64) :
    (a0 + a1 * 32 + a2 * 1024 + o0 * 32768 + o1 * 65536 + o2 * 131072 + q0 * 262144 + q1 * 16777216 + q2 * 1073741824 + q3 * 68719476736 + q4 * 4398046511104 + q5 * 281474976710656) / 1 % 32 = a0 ∧ (a0 + a1 * 32 + a2 * 1024 + o0 * 32768 + o1 * 65536 + o2 * 131072 + q0 * 262144 + q1 * 16777216 + q2 * 1073741824 + q3 * 68719476736 + q4 * 4398046511104 + q5 * 281474976710656) / 32 % 32 = a1 ∧ (a0 + a1 * 32 + a2 * 1024 + o0 * 32768 + o1 * 65536 + o2 * 131072 + q0 * 262144 + q1 * 16777216 + q2 * 1073741824 + q3 * 68719476736 + q4 * 4398046511104 + q5 * 281474976710656) / 1024 % 32 = a2 ∧ (a0 + a1 * 32 + a2 * 1024 + o0 * 32768 + o1 * 65536 + o2 * 131072 + q0 * 262144 + q1 * 16777216 + q2 * 1073741824 + q3 * 68719476736 + q4 * 4398046511104 + q5 * 281474976710656) / 32768 % 2 = o0 ∧ (a0 + a1 * 32 + a2 * 1024 + o0 * 32768 + o1 * 65536 + o2 * 131072 + q0 * 262144 + q1 * 16777216 + q2 * 1073741824 + q3 * 68719476736 + q4 * 4398046511104 + q5 * 281474976710656) / 65536 % 2 = o1 ∧ (a0 + a1 * 32 + a2 * 1024 + o0 * 32768 + o1 * 65536 + o2 * 131072 + q0 * 262144 + q1 * 16777216 + q2 * 1073741824 + q3 * 68719476736 + q4 * 4398046511104 + q5 * 281474976710656) / 131072 % 2 = o2 ∧ (a0 + a1 * 32 + a2 * 1024 + o0 * 32768 + o1 * 65536 + o2 * 131072 + q0 * 262144 + q1 * 16777216 + q2 * 1073741824 + q3 * 68719476736 + q4 * 4398046511104 + q5 * 281474976710656) / 262144 % 64 = q0 ∧ (a0 + a1 * 32 + a2 * 1024 + o0 * 32768 + o1 * 65536 + o2 * 131072 + q0 * 262144 + q1 * 16777216 + q2 * 1073741824 + q3 * 68719476736 + q4 * 4398046511104 + q5 * 281474976710656) / 16777216 % 64 = q1 ∧ (a0 + a1 * 32 + a2 * 1024 + o0 * 32768 + o1 * 65536 + o2 * 131072 + q0 * 262144 + q1 * 16777216 + q2 * 1073741824 + q3 * 68719476736 + q4 * 4398046511104 + q5 * 281474976710656) / 1073741824 % 64 = q2 ∧ (a0 + a1 * 32 + a2 * 1024 + o0 * 32768 + o1 * 65536 + o2 * 131072 + q0 * 262144 + q1 * 16777216 + q2 * 1073741824 + q3 * 68719476736 + q4 * 4398046511104 + q5 * 281474976710656) / 68719476736 % 64 = q3 ∧ (a0 + a1 * 32 + a2 * 1024 + o0 * 32768 + o1 * 65536 + o2 * 131072 + q0 * 262144 + q1 * 16777216 + q2 * 1073741824 + q3 * 68719476736 + q4 * 4398046511104 + q5 * 281474976710656) / 4398046511104 % 64 = q4 ∧ (a0 + a1 * 32 + a2 * 1024 + o0 * 32768 + o1 * 65536 + o2 * 131072 + q0 * 262144 + q1 * 16777216 + q2 * 1073741824 + q3 * 68719476736 + q4 * 4398046511104 + q5 * 281474976710656) / 281474976710656 % 64 = q5 :=
  ⟨dgt (lo := 0) (hi := a1 + a2 * 32 + o0 * 1024 + o1 * 2048 + o2 * 4096 + q0 * 8192 + q1 * 524288 + q2 * 33554432 + q3 * 2147483648 + q4 * 137438953472 + q5 * 8796093022208) (by omega) (by omega) (by omega),
   dgt (lo := a0) (hi := a2 + o0 * 32 + o1 * 64 + o2 * 128 + q0 * 256 + q1 * 16384 + q2 * 1048576 + q3 * 67108864 + q4 * 4294967296 + q5 * 274877906944) (by omega) (by omega) (by omega),
   dgt (lo := a0 + a1 * 32) (hi := o0 + o1 * 2 + o2 * 4 + q0 * 8 + q1 * 512 + q2 * 32768 + q3 * 2097152 + q4 * 134217728 + q5 * 8589934592) (by omega) (by omega) (by omega),
   dgt (lo := a0 + a1 * 32 + a2 * 1024) (hi := o1 + o2 * 2 + q0 * 4 + q1 * 256 + q2 * 16384 + q3 * 1048576 + q4 * 67108864 + q5 * 4294967296) (by omega) (by omega) (by omega),
   dgt (lo := a0 + a1 * 32 + a2 * 1024 + o0 * 32768) (hi := o2 + q0 * 2 + q1 * 128 + q2 * 8192 + q3 * 524288 + q4 * 33554432 + q5 * 2147483648) (by omega) (by omega) (by omega),
   dgt (lo := a0 + a1 * 32 + a2 * 1024 + o0 * 32768 + o1 * 65536) (hi := q0 + q1 * 64 + q2 * 4096 + q3 * 262144 + q4 * 16777216 + q5 * 1073741824) (by omega) (by omega) (by omega),
   dgt (lo := a0 + a1 * 32 + a2 * 1024 + o0 * 32768 + o1 * 65536 + o2 * 131072) (hi := q1 + q2 * 64 + q3 * 4096 + q4 * 262144 + q5 * 16777216) (by omega) (by omega) (by omega),
   dgt (lo := a0 + a1 * 32 + a2 * 1024 + o0 * 32768 + o1 * 65536 + o2 * 131072 + q0 * 262144) (hi := q2 + q3 * 64 + q4 * 4096 + q5 * 262144) (by omega) (by omega) (by omega),
   dgt (lo := a0 + a1 * 32 + a2 * 1024 + o0 * 32768 + o1 * 65536 + o2 * 131072 + q0 * 262144 + q1 * 16777216) (hi := q3 + q4 * 64 + q5 * 4096) (by omega) (by omega) (by omega),
   dgt (lo := a0 + a1 * 32 + a2 * 1024 + o0 * 32768 + o1 * 65536 + o2 * 131072 + q0 * 262144 + q1 * 16777216 + q2 * 1073741824) (hi := q4 + q5 * 64) (by omega) (by omega) (by omega),
   dgt (lo := a0 + a1 * 32 + a2 * 1024 + o0 * 32768 + o1 * 65536 + o2 * 131072 + q0 * 262144 + q1 * 16777216 + q2 * 1073741824 + q3 * 68719476736) (hi := q5) (by omega) (by omega) (by omega),
   dgt (lo := a0 + a1 * 32 + a2 * 1024 + o0 * 32768 + o1 * 65536 + o2 * 131072 + q0 * 262144 + q1 * 16777216 + q2 * 1073741824 + q3 * 68719476736 + q4 * 4398046511104) (hi := 0) (by omega) (by omega) (by omega)⟩
theorem rN_d {h : Nat → Nat} (w : wfh h) : (∀ p, p < 3 → rN h / 2 ^ (5 * p) % 32 = h p % 32 ∧ rN h / 2 ^ (15 + p) % 2 = h p / 32) ∧ ∀ k, k < 6 → rN h / 2 ^ (18 + 6 * k) % 64 = abQ (h (3 + k)) := by
  obtain ⟨d0, d1, d2, d3, d4, d5, d6, d7, d8⟩ := wfh_9 w
  obtain ⟨x0, x1, x2, x3, x4, x5, x6, x7, x8, x9, x10, x11⟩ := mixd (a0 := h 0 % 32) (a1 := h 1 % 32) (a2 := h 2 % 32) (o0 := h 0 / 32) (o1 := h 1 / 32) (o2 := h 2 / 32) (q0 := abQ (h 3)) (q1 := abQ (h 4)) (q2 := abQ (h 5)) (q3 := abQ (h 6)) (q4 := abQ (h 7)) (q5 := abQ (h 8)) (by omega) (by omega) (by omega) (by omega) (by omega) (by omega) (by omega) (by omega) (by omega) (by omega) (by omega) (by omega)
  unfold rN
  refine ⟨fun p hp => ?_, fun k hk => ?_⟩
  · rcases in_3 hp with q | q | q <;> subst q <;> simp only [Nat.reduceMul, Nat.reduceAdd, Nat.reducePow]
    · exact ⟨x0, x3⟩
    · exact ⟨x1, x4⟩
    · exact ⟨x2, x5⟩
  · rcases in_6 hk with q | q | q | q | q | q <;> subst q <;> simp only [Nat.reduceMul, Nat.reduceAdd, Nat.reducePow]
    · exact x6
    · exact x7
    · exact x8
    · exact x9
    · exact x10
    · exact x11
theorem rN_i {h g : Nat → Nat} (w : wfh h) (w2 : wfh g) (e : rN h = rN g) : (∀ p, p < 3 → h p = g p) ∧ ∀ k, k < 6 → abQ (h (3 + k)) = abQ (g (3 + k)) := by
  refine ⟨fun p hp => ?_, fun k hk => ?_⟩
  · obtain ⟨a1, a2⟩ := (rN_d w).1 p hp
    obtain ⟨b1, b2⟩ := (rN_d w2).1 p hp
    rw [e] at a1 a2
    have := Nat.div_add_mod (h p) 32
    have := Nat.div_add_mod (g p) 32
    rw [a1] at b1
    rw [a2] at b2
    omega
  · rw [← (rN_d w).2 k hk, ← (rN_d w2).2 k hk, e]
theorem rN_e {h g : Nat → Nat} (e : ∀ j, j < 9 → h j = g j) : rN h = rN g := by
  unfold rN
  rw [e 0 (by decide), e 1 (by decide), e 2 (by decide), e 3 (by decide), e 4 (by decide), e 5 (by decide), e 6 (by decide), e 7 (by decide), e 8 (by decide)]
