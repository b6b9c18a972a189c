/-! calls, jumps and ends -/
def sm_ws (m : Nat) : List Cond := Cond.code (lt_y m) (lt_b m) (lt_n m) (lt_r m) :: lw_g
def sm_rm (m : Nat) : Room := { frames := (lt_fl m).1, cells := 0, slots := 0, locals := (lt_fl m).2 }
def sm_B (D : va_G) (tc : Nat → ClassId) (ad : Nat × Nat × Nat → Nat) (M : sm_M) (sz : Nat) : State → Prop := fun U => U.heap.size = sz ∧ va_P D vwCl (sm_W tc ad M) U.heap ∧ va_K D vwCl (sm_tys tc) U ∧ va_D (fun _ => True) (sm_W tc ad M) ∧ ∀ w ∈ sm_nw, va_Nw w U
def sm_T (D : va_G) (tc : Nat → ClassId) (ad : Nat × Nat × Nat → Nat) (M : sm_M) : Unit → State → Prop := fun _ t => va_P D vwCl (sm_W tc ad M) t.heap
def sm_Q (D : va_G) (tc : Nat → ClassId) (ad : Nat × Nat × Nat → Nat) (rk : Nat) (R : sm_R) (A : Nat → Prop) : Array Value → State → Outcome → State → Prop := match rk, R.2.1 with
  | 0, _ => va_Qv (S := Unit) (fun _ => True) (sm_T D tc ad R.2.2) A
  | 1, .inl x => va_Qi (S := Unit) (fun r _ => r = x) (sm_T D tc ad R.2.2) A
  | 2, .inr (.inl x) => va_Ql (S := Unit) (fun r _ => r = x) (sm_T D tc ad R.2.2) A
  | 3, .inr (.inr r) => va_Qr (S := Unit) (fun _ => True) (fun _ a t => (a = ad r ∧ r ∈ sm_ids) ∧ va_P D vwCl (sm_W tc ad R.2.2) t.heap) A
  | _, _ => fun _ _ _ _ => False
def sm_Met (l : Launch) (D : va_G) (tc : Nat → ClassId) (ad : Nat × Nat × Nat → Nat) (m : Nat) (a : List sm_v) (M : sm_M) (R : sm_R) : Prop :=
  ∀ sz, Met l (lt_y m) (sm_ws m) (sm_rm m) (va_Pc (a.map (sm_t ad)) (sm_B D tc ad M sz)) (sm_Q D tc ad (lt_rk m).1 R (va_A (sm_W tc ad M) sz)) 0 0 (va_A (sm_W tc ad M) sz)
def yA_fill : MethodName := ⟨"java/util/Arrays", "fill", "([II)V"⟩
def sm_MetF (l : Launch) (D : va_G) (tc : Nat → ClassId) (ad : Nat × Nat × Nat → Nat) : Prop :=
  ∀ (c p j n : Nat) (x : Int32) (M : sm_M) (sz : Nat), (c, p, j) ∈ sm_ids → lt_al c j = (0, n) → Met l yA_fill (Cond.code yA_fill prog_22_method_103_code 4 none :: lw_g) { frames := 0, cells := 0, slots := 0, locals := 0 } (va_Pc [.ref (ad (c, p, j)), .int x] (sm_B D tc ad M sz)) (va_Qv (S := Unit) (fun _ => True) (sm_T D tc ad (sm_fl M c p j x)) (va_A (sm_W tc ad M) sz)) 0 0 (va_A (sm_W tc ad M) sz)
theorem lw_g_good : ∀ w ∈ lw_g, (w.onTables && w.keeps) = true ∨ ∃ ty, w = .arrayClass ty := fun _ h => good_of_word (List.mem_filter.mp h).2
theorem lw_g_in {ws : List Cond} (h : ∀ w ∈ ws, w ∈ lw_g) : GoodIn lw_g ws := fun w hw => ⟨h w hw, lw_g_good w (h w hw)⟩
theorem sm_nw_on : ∀ w ∈ sm_nw, w.onTables = true := by decide +kernel
theorem sm_nw_form : ∀ w ∈ sm_nw, ∃ a i x h, w = Cond.methodLinkNest a i x h := by
  intro w hw
  simp only [sm_nw, List.mem_cons, List.not_mem_nil, or_false] at hw
  rcases hw with rfl | rfl | rfl | rfl | rfl | rfl | rfl <;> exact ⟨_, _, _, _, rfl⟩
theorem sm_B_blind {D : va_G} {tc : Nat → ClassId} {ad : Nat × Nat × Nat → Nat} {M : sm_M} {sz : Nat} {av : List Value} : FrameBlind (va_Pc av (sm_B D tc ad M sz)) := by
  intro a U g mk q
  obtain ⟨q0, q1, q2, q3, q4, q5⟩ := q
  exact ⟨q0, q1, q2, va_K.moved (u := U) (U := U.calling g mk a) (Vm.Alike.refl U.vm) q3, q4, fun w hw => va_Nw.same (u := U) (U := U.calling g mk a) (sm_nw_on w hw) rfl (q5 w hw)⟩
theorem sm_tk_eq : ∀ (n : Nat) (a0 st a st1 : List sm_v), sm_tk n a0 st = some (a, st1) → ∃ a', a = a' ++ a0 ∧ st = a'.reverse ++ st1 ∧ a'.length = n := by
  intro n
  induction n with
  | zero =>
    intro a0 st a st1 h
    cases h
    exact ⟨[], rfl, rfl, rfl⟩
  | succ n ih =>
    intro a0 st a st1 h
    cases st with
    | nil => cases h
    | cons v st =>
      obtain ⟨a', e1, e2, e3⟩ := ih (v :: a0) st a st1 h
      refine ⟨a' ++ [v], ?_, ?_, ?_⟩
      · rw [e1, List.append_assoc]; rfl
      · rw [e2, List.reverse_append]; rfl
      · rw [List.length_append, e3]; rfl
section CALL
variable {p : Program} {l : Launch} {e : Env} {R : Room} {s : State} {m : MethodId} {args : Array Value} {below : List Frame} {meth : Method} {c : Code} {cells slots : Nat} {Q : State → Prop}
variable {cc : ByteArray} {nL : Nat} {own : String} {D : va_G} {tc : Nat → ClassId} {ad : Nat × Nat × Nat → Nat} {A : Nat → Prop} {H0 : Heap} {sc : Nat × (Nat → Int32)} {z : Bool}
theorem sm_freeA (hD : ∀ M, va_D A (sm_W tc ad M)) (hA : ∀ q : Nat, H0.size ≤ q → A q) {H : Heap} {locs : List Loc} (hS : va_S A H0 H locs) (M : sm_M) : ∀ q, va_A (sm_W tc ad M) H.size q → A q := by
  intro q h
  rcases h with ⟨k, e1, h⟩ | h
  · exact (hD M).2 k _ h
  · exact hA q (Nat.le_trans hS.1 h)
/-- what a callee finds: the world as it is -/
theorem sm_pre (hK : va_K D vwCl (sm_tys tc) s) (hD : ∀ M, va_D A (sm_W tc ad M)) (hN : ∀ w ∈ sm_nw, va_Nw w s) {M : sm_M} {H : Heap} (hP : va_P D vwCl (sm_W tc ad M) H) (av : List Value) : PreS s H (va_Pc av (sm_B D tc ad M H.size)) av := by
  refine ⟨sm_B_blind, fun U hU hW => ⟨rfl, by rw [hU], by rw [hU]; exact hP, va_K.moved hW.alike hK, (hD M).weaken (fun _ _ _ _ => trivial), fun w hw => ?_⟩⟩
  obtain ⟨a, i, x, h, rfl⟩ := sm_nw_form w hw
  exact va_Nw.warmM hW (hN _ hw)
/-- behind a call: by what it answers -/
theorem sm_after (hD : ∀ M, va_D A (sm_W tc ad M)) (hA : ∀ q : Nat, H0.size ≤ q → A q) {rk rc pc : Nat} {ls : sm_L} {st st1 : List sm_v} {M : sm_M} {r R0 : sm_R} {a : List sm_v} {K : List sm_v → sm_M → Option sm_R} {la : Array Slot} {H : Heap} {locs : List Loc}
    (hS : va_S A H0 H locs) (hl : lv_has la nL (sm_tl ad ls))
    (hr : va_Run p l e R s m args below meth c H locs cells slots 0 0 (F0 m pc la (st.map (sm_t ad))) (st1.map (sm_t ad)) (sm_Q D tc ad rk r (va_A (sm_W tc ad M) H.size) (a.map (sm_t ad)).toArray) (va_A (sm_W tc ad M) H.size))
    (h : sm_rs rc (some r) K st1 rk = some R0)
    (o2 : sm_oks z st1)
    (k : ∀ st M, K st M = some R0 → sm_oks z st → sm_SW D tc ad A H0 nL (sm_KW p l e R s m args below meth c cells slots Q) (pc + 3) ls st M) :
    W p l e R s m args below meth c H locs cells slots Q (F0 m pc la (st.map (sm_t ad))) := by
  have hF := sm_freeA hD hA hS M
  obtain ⟨r0, rv, rM⟩ := r
  rcases rk with _ | _ | _ | rk
  · cases r0 with
    | succ r0 => cases h
    | zero =>
      have h' : K st1 rM = some R0 := h
      refine va_callv (S := Unit) (a := (a.map (sm_t ad)).toArray) hr hS (fun q _ h => hF q h) hF (fun u t H1 locs1 ht hvm hw hB hz1 hk1 hS1 => ?_)
      have hP1 : va_P D vwCl (sm_W tc ad rM) t.heap := hB
      rw [ht] at hP1
      exact k _ _ h' o2 H1 locs1 la hP1 hS1 hl
  · cases r0 with
    | succ r0 => cases h
    | zero =>
      rcases rv with x | x | x
      · have h' : K (.inl x :: st1) rM = some R0 := h
        refine va_calli (S := Unit) (a := (a.map (sm_t ad)).toArray) hr hS (fun q _ h => hF q h) hF (fun r u t H1 locs1 ht hvm hw hB hz1 hk1 hS1 => ?_)
        have hP1 : va_P D vwCl (sm_W tc ad rM) t.heap := hB
        rw [ht] at hP1
        have hw : r = x := hw
        subst hw
        exact k _ _ h' (sm_oks_c.mpr ⟨trivial, o2⟩) H1 locs1 la hP1 hS1 hl
      · cases h
      · cases h
  · cases r0 with
    | succ r0 => cases h
    | zero =>
      rcases rv with x | x | x
      · cases h
      · have h' : K (.inr (.inl x) :: st1) rM = some R0 := h
        refine va_calll (S := Unit) (a := (a.map (sm_t ad)).toArray) hr hS (fun q _ h => hF q h) hF (fun r u t H1 locs1 ht hvm hw hB hz1 hk1 hS1 => ?_)
        have hP1 : va_P D vwCl (sm_W tc ad rM) t.heap := hB
        rw [ht] at hP1
        have hw : r = x := hw
        subst hw
        exact k _ _ h' (sm_oks_c.mpr ⟨trivial, o2⟩) H1 locs1 la hP1 hS1 hl
      · cases h
  · cases r0 with
    | succ r0 => cases h
    | zero =>
      rcases rv with x | x | ⟨c1, p1, j1⟩
      · cases h
      · cases h
      · cases j1 with
        | succ j1 => cases h
        | zero =>
          have h' : (bif Nat.beq c1 rc then K (.inr (.inr (rc, p1, 0)) :: st1) rM else none) = some R0 := h
          cases hb : Nat.beq c1 rc with
          | false => rw [hb] at h'; cases h'
          | true =>
            rw [hb] at h'
            have e1 := Nat.eq_of_beq_eq_true hb
            subst e1
            cases rk with
            | succ rk =>
              intro T hT X
              obtain ⟨v, st₀, t, T', L, h0, X', hL, e1, e2, hq, st⟩ := hr T hT X
              exact hq.elim
            | zero =>
              refine va_callr (S := Unit) (a := (a.map (sm_t ad)).toArray) hr hS (fun q _ h => hF q h) hF (fun u ra t H1 locs1 ht hvm hw hB hz1 hk1 hS1 => ?_)
              obtain ⟨⟨e1, hok⟩, hP1⟩ := hB
              rw [ht] at hP1
              subst e1
              exact k _ _ h' (sm_oks_c.mpr ⟨Or.inl hok, o2⟩) H1 locs1 la hP1 hS1 hl
end CALL
