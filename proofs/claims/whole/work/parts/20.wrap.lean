/-! the law's catching methods -/
def sm_BW (D : va_G) (tc : Nat → ClassId) (ad : Nat × Nat × Nat → Nat) (M : sm_M) (sz : Nat) : State → Prop := fun U => sm_BX D tc ad M sz U ∧ ∀ a b, a < 3 → b < 3 → a ≠ b → va_Nc (lt_xn a) (lt_xn b) U
theorem sm_BW_blind {D : va_G} {tc : Nat → ClassId} {ad : Nat × Nat × Nat → Nat} {M : sm_M} {sz : Nat} {av : List Value} : FrameBlind (va_Pc av (sm_BW D tc ad M sz)) := by
  intro a U g mk q
  obtain ⟨q0, q1, q2⟩ := q
  have h1 := sm_BX_blind (av := av) a U g mk ⟨q0, q1⟩
  exact ⟨q0, h1.2, fun x y hx hy hn => va_Nc.moved (u := U) (U := U.calling g mk a) (Vm.Alike.refl U.vm) (q2 x y hx hy hn)⟩
def lt_ct3 (e : Nat) : Nat := match e with | 0 => 13 | 1 => 15 | _ => 17
theorem lt_ct3_w : ∀ e, e < 3 → Cond.classLink RL (lt_ct3 e) (lt_xn e) ∈ lw_g := by decide +kernel
theorem lt_xn_cast : ∀ e, e < 3 → Cond.castable (lt_xn e) (lt_xn e) ∈ sm_xw := by decide +kernel
def sm_rmW (m : Nat) : Room := { frames := (lt_fl m).1, cells := 1, slots := 6, locals := (lt_fl m).2 }
def sm_MetW (l : Launch) (D : va_G) (tc : Nat → ClassId) (ad : Nat × Nat × Nat → Nat) (m : Nat) (hh : List (Nat × Nat × Nat × Nat)) (a : List sm_v) (M : sm_M) (R : sm_R) : Prop :=
  ∀ sz, Met l (lt_y m) (Cond.codeWith (lt_y m) (lt_b m) (lt_n m) (some .int) hh :: lw_g) (sm_rmW m) (va_Pc (a.map (sm_t ad)) (sm_BW D tc ad M sz)) (va_Qi (S := Unit) (fun x _ => R.2.1 = .inl x) (sm_T D tc ad R.2.2) (va_A (sm_W tc ad M) sz)) 1 6 (va_A (sm_W tc ad M) sz)
section WRAP
variable {p : Program} {l : Launch} {e : Env} {R : Room} {s : State} {m : MethodId} {args : Array Value} {below : List Frame} {meth : Method} {c : Code} {cells slots : Nat} {Q : State → Prop}
variable {cc : ByteArray} {nL : Nat} {own : String} {D : va_G} {tc : Nat → ClassId} {ad : Nat × Nat × Nat → Nat} {A : Nat → Prop} {H0 : Heap} {sc : Nat × (Nat → Int32)} {z : Bool}
/-- what a throwing callee finds -/
theorem sm_preX (hK : va_K D vwCl (sm_tys tc) s) (hD : ∀ M, va_D A (sm_W tc ad M)) (hA : ∀ q : Nat, H0.size ≤ q → A q) (hN : ∀ w ∈ sm_nw, va_Nw w s) (hPT : sm_PT A s H0) {M : sm_M} {H : Heap} {locs : List Loc} (hS : va_S A H0 H locs) (hP : va_P D vwCl (sm_W tc ad M) H) (av : List Value) : PreS s H (va_Pc av (sm_BX D tc ad M H.size)) av := by
  have h0 := sm_pre hK hD hN hP av
  refine ⟨sm_BX_blind, fun U hU hW => ⟨rfl, (h0.2 U hU hW).2, ?_⟩⟩
  rw [hU]
  exact (((hPT.warm hW).kept hS.2.1).narrow (sm_freeA hD hA hS M))
/-- a catch: the first row of the table that names the class -/
theorem sm_catch {H : Heap} {locs : List Loc} {pc ex : Nat} {la : Array Slot} {rest : List Value} {ce : Cell} {q : Addr} (hown : s.vm.findClass RL = some m.cls) (hts : ∀ w ∈ lw_g, w.before args s = true) (hxw : ∀ w ∈ sm_xw, va_Nw w s) (hNc : ∀ a b, a < 3 → b < 3 → a ≠ b → va_Nc (lt_xn a) (lt_xn b) s) (hex : ex < 3)
    (pre : List (Nat × Nat × Nat × Nat)) (x : Nat × Nat × Nat × Nat) (suf : List (Nat × Nat × Nat × Nat)) (htab : c.exceptionTable.toList = tableOf (pre ++ x :: suf)) (hpre : ∀ y ∈ pre, ∃ k, k < 3 ∧ k ≠ ex ∧ y.2.2.2 = lt_ct3 k) (hxt : x.2.2.2 = lt_ct3 ex) (hcov : x.1 ≤ pc ∧ pc < x.2.1)
    (hcell : H[q]? = some ce) (hv : ce.vm = .none) (hcl : s.vm.findClass (lt_xn ex) = some ce.cls)
    (kk : W p l e R s m args below meth c H locs cells slots Q (F0 m x.2.2.1 la [.ref q])) : vx_W p l e R s m args below meth c H locs cells slots Q (F0 m pc la rest) q := by
  have h0 : ∀ k, lt_ct3 k ≠ 0 := by
    intro k
    unfold lt_ct3
    split <;> decide
  refine vx_catch (own := RL) (name := lt_xn ex) (E := lt_xn ex) hown (tableOf pre) ⟨x.1, x.2.1, x.2.2.1, x.2.2.2⟩ (tableOf suf) ?_ ?_ ?_ ?_ ?_ ?_ hcell hv hcl kk
  · rw [htab]
    unfold tableOf
    rw [List.map_append, List.map_cons]
  · intro y hy
    unfold tableOf at hy
    obtain ⟨y0, hy0, rfl⟩ := List.mem_map.mp hy
    obtain ⟨k, hk, hne, hk2⟩ := hpre y0 hy0
    refine Or.inr ⟨by show y0.2.2.2 ≠ 0; rw [hk2]; exact h0 k, lt_xn k, by show (Cond.classLink RL y0.2.2.2 (lt_xn k)).before args s = true; rw [hk2]; exact hts _ (lt_ct3_w k hk), hNc ex k hex hk (fun h => hne h.symm)⟩
  · show covers _ pc = true
    simp [covers, hcov.1, hcov.2]
  · show x.2.2.2 ≠ 0
    rw [hxt]
    exact h0 ex
  · show (Cond.classLink RL x.2.2.2 (lt_xn ex)).before args s = true
    rw [hxt]
    exact hts _ (lt_ct3_w ex hex)
  · exact va_Nw.use rfl (hxw _ (lt_xn_cast ex hex))
end WRAP
set_option maxHeartbeats 4000000 in
theorem wr_step {l : Launch} {D : va_G} {tc : Nat → ClassId} {ad : Nat × Nat × Nat → Nat} {M : sm_M} {r R : sm_R} (p1 : Int32) (p2 : Int32) (p3 : Int32) (p4 : Int32) (hM : sm_MetX l D tc ad kTop_step [.inr (.inr (9, 0, 0)), .inl p1, .inl p2, .inl p3, .inl p4] M r) (hre : r.1 = 0 ∨ r.1 = 1 ∨ r.1 = 2 ∨ r.1 = 3) (hR : sm_wr1 (kTop_step, 0, [1, 2, 3]) (some (.inr (.inr (30, 0, 1)))) (some r) = some R) : sm_MetW l D tc ad kLaw_step [(0, 14, 17, 13), (0, 14, 21, 15), (0, 14, 25, 17)] [.inr (.inr (9, 0, 0)), .inl p1, .inl p2, .inl p3, .inl p4, .inr (.inr (30, 0, 1))] M R := by
  intro sz
  refine va_MetW (cc := cL_step) (maxL := 7) (ret := some .int) (by decide +kernel) rfl ?_
  intro p e s m args below meth c s₁ B hml hv
  obtain ⟨rfl, ⟨⟨hsz, hP, hK, hD0, hN⟩, hPT⟩, hNc⟩ := hv
  have hx := B.exec
  have hb := B.bytes
  have hret := B.returns
  have hts0 := atoms_spec (ws := Cond.codeWith (lt_y kLaw_step) (lt_b kLaw_step) (lt_n kLaw_step) (some .int) [(0, 14, 17, 13), (0, 14, 21, 15), (0, 14, 25, 17)] :: lw_g) B.pre
  have hown : s.vm.findClass RL = some m.cls := findClass_of_methodNamed B.named
  have hlocks := B.notSynchronized
  have htab := vx_table (x := yL_law) B (hts0 _ List.mem_cons_self)
  subst hsz
  have hD := sm_D_all (D := D) (sz := s.heap.size) hD0
  have hts : ∀ w ∈ lw_g, w.before ([.inr (.inr (9, 0, 0)), .inl p1, .inl p2, .inl p3, .inl p4, .inr (.inr (30, 0, 1))].map (sm_t ad)).toArray s = true := fun w hw => hts0 w (List.mem_cons_of_mem _ hw)
  have X : sm_Cx p s m ([.inr (.inr (9, 0, 0)), .inl p1, .inl p2, .inl p3, .inl p4, .inr (.inr (30, 0, 1))].map (sm_t ad)).toArray c cL_step 7 RL D tc ad (va_A (sm_W tc ad M) s.heap.size) s.heap (0, fun _ => 0) false := ⟨hx, hb, hml, hown, hts, hK, hD, hN, fun q h => Or.inr h, fun h => by cases h⟩
  have hl := lv_entry ([.inr (.inr (9, 0, 0)), .inl p1, .inl p2, .inl p3, .inl p4, .inr (.inr (30, 0, 1))].map (sm_t ad)) (n := 7) (by rw [lg_sl_len]; exact Nat.le_of_ble_eq_true rfl)
  rw [lg_entry_eq]
  rw [lv_args_ent] at hl
  have ox : sm_ok false (.inr (.inr (9, 0, 0))) := Or.inl (by decide +kernel)
  have oo : sm_ok false (.inr (.inr (30, 0, 1))) := Or.inl (by decide +kernel)
  have on : sm_oks false [] := fun v hv => by cases hv
  have okl : sm_okl false [(0, .inr (.inr (9, 0, 0))), (1, .inl p1), (2, .inl p2), (3, .inl p3), (4, .inl p4), (5, .inr (.inr (30, 0, 1)))] := by
    intro q hq
    simp only [List.mem_cons, List.not_mem_nil, or_false] at hq
    rcases hq with rfl | rfl | rfl | rfl | rfl | rfl
    · exact ox
    · trivial
    · trivial
    · trivial
    · trivial
    · exact oo
  -- the end
  have kend : ∀ M1, R = (0, .inl 0, M1) → sm_SW D tc ad (va_A (sm_W tc ad M) s.heap.size) s.heap 7 (sm_KW p l e (headSpec (Cond.codeWith (lt_y kLaw_step) (lt_b kLaw_step) (lt_n kLaw_step) (some .int) [(0, 14, 17, 13), (0, 14, 21, 15), (0, 14, 25, 17)] :: lw_g) (sm_rmW kLaw_step)).room s m ([.inr (.inr (9, 0, 0)), .inl p1, .inl p2, .inl p3, .inl p4, .inr (.inr (30, 0, 1))].map (sm_t ad)).toArray below meth c 1 6 (MQ below (va_Qi (S := Unit) (fun x _ => R.2.1 = .inl x) (sm_T D tc ad R.2.2) (va_A (sm_W tc ad M) s.heap.size)) ([.inr (.inr (9, 0, 0)), .inl p1, .inl p2, .inl p3, .inl p4, .inr (.inr (30, 0, 1))].map (sm_t ad)).toArray s 1 6 (va_A (sm_W tc ad M) s.heap.size))) 29 [(0, .inr (.inr (9, 0, 0))), (1, .inl p1), (2, .inl p2), (3, .inl p3), (4, .inl p4), (5, .inr (.inr (30, 0, 1)))] [] M1 := by
    intro M1 hR1
    subst hR1
    refine (sm_s1_ok X (i := (.iconst 0, [.inl (0 : Int32)], [])) (len := 1) (ls := [(0, .inr (.inr (9, 0, 0))), (1, .inl p1), (2, .inl p2), (3, .inl p3), (4, .inl p4), (5, .inr (.inr (30, 0, 1)))]) (st := []) (by decide +kernel) (by decide +kernel) rfl okl on).2 ?_
    intro H locs la hP hS hl
    exact W.iret hx hb hret (fun t ht hW => ⟨⟨0, (), rfl, rfl, by show va_P _ _ _ t.heap; rw [ht]; exact hP⟩, hS.F ht⟩) hS.2.2 (by decide +kernel)
  have kst : ∀ (M1 : sm_M) (v : Int64), R = (0, .inl 0, sm_w M1 30 0 1 0 v) → sm_SW D tc ad (va_A (sm_W tc ad M) s.heap.size) s.heap 7 (sm_KW p l e (headSpec (Cond.codeWith (lt_y kLaw_step) (lt_b kLaw_step) (lt_n kLaw_step) (some .int) [(0, 14, 17, 13), (0, 14, 21, 15), (0, 14, 25, 17)] :: lw_g) (sm_rmW kLaw_step)).room s m ([.inr (.inr (9, 0, 0)), .inl p1, .inl p2, .inl p3, .inl p4, .inr (.inr (30, 0, 1))].map (sm_t ad)).toArray below meth c 1 6 (MQ below (va_Qi (S := Unit) (fun x _ => R.2.1 = .inl x) (sm_T D tc ad R.2.2) (va_A (sm_W tc ad M) s.heap.size)) ([.inr (.inr (9, 0, 0)), .inl p1, .inl p2, .inl p3, .inl p4, .inr (.inr (30, 0, 1))].map (sm_t ad)).toArray s 1 6 (va_A (sm_W tc ad M) s.heap.size))) 13 [(0, .inr (.inr (9, 0, 0))), (1, .inl p1), (2, .inl p2), (3, .inl p3), (4, .inl p4), (5, .inr (.inr (30, 0, 1)))] [.inr (.inl v), .inl 0, .inr (.inr (30, 0, 1))] M1 := by
    intro M1 v hR1
    refine (sm_s1_ok X (i := (.lastore, [], [])) (len := 1) (ls := [(0, .inr (.inr (9, 0, 0))), (1, .inl p1), (2, .inl p2), (3, .inl p3), (4, .inl p4), (5, .inr (.inr (30, 0, 1)))]) (st := [.inr (.inl v), .inl 0, .inr (.inr (30, 0, 1))]) (ls' := [(0, .inr (.inr (9, 0, 0))), (1, .inl p1), (2, .inl p2), (3, .inl p3), (4, .inl p4), (5, .inr (.inr (30, 0, 1)))]) (st' := []) (M' := sm_w M1 30 0 1 0 v) (by decide +kernel) (by decide +kernel) rfl okl (sm_oks_c.mpr ⟨trivial, sm_oks_c.mpr ⟨trivial, sm_oks_c.mpr ⟨oo, on⟩⟩⟩)).2 ?_
    intro H locs la hP hS hl
    exact lv_goto (tgt := 29) hx hb (pc := 14) (off := 15) (by decide +kernel) (by decide) (kend _ hR1 H locs la hP hS hl)
  have kcall : sm_SW D tc ad (va_A (sm_W tc ad M) s.heap.size) s.heap 7 (sm_KW p l e (headSpec (Cond.codeWith (lt_y kLaw_step) (lt_b kLaw_step) (lt_n kLaw_step) (some .int) [(0, 14, 17, 13), (0, 14, 21, 15), (0, 14, 25, 17)] :: lw_g) (sm_rmW kLaw_step)).room s m ([.inr (.inr (9, 0, 0)), .inl p1, .inl p2, .inl p3, .inl p4, .inr (.inr (30, 0, 1))].map (sm_t ad)).toArray below meth c 0 0 (MQ below (va_Qi (S := Unit) (fun x _ => R.2.1 = .inl x) (sm_T D tc ad R.2.2) (va_A (sm_W tc ad M) s.heap.size)) ([.inr (.inr (9, 0, 0)), .inl p1, .inl p2, .inl p3, .inl p4, .inr (.inr (30, 0, 1))].map (sm_t ad)).toArray s 1 6 (va_A (sm_W tc ad M) s.heap.size))) 9 [(0, .inr (.inr (9, 0, 0))), (1, .inl p1), (2, .inl p2), (3, .inl p3), (4, .inl p4), (5, .inr (.inr (30, 0, 1)))] [.inl p4, .inl p3, .inl p2, .inl p1, .inr (.inr (9, 0, 0)), .inl 0, .inr (.inr (30, 0, 1))] M := by
    intro H locs la hP hS hl
    obtain ⟨q0, hq0, hw0⟩ := sm_W_at (tc := tc) (ad := ad) M (r := (9, 0, 0)) (by decide +kernel)
    rw [sm_ce_o] at hw0
    have hrecv := va_recv hK hP (ci := 9) rfl hw0
    have hpre := sm_preX hK hD (fun q h => Or.inr h) hN hPT hS hP ([.inr (.inr (9, 0, 0)), .inl p1, .inl p2, .inl p3, .inl p4].map (sm_t ad))
    obtain ⟨g1, g2, g3, g4, g5⟩ := sm_mb_spec (sm_mb_all kTop_step (by decide))
    have g5 : Cond.instanceMethod (lt_y kTop_step) ∈ lw_g ∧ Cond.selects (lt_y kTop_step).cls (lt_y kTop_step) (lt_y kTop_step) ∈ lw_g := by
      rcases g5 with ⟨q, -⟩ | ⟨-, q1, q2, -⟩
      · exact absurd q (by decide +kernel)
      · exact ⟨q1, q2⟩
    have hw1 : Cond.methodLink RL 7 (lt_y kTop_step) ∈ lw_g := sm_wd_in (i := 452) (by decide +kernel)
    have hrun := vx_runV (p := p) (l := l) (e := e) (R := (headSpec (Cond.codeWith (lt_y kLaw_step) (lt_b kLaw_step) (lt_n kLaw_step) (some .int) [(0, 14, 17, 13), (0, 14, 21, 15), (0, 14, 25, 17)] :: lw_g) (sm_rmW kLaw_step)).room) (below := below) (meth := meth) (locs := locs) (cells := 0) (slots := 0) (As := ([.inl p1, .inl p2, .inl p3, .inl p4] : List sm_v).map (sm_t ad)) (rest := ([.inl 0, .inr (.inr (30, 0, 1))] : List sm_v).map (sm_t ad)) (b := ad (9, 0, 0)) (n := 4) (index := 7) (C := RX9) (g := F0 m 9 la (([.inl p4, .inl p3, .inl p2, .inl p1, .inr (.inr (9, 0, 0)), .inl 0, .inr (.inr (30, 0, 1))] : List sm_v).map (sm_t ad))) ⟨hx, hb, hml, hown, hts⟩ (hM H.size)
      ⟨callB_of 4 hts (lw_g_in (fun w hw => by rcases List.mem_cons.mp hw with rfl | hw; exact g4; exact hw)) rfl rfl rfl (hts _ g3) (hts _ hw1) ⟨g2.1, g2.2, by decide +kernel⟩ ⟨by decide +kernel, by decide +kernel⟩, hts _ g5.1, hts _ g5.2⟩
      ⟨hpre.1, hrecv, hpre.2⟩ rfl rfl hl.1 rfl (lv_room (Nat.le_of_ble_eq_true rfl)) (show decode cL_step 9 = .ok (.invokevirtual 7, 3) by decide +kernel) ⟨Nat.le_refl _, Nat.le_refl _⟩
    have hF := sm_freeA hD (fun q h => Or.inr h) hS M
    refine vx_calli (S := Unit) (SX := Unit) (a := ([.inr (.inr (9, 0, 0)), .inl p1, .inl p2, .inl p3, .inl p4].map (sm_t ad)).toArray) hrun hS (fun q _ h => hF q h) hF (fun q _ h => hF q h) (fun E ce q9 u t H1 locs1 ht hvm hpx hBX hz hk hS1 hce hcv hcl => ?_) (fun rv u t H1 locs1 ht hvm hw hB hz1 hk1 hS1 => ?_)
    · obtain ⟨⟨ex, hex1, rfl⟩, hP1⟩ := hBX
      rw [ht] at hP1
      obtain ⟨r0, rv, rM⟩ := r
      have hex1 : r0 = ex + 1 := hex1
      subst hex1
      have hR1 : R = (0, .inl (nI ([1, 2, 3].getD ex 0)), rM) := (Option.some.inj (show some ((0, .inl (nI ([1, 2, 3].getD ex 0)), rM) : sm_R) = some R by rw [← hR]; rfl)).symm
      have hre2 : ex = 0 ∨ ex = 1 ∨ ex = 2 := by
        rcases hre with h | h | h | h
        · exact absurd h (Nat.succ_ne_zero _)
        · exact Or.inl (Nat.succ.inj h)
        · exact Or.inr (Or.inl (Nat.succ.inj h))
        · exact Or.inr (Or.inr ((Nat.succ.inj h)))
      rcases hre2 with rfl | rfl | rfl
      · refine sm_catch (ex := 0) hown hts hPT.1 hNc (by decide) [] (0, 14, 17, 13) [(0, 14, 21, 15), (0, 14, 25, 17)] htab (fun y hy => by cases hy) rfl ⟨by decide, by decide⟩ hce hcv hcl ?_
        refine lv_astore (lv' := _) (i := 6) hx hb (show decode cL_step 17 = .ok (.astore 6, 2) by decide +kernel) hl (by decide) rfl (fun la hl => ?_)
        refine lv_iconst (v := 1) hx hb (show decode cL_step 19 = .ok (.iconst 1, 1) by decide +kernel) (by decide) ?_
        exact W.iret hx hb hret (fun t ht hW => ⟨⟨1, (), rfl, by rw [hR1]; rfl, by show va_P _ _ _ t.heap; rw [ht, hR1]; exact hP1⟩, hS1.F ht⟩) hS1.2.2 (show decode cL_step 20 = .ok (.ireturn, 1) by decide +kernel)
      · refine sm_catch (ex := 1) hown hts hPT.1 hNc (by decide) [(0, 14, 17, 13)] (0, 14, 21, 15) [(0, 14, 25, 17)] htab (fun y hy => by simp only [List.mem_cons, List.not_mem_nil, or_false] at hy; rcases hy with rfl; exact ⟨0, by decide, by decide, rfl⟩) rfl ⟨by decide, by decide⟩ hce hcv hcl ?_
        refine lv_astore (lv' := _) (i := 6) hx hb (show decode cL_step 21 = .ok (.astore 6, 2) by decide +kernel) hl (by decide) rfl (fun la hl => ?_)
        refine lv_iconst (v := 2) hx hb (show decode cL_step 23 = .ok (.iconst 2, 1) by decide +kernel) (by decide) ?_
        exact W.iret hx hb hret (fun t ht hW => ⟨⟨2, (), rfl, by rw [hR1]; rfl, by show va_P _ _ _ t.heap; rw [ht, hR1]; exact hP1⟩, hS1.F ht⟩) hS1.2.2 (show decode cL_step 24 = .ok (.ireturn, 1) by decide +kernel)
      · refine sm_catch (ex := 2) hown hts hPT.1 hNc (by decide) [(0, 14, 17, 13), (0, 14, 21, 15)] (0, 14, 25, 17) [] htab (fun y hy => by simp only [List.mem_cons, List.not_mem_nil, or_false] at hy; rcases hy with rfl | rfl; exact ⟨0, by decide, by decide, rfl⟩; exact ⟨1, by decide, by decide, rfl⟩) rfl ⟨by decide, by decide⟩ hce hcv hcl ?_
        refine lv_astore (lv' := _) (i := 6) hx hb (show decode cL_step 25 = .ok (.astore 6, 2) by decide +kernel) hl (by decide) rfl (fun la hl => ?_)
        refine lv_iconst (v := 3) hx hb (show decode cL_step 27 = .ok (.iconst 3, 1) by decide +kernel) (by decide) ?_
        exact W.iret hx hb hret (fun t ht hW => ⟨⟨3, (), rfl, by rw [hR1]; rfl, by show va_P _ _ _ t.heap; rw [ht, hR1]; exact hP1⟩, hS1.F ht⟩) hS1.2.2 (show decode cL_step 28 = .ok (.ireturn, 1) by decide +kernel)
    · obtain ⟨hw1, hw2⟩ := hw
      have hP1 : va_P D vwCl (sm_W tc ad r.2.2) t.heap := hB
      rw [ht] at hP1
      obtain ⟨r0, rv0, rM⟩ := r
      have hw1 : r0 = 0 := hw1
      have hw2 : rv0 = .inl rv := hw2
      subst hw1; subst hw2
      have hR1 : R = (0, .inl 0, sm_w rM 30 0 1 0 rv.toInt64) := (Option.some.inj (show some ((0, .inl 0, sm_w rM 30 0 1 0 rv.toInt64) : sm_R) = some R by rw [← hR]; rfl)).symm
      have k2 := (sm_s1_ok X (i := (.i2l, [], [])) (len := 1) (pc := 12) (ls := [(0, .inr (.inr (9, 0, 0))), (1, .inl p1), (2, .inl p2), (3, .inl p3), (4, .inl p4), (5, .inr (.inr (30, 0, 1)))]) (st := [.inl rv, .inl 0, .inr (.inr (30, 0, 1))]) (by decide +kernel) (by decide +kernel) rfl okl (sm_oks_c.mpr ⟨trivial, sm_oks_c.mpr ⟨trivial, sm_oks_c.mpr ⟨oo, on⟩⟩⟩)).2 (kst rM rv.toInt64 hR1)
      exact k2 H1 locs1 la hP1 hS1 hl
  have k_7 := (sm_s1_ok X (i := (.iload 4, [], [])) (len := 2) (pc := 7) (ls := [(0, .inr (.inr (9, 0, 0))), (1, .inl p1), (2, .inl p2), (3, .inl p3), (4, .inl p4), (5, .inr (.inr (30, 0, 1)))]) (st := [.inl p3, .inl p2, .inl p1, .inr (.inr (9, 0, 0)), .inl 0, .inr (.inr (30, 0, 1))]) (by decide +kernel) (by decide +kernel) rfl okl (sm_oks_c.mpr ⟨trivial, (sm_oks_c.mpr ⟨trivial, (sm_oks_c.mpr ⟨trivial, (sm_oks_c.mpr ⟨ox, (sm_oks_c.mpr ⟨trivial, (sm_oks_c.mpr ⟨oo, on⟩)⟩)⟩)⟩)⟩)⟩)).2 kcall
  have k_6 := (sm_s1_ok X (i := (.iload_n 3, [], [])) (len := 1) (pc := 6) (ls := [(0, .inr (.inr (9, 0, 0))), (1, .inl p1), (2, .inl p2), (3, .inl p3), (4, .inl p4), (5, .inr (.inr (30, 0, 1)))]) (st := [.inl p2, .inl p1, .inr (.inr (9, 0, 0)), .inl 0, .inr (.inr (30, 0, 1))]) (by decide +kernel) (by decide +kernel) rfl okl (sm_oks_c.mpr ⟨trivial, (sm_oks_c.mpr ⟨trivial, (sm_oks_c.mpr ⟨ox, (sm_oks_c.mpr ⟨trivial, (sm_oks_c.mpr ⟨oo, on⟩)⟩)⟩)⟩)⟩)).2 k_7
  have k_5 := (sm_s1_ok X (i := (.iload_n 2, [], [])) (len := 1) (pc := 5) (ls := [(0, .inr (.inr (9, 0, 0))), (1, .inl p1), (2, .inl p2), (3, .inl p3), (4, .inl p4), (5, .inr (.inr (30, 0, 1)))]) (st := [.inl p1, .inr (.inr (9, 0, 0)), .inl 0, .inr (.inr (30, 0, 1))]) (by decide +kernel) (by decide +kernel) rfl okl (sm_oks_c.mpr ⟨trivial, (sm_oks_c.mpr ⟨ox, (sm_oks_c.mpr ⟨trivial, (sm_oks_c.mpr ⟨oo, on⟩)⟩)⟩)⟩)).2 k_6
  have k_4 := (sm_s1_ok X (i := (.iload_n 1, [], [])) (len := 1) (pc := 4) (ls := [(0, .inr (.inr (9, 0, 0))), (1, .inl p1), (2, .inl p2), (3, .inl p3), (4, .inl p4), (5, .inr (.inr (30, 0, 1)))]) (st := [.inr (.inr (9, 0, 0)), .inl 0, .inr (.inr (30, 0, 1))]) (by decide +kernel) (by decide +kernel) rfl okl (sm_oks_c.mpr ⟨ox, (sm_oks_c.mpr ⟨trivial, (sm_oks_c.mpr ⟨oo, on⟩)⟩)⟩)).2 k_5
  have k_3 := (sm_s1_ok X (i := (.aload_n 0, [], [])) (len := 1) (pc := 3) (ls := [(0, .inr (.inr (9, 0, 0))), (1, .inl p1), (2, .inl p2), (3, .inl p3), (4, .inl p4), (5, .inr (.inr (30, 0, 1)))]) (st := [.inl 0, .inr (.inr (30, 0, 1))]) (by decide +kernel) (by decide +kernel) rfl okl (sm_oks_c.mpr ⟨trivial, (sm_oks_c.mpr ⟨oo, on⟩)⟩)).2 k_4
  have k_2 := (sm_s1_ok X (i := (.iconst 0, [.inl (0 : Int32)], [])) (len := 1) (pc := 2) (ls := [(0, .inr (.inr (9, 0, 0))), (1, .inl p1), (2, .inl p2), (3, .inl p3), (4, .inl p4), (5, .inr (.inr (30, 0, 1)))]) (st := [.inr (.inr (30, 0, 1))]) (by decide +kernel) (by decide +kernel) rfl okl (sm_oks_c.mpr ⟨oo, on⟩)).2 k_3
  have k_0 := (sm_s1_ok X (i := (.aload 5, [], [])) (len := 2) (pc := 0) (ls := [(0, .inr (.inr (9, 0, 0))), (1, .inl p1), (2, .inl p2), (3, .inl p3), (4, .inl p4), (5, .inr (.inr (30, 0, 1)))]) (st := []) (by decide +kernel) (by decide +kernel) rfl okl on).2 k_2
  exact k_0 s.heap [] _ hP va_S.rf hl
set_option maxHeartbeats 4000000 in
theorem wr_channel {l : Launch} {D : va_G} {tc : Nat → ClassId} {ad : Nat × Nat × Nat → Nat} {M : sm_M} {r R : sm_R} (p1 : Int32) (p2 : Int32) (p3 : Int32) (hM : sm_MetX l D tc ad kTop_channel [.inr (.inr (9, 0, 0)), .inl p1, .inl p2, .inl p3] M r) (hre : r.1 = 0 ∨ r.1 = 1 ∨ r.1 = 2 ∨ r.1 = 3) (hR : sm_wr1 (kTop_channel, 0, [1, 2, 3]) (some (.inr (.inr (30, 0, 1)))) (some r) = some R) : sm_MetW l D tc ad kLaw_channel [(0, 12, 15, 13), (0, 12, 19, 15), (0, 12, 23, 17)] [.inr (.inr (9, 0, 0)), .inl p1, .inl p2, .inl p3, .inr (.inr (30, 0, 1))] M R := by
  intro sz
  refine va_MetW (cc := cL_channel) (maxL := 6) (ret := some .int) (by decide +kernel) rfl ?_
  intro p e s m args below meth c s₁ B hml hv
  obtain ⟨rfl, ⟨⟨hsz, hP, hK, hD0, hN⟩, hPT⟩, hNc⟩ := hv
  have hx := B.exec
  have hb := B.bytes
  have hret := B.returns
  have hts0 := atoms_spec (ws := Cond.codeWith (lt_y kLaw_channel) (lt_b kLaw_channel) (lt_n kLaw_channel) (some .int) [(0, 12, 15, 13), (0, 12, 19, 15), (0, 12, 23, 17)] :: lw_g) B.pre
  have hown : s.vm.findClass RL = some m.cls := findClass_of_methodNamed B.named
  have hlocks := B.notSynchronized
  have htab := vx_table (x := yL_law) B (hts0 _ List.mem_cons_self)
  subst hsz
  have hD := sm_D_all (D := D) (sz := s.heap.size) hD0
  have hts : ∀ w ∈ lw_g, w.before ([.inr (.inr (9, 0, 0)), .inl p1, .inl p2, .inl p3, .inr (.inr (30, 0, 1))].map (sm_t ad)).toArray s = true := fun w hw => hts0 w (List.mem_cons_of_mem _ hw)
  have X : sm_Cx p s m ([.inr (.inr (9, 0, 0)), .inl p1, .inl p2, .inl p3, .inr (.inr (30, 0, 1))].map (sm_t ad)).toArray c cL_channel 6 RL D tc ad (va_A (sm_W tc ad M) s.heap.size) s.heap (0, fun _ => 0) false := ⟨hx, hb, hml, hown, hts, hK, hD, hN, fun q h => Or.inr h, fun h => by cases h⟩
  have hl := lv_entry ([.inr (.inr (9, 0, 0)), .inl p1, .inl p2, .inl p3, .inr (.inr (30, 0, 1))].map (sm_t ad)) (n := 6) (by rw [lg_sl_len]; exact Nat.le_of_ble_eq_true rfl)
  rw [lg_entry_eq]
  rw [lv_args_ent] at hl
  have ox : sm_ok false (.inr (.inr (9, 0, 0))) := Or.inl (by decide +kernel)
  have oo : sm_ok false (.inr (.inr (30, 0, 1))) := Or.inl (by decide +kernel)
  have on : sm_oks false [] := fun v hv => by cases hv
  have okl : sm_okl false [(0, .inr (.inr (9, 0, 0))), (1, .inl p1), (2, .inl p2), (3, .inl p3), (4, .inr (.inr (30, 0, 1)))] := by
    intro q hq
    simp only [List.mem_cons, List.not_mem_nil, or_false] at hq
    rcases hq with rfl | rfl | rfl | rfl | rfl
    · exact ox
    · trivial
    · trivial
    · trivial
    · exact oo
  -- the end
  have kend : ∀ M1, R = (0, .inl 0, M1) → sm_SW D tc ad (va_A (sm_W tc ad M) s.heap.size) s.heap 6 (sm_KW p l e (headSpec (Cond.codeWith (lt_y kLaw_channel) (lt_b kLaw_channel) (lt_n kLaw_channel) (some .int) [(0, 12, 15, 13), (0, 12, 19, 15), (0, 12, 23, 17)] :: lw_g) (sm_rmW kLaw_channel)).room s m ([.inr (.inr (9, 0, 0)), .inl p1, .inl p2, .inl p3, .inr (.inr (30, 0, 1))].map (sm_t ad)).toArray below meth c 1 6 (MQ below (va_Qi (S := Unit) (fun x _ => R.2.1 = .inl x) (sm_T D tc ad R.2.2) (va_A (sm_W tc ad M) s.heap.size)) ([.inr (.inr (9, 0, 0)), .inl p1, .inl p2, .inl p3, .inr (.inr (30, 0, 1))].map (sm_t ad)).toArray s 1 6 (va_A (sm_W tc ad M) s.heap.size))) 27 [(0, .inr (.inr (9, 0, 0))), (1, .inl p1), (2, .inl p2), (3, .inl p3), (4, .inr (.inr (30, 0, 1)))] [] M1 := by
    intro M1 hR1
    subst hR1
    refine (sm_s1_ok X (i := (.iconst 0, [.inl (0 : Int32)], [])) (len := 1) (ls := [(0, .inr (.inr (9, 0, 0))), (1, .inl p1), (2, .inl p2), (3, .inl p3), (4, .inr (.inr (30, 0, 1)))]) (st := []) (by decide +kernel) (by decide +kernel) rfl okl on).2 ?_
    intro H locs la hP hS hl
    exact W.iret hx hb hret (fun t ht hW => ⟨⟨0, (), rfl, rfl, by show va_P _ _ _ t.heap; rw [ht]; exact hP⟩, hS.F ht⟩) hS.2.2 (by decide +kernel)
  have kst : ∀ (M1 : sm_M) (v : Int64), R = (0, .inl 0, sm_w M1 30 0 1 0 v) → sm_SW D tc ad (va_A (sm_W tc ad M) s.heap.size) s.heap 6 (sm_KW p l e (headSpec (Cond.codeWith (lt_y kLaw_channel) (lt_b kLaw_channel) (lt_n kLaw_channel) (some .int) [(0, 12, 15, 13), (0, 12, 19, 15), (0, 12, 23, 17)] :: lw_g) (sm_rmW kLaw_channel)).room s m ([.inr (.inr (9, 0, 0)), .inl p1, .inl p2, .inl p3, .inr (.inr (30, 0, 1))].map (sm_t ad)).toArray below meth c 1 6 (MQ below (va_Qi (S := Unit) (fun x _ => R.2.1 = .inl x) (sm_T D tc ad R.2.2) (va_A (sm_W tc ad M) s.heap.size)) ([.inr (.inr (9, 0, 0)), .inl p1, .inl p2, .inl p3, .inr (.inr (30, 0, 1))].map (sm_t ad)).toArray s 1 6 (va_A (sm_W tc ad M) s.heap.size))) 11 [(0, .inr (.inr (9, 0, 0))), (1, .inl p1), (2, .inl p2), (3, .inl p3), (4, .inr (.inr (30, 0, 1)))] [.inr (.inl v), .inl 0, .inr (.inr (30, 0, 1))] M1 := by
    intro M1 v hR1
    refine (sm_s1_ok X (i := (.lastore, [], [])) (len := 1) (ls := [(0, .inr (.inr (9, 0, 0))), (1, .inl p1), (2, .inl p2), (3, .inl p3), (4, .inr (.inr (30, 0, 1)))]) (st := [.inr (.inl v), .inl 0, .inr (.inr (30, 0, 1))]) (ls' := [(0, .inr (.inr (9, 0, 0))), (1, .inl p1), (2, .inl p2), (3, .inl p3), (4, .inr (.inr (30, 0, 1)))]) (st' := []) (M' := sm_w M1 30 0 1 0 v) (by decide +kernel) (by decide +kernel) rfl okl (sm_oks_c.mpr ⟨trivial, sm_oks_c.mpr ⟨trivial, sm_oks_c.mpr ⟨oo, on⟩⟩⟩)).2 ?_
    intro H locs la hP hS hl
    exact lv_goto (tgt := 27) hx hb (pc := 12) (off := 15) (by decide +kernel) (by decide) (kend _ hR1 H locs la hP hS hl)
  have kcall : sm_SW D tc ad (va_A (sm_W tc ad M) s.heap.size) s.heap 6 (sm_KW p l e (headSpec (Cond.codeWith (lt_y kLaw_channel) (lt_b kLaw_channel) (lt_n kLaw_channel) (some .int) [(0, 12, 15, 13), (0, 12, 19, 15), (0, 12, 23, 17)] :: lw_g) (sm_rmW kLaw_channel)).room s m ([.inr (.inr (9, 0, 0)), .inl p1, .inl p2, .inl p3, .inr (.inr (30, 0, 1))].map (sm_t ad)).toArray below meth c 0 0 (MQ below (va_Qi (S := Unit) (fun x _ => R.2.1 = .inl x) (sm_T D tc ad R.2.2) (va_A (sm_W tc ad M) s.heap.size)) ([.inr (.inr (9, 0, 0)), .inl p1, .inl p2, .inl p3, .inr (.inr (30, 0, 1))].map (sm_t ad)).toArray s 1 6 (va_A (sm_W tc ad M) s.heap.size))) 7 [(0, .inr (.inr (9, 0, 0))), (1, .inl p1), (2, .inl p2), (3, .inl p3), (4, .inr (.inr (30, 0, 1)))] [.inl p3, .inl p2, .inl p1, .inr (.inr (9, 0, 0)), .inl 0, .inr (.inr (30, 0, 1))] M := by
    intro H locs la hP hS hl
    obtain ⟨q0, hq0, hw0⟩ := sm_W_at (tc := tc) (ad := ad) M (r := (9, 0, 0)) (by decide +kernel)
    rw [sm_ce_o] at hw0
    have hrecv := va_recv hK hP (ci := 9) rfl hw0
    have hpre := sm_preX hK hD (fun q h => Or.inr h) hN hPT hS hP ([.inr (.inr (9, 0, 0)), .inl p1, .inl p2, .inl p3].map (sm_t ad))
    obtain ⟨g1, g2, g3, g4, g5⟩ := sm_mb_spec (sm_mb_all kTop_channel (by decide))
    have g5 : Cond.instanceMethod (lt_y kTop_channel) ∈ lw_g ∧ Cond.selects (lt_y kTop_channel).cls (lt_y kTop_channel) (lt_y kTop_channel) ∈ lw_g := by
      rcases g5 with ⟨q, -⟩ | ⟨-, q1, q2, -⟩
      · exact absurd q (by decide +kernel)
      · exact ⟨q1, q2⟩
    have hw1 : Cond.methodLink RL 19 (lt_y kTop_channel) ∈ lw_g := sm_wd_in (i := 579) (by decide +kernel)
    have hrun := vx_runV (p := p) (l := l) (e := e) (R := (headSpec (Cond.codeWith (lt_y kLaw_channel) (lt_b kLaw_channel) (lt_n kLaw_channel) (some .int) [(0, 12, 15, 13), (0, 12, 19, 15), (0, 12, 23, 17)] :: lw_g) (sm_rmW kLaw_channel)).room) (below := below) (meth := meth) (locs := locs) (cells := 0) (slots := 0) (As := ([.inl p1, .inl p2, .inl p3] : List sm_v).map (sm_t ad)) (rest := ([.inl 0, .inr (.inr (30, 0, 1))] : List sm_v).map (sm_t ad)) (b := ad (9, 0, 0)) (n := 3) (index := 19) (C := RX9) (g := F0 m 7 la (([.inl p3, .inl p2, .inl p1, .inr (.inr (9, 0, 0)), .inl 0, .inr (.inr (30, 0, 1))] : List sm_v).map (sm_t ad))) ⟨hx, hb, hml, hown, hts⟩ (hM H.size)
      ⟨callB_of 3 hts (lw_g_in (fun w hw => by rcases List.mem_cons.mp hw with rfl | hw; exact g4; exact hw)) rfl rfl rfl (hts _ g3) (hts _ hw1) ⟨g2.1, g2.2, by decide +kernel⟩ ⟨by decide +kernel, by decide +kernel⟩, hts _ g5.1, hts _ g5.2⟩
      ⟨hpre.1, hrecv, hpre.2⟩ rfl rfl hl.1 rfl (lv_room (Nat.le_of_ble_eq_true rfl)) (show decode cL_channel 7 = .ok (.invokevirtual 19, 3) by decide +kernel) ⟨Nat.le_refl _, Nat.le_refl _⟩
    have hF := sm_freeA hD (fun q h => Or.inr h) hS M
    refine vx_calli (S := Unit) (SX := Unit) (a := ([.inr (.inr (9, 0, 0)), .inl p1, .inl p2, .inl p3].map (sm_t ad)).toArray) hrun hS (fun q _ h => hF q h) hF (fun q _ h => hF q h) (fun E ce q9 u t H1 locs1 ht hvm hpx hBX hz hk hS1 hce hcv hcl => ?_) (fun rv u t H1 locs1 ht hvm hw hB hz1 hk1 hS1 => ?_)
    · obtain ⟨⟨ex, hex1, rfl⟩, hP1⟩ := hBX
      rw [ht] at hP1
      obtain ⟨r0, rv, rM⟩ := r
      have hex1 : r0 = ex + 1 := hex1
      subst hex1
      have hR1 : R = (0, .inl (nI ([1, 2, 3].getD ex 0)), rM) := (Option.some.inj (show some ((0, .inl (nI ([1, 2, 3].getD ex 0)), rM) : sm_R) = some R by rw [← hR]; rfl)).symm
      have hre2 : ex = 0 ∨ ex = 1 ∨ ex = 2 := by
        rcases hre with h | h | h | h
        · exact absurd h (Nat.succ_ne_zero _)
        · exact Or.inl (Nat.succ.inj h)
        · exact Or.inr (Or.inl (Nat.succ.inj h))
        · exact Or.inr (Or.inr ((Nat.succ.inj h)))
      rcases hre2 with rfl | rfl | rfl
      · refine sm_catch (ex := 0) hown hts hPT.1 hNc (by decide) [] (0, 12, 15, 13) [(0, 12, 19, 15), (0, 12, 23, 17)] htab (fun y hy => by cases hy) rfl ⟨by decide, by decide⟩ hce hcv hcl ?_
        refine lv_astore (lv' := _) (i := 5) hx hb (show decode cL_channel 15 = .ok (.astore 5, 2) by decide +kernel) hl (by decide) rfl (fun la hl => ?_)
        refine lv_iconst (v := 1) hx hb (show decode cL_channel 17 = .ok (.iconst 1, 1) by decide +kernel) (by decide) ?_
        exact W.iret hx hb hret (fun t ht hW => ⟨⟨1, (), rfl, by rw [hR1]; rfl, by show va_P _ _ _ t.heap; rw [ht, hR1]; exact hP1⟩, hS1.F ht⟩) hS1.2.2 (show decode cL_channel 18 = .ok (.ireturn, 1) by decide +kernel)
      · refine sm_catch (ex := 1) hown hts hPT.1 hNc (by decide) [(0, 12, 15, 13)] (0, 12, 19, 15) [(0, 12, 23, 17)] htab (fun y hy => by simp only [List.mem_cons, List.not_mem_nil, or_false] at hy; rcases hy with rfl; exact ⟨0, by decide, by decide, rfl⟩) rfl ⟨by decide, by decide⟩ hce hcv hcl ?_
        refine lv_astore (lv' := _) (i := 5) hx hb (show decode cL_channel 19 = .ok (.astore 5, 2) by decide +kernel) hl (by decide) rfl (fun la hl => ?_)
        refine lv_iconst (v := 2) hx hb (show decode cL_channel 21 = .ok (.iconst 2, 1) by decide +kernel) (by decide) ?_
        exact W.iret hx hb hret (fun t ht hW => ⟨⟨2, (), rfl, by rw [hR1]; rfl, by show va_P _ _ _ t.heap; rw [ht, hR1]; exact hP1⟩, hS1.F ht⟩) hS1.2.2 (show decode cL_channel 22 = .ok (.ireturn, 1) by decide +kernel)
      · refine sm_catch (ex := 2) hown hts hPT.1 hNc (by decide) [(0, 12, 15, 13), (0, 12, 19, 15)] (0, 12, 23, 17) [] htab (fun y hy => by simp only [List.mem_cons, List.not_mem_nil, or_false] at hy; rcases hy with rfl | rfl; exact ⟨0, by decide, by decide, rfl⟩; exact ⟨1, by decide, by decide, rfl⟩) rfl ⟨by decide, by decide⟩ hce hcv hcl ?_
        refine lv_astore (lv' := _) (i := 5) hx hb (show decode cL_channel 23 = .ok (.astore 5, 2) by decide +kernel) hl (by decide) rfl (fun la hl => ?_)
        refine lv_iconst (v := 3) hx hb (show decode cL_channel 25 = .ok (.iconst 3, 1) by decide +kernel) (by decide) ?_
        exact W.iret hx hb hret (fun t ht hW => ⟨⟨3, (), rfl, by rw [hR1]; rfl, by show va_P _ _ _ t.heap; rw [ht, hR1]; exact hP1⟩, hS1.F ht⟩) hS1.2.2 (show decode cL_channel 26 = .ok (.ireturn, 1) by decide +kernel)
    · obtain ⟨hw1, hw2⟩ := hw
      have hP1 : va_P D vwCl (sm_W tc ad r.2.2) t.heap := hB
      rw [ht] at hP1
      obtain ⟨r0, rv0, rM⟩ := r
      have hw1 : r0 = 0 := hw1
      have hw2 : rv0 = .inl rv := hw2
      subst hw1; subst hw2
      have hR1 : R = (0, .inl 0, sm_w rM 30 0 1 0 rv.toInt64) := (Option.some.inj (show some ((0, .inl 0, sm_w rM 30 0 1 0 rv.toInt64) : sm_R) = some R by rw [← hR]; rfl)).symm
      have k2 := (sm_s1_ok X (i := (.i2l, [], [])) (len := 1) (pc := 10) (ls := [(0, .inr (.inr (9, 0, 0))), (1, .inl p1), (2, .inl p2), (3, .inl p3), (4, .inr (.inr (30, 0, 1)))]) (st := [.inl rv, .inl 0, .inr (.inr (30, 0, 1))]) (by decide +kernel) (by decide +kernel) rfl okl (sm_oks_c.mpr ⟨trivial, sm_oks_c.mpr ⟨trivial, sm_oks_c.mpr ⟨oo, on⟩⟩⟩)).2 (kst rM rv.toInt64 hR1)
      exact k2 H1 locs1 la hP1 hS1 hl
  have k_6 := (sm_s1_ok X (i := (.iload_n 3, [], [])) (len := 1) (pc := 6) (ls := [(0, .inr (.inr (9, 0, 0))), (1, .inl p1), (2, .inl p2), (3, .inl p3), (4, .inr (.inr (30, 0, 1)))]) (st := [.inl p2, .inl p1, .inr (.inr (9, 0, 0)), .inl 0, .inr (.inr (30, 0, 1))]) (by decide +kernel) (by decide +kernel) rfl okl (sm_oks_c.mpr ⟨trivial, (sm_oks_c.mpr ⟨trivial, (sm_oks_c.mpr ⟨ox, (sm_oks_c.mpr ⟨trivial, (sm_oks_c.mpr ⟨oo, on⟩)⟩)⟩)⟩)⟩)).2 kcall
  have k_5 := (sm_s1_ok X (i := (.iload_n 2, [], [])) (len := 1) (pc := 5) (ls := [(0, .inr (.inr (9, 0, 0))), (1, .inl p1), (2, .inl p2), (3, .inl p3), (4, .inr (.inr (30, 0, 1)))]) (st := [.inl p1, .inr (.inr (9, 0, 0)), .inl 0, .inr (.inr (30, 0, 1))]) (by decide +kernel) (by decide +kernel) rfl okl (sm_oks_c.mpr ⟨trivial, (sm_oks_c.mpr ⟨ox, (sm_oks_c.mpr ⟨trivial, (sm_oks_c.mpr ⟨oo, on⟩)⟩)⟩)⟩)).2 k_6
  have k_4 := (sm_s1_ok X (i := (.iload_n 1, [], [])) (len := 1) (pc := 4) (ls := [(0, .inr (.inr (9, 0, 0))), (1, .inl p1), (2, .inl p2), (3, .inl p3), (4, .inr (.inr (30, 0, 1)))]) (st := [.inr (.inr (9, 0, 0)), .inl 0, .inr (.inr (30, 0, 1))]) (by decide +kernel) (by decide +kernel) rfl okl (sm_oks_c.mpr ⟨ox, (sm_oks_c.mpr ⟨trivial, (sm_oks_c.mpr ⟨oo, on⟩)⟩)⟩)).2 k_5
  have k_3 := (sm_s1_ok X (i := (.aload_n 0, [], [])) (len := 1) (pc := 3) (ls := [(0, .inr (.inr (9, 0, 0))), (1, .inl p1), (2, .inl p2), (3, .inl p3), (4, .inr (.inr (30, 0, 1)))]) (st := [.inl 0, .inr (.inr (30, 0, 1))]) (by decide +kernel) (by decide +kernel) rfl okl (sm_oks_c.mpr ⟨trivial, (sm_oks_c.mpr ⟨oo, on⟩)⟩)).2 k_4
  have k_2 := (sm_s1_ok X (i := (.iconst 0, [.inl (0 : Int32)], [])) (len := 1) (pc := 2) (ls := [(0, .inr (.inr (9, 0, 0))), (1, .inl p1), (2, .inl p2), (3, .inl p3), (4, .inr (.inr (30, 0, 1)))]) (st := [.inr (.inr (30, 0, 1))]) (by decide +kernel) (by decide +kernel) rfl okl (sm_oks_c.mpr ⟨oo, on⟩)).2 k_3
  have k_0 := (sm_s1_ok X (i := (.aload 4, [], [])) (len := 2) (pc := 0) (ls := [(0, .inr (.inr (9, 0, 0))), (1, .inl p1), (2, .inl p2), (3, .inl p3), (4, .inr (.inr (30, 0, 1)))]) (st := []) (by decide +kernel) (by decide +kernel) rfl okl on).2 k_2
  exact k_0 s.heap [] _ hP va_S.rf hl
set_option maxHeartbeats 4000000 in
theorem wr_op {l : Launch} {D : va_G} {tc : Nat → ClassId} {ad : Nat × Nat × Nat → Nat} {M : sm_M} {r R : sm_R} (p1 : Int32) (p2 : Int32) (p3 : Int32) (p4 : Int32) (hM : sm_MetX l D tc ad kTop_op [.inr (.inr (9, 0, 0)), .inl p1, .inl p2, .inl p3, .inl p4] M r) (hre : r.1 = 0 ∨ r.1 = 1 ∨ r.1 = 2 ∨ r.1 = 3) (hR : sm_wr1 (kTop_op, 0, [1, 2, 3]) (some (.inr (.inr (30, 0, 1)))) (some r) = some R) : sm_MetW l D tc ad kLaw_op [(0, 14, 17, 13), (0, 14, 21, 15), (0, 14, 25, 17)] [.inr (.inr (9, 0, 0)), .inl p1, .inl p2, .inl p3, .inl p4, .inr (.inr (30, 0, 1))] M R := by
  intro sz
  refine va_MetW (cc := cL_op) (maxL := 7) (ret := some .int) (by decide +kernel) rfl ?_
  intro p e s m args below meth c s₁ B hml hv
  obtain ⟨rfl, ⟨⟨hsz, hP, hK, hD0, hN⟩, hPT⟩, hNc⟩ := hv
  have hx := B.exec
  have hb := B.bytes
  have hret := B.returns
  have hts0 := atoms_spec (ws := Cond.codeWith (lt_y kLaw_op) (lt_b kLaw_op) (lt_n kLaw_op) (some .int) [(0, 14, 17, 13), (0, 14, 21, 15), (0, 14, 25, 17)] :: lw_g) B.pre
  have hown : s.vm.findClass RL = some m.cls := findClass_of_methodNamed B.named
  have hlocks := B.notSynchronized
  have htab := vx_table (x := yL_law) B (hts0 _ List.mem_cons_self)
  subst hsz
  have hD := sm_D_all (D := D) (sz := s.heap.size) hD0
  have hts : ∀ w ∈ lw_g, w.before ([.inr (.inr (9, 0, 0)), .inl p1, .inl p2, .inl p3, .inl p4, .inr (.inr (30, 0, 1))].map (sm_t ad)).toArray s = true := fun w hw => hts0 w (List.mem_cons_of_mem _ hw)
  have X : sm_Cx p s m ([.inr (.inr (9, 0, 0)), .inl p1, .inl p2, .inl p3, .inl p4, .inr (.inr (30, 0, 1))].map (sm_t ad)).toArray c cL_op 7 RL D tc ad (va_A (sm_W tc ad M) s.heap.size) s.heap (0, fun _ => 0) false := ⟨hx, hb, hml, hown, hts, hK, hD, hN, fun q h => Or.inr h, fun h => by cases h⟩
  have hl := lv_entry ([.inr (.inr (9, 0, 0)), .inl p1, .inl p2, .inl p3, .inl p4, .inr (.inr (30, 0, 1))].map (sm_t ad)) (n := 7) (by rw [lg_sl_len]; exact Nat.le_of_ble_eq_true rfl)
  rw [lg_entry_eq]
  rw [lv_args_ent] at hl
  have ox : sm_ok false (.inr (.inr (9, 0, 0))) := Or.inl (by decide +kernel)
  have oo : sm_ok false (.inr (.inr (30, 0, 1))) := Or.inl (by decide +kernel)
  have on : sm_oks false [] := fun v hv => by cases hv
  have okl : sm_okl false [(0, .inr (.inr (9, 0, 0))), (1, .inl p1), (2, .inl p2), (3, .inl p3), (4, .inl p4), (5, .inr (.inr (30, 0, 1)))] := by
    intro q hq
    simp only [List.mem_cons, List.not_mem_nil, or_false] at hq
    rcases hq with rfl | rfl | rfl | rfl | rfl | rfl
    · exact ox
    · trivial
    · trivial
    · trivial
    · trivial
    · exact oo
  -- the end
  have kend : ∀ M1, R = (0, .inl 0, M1) → sm_SW D tc ad (va_A (sm_W tc ad M) s.heap.size) s.heap 7 (sm_KW p l e (headSpec (Cond.codeWith (lt_y kLaw_op) (lt_b kLaw_op) (lt_n kLaw_op) (some .int) [(0, 14, 17, 13), (0, 14, 21, 15), (0, 14, 25, 17)] :: lw_g) (sm_rmW kLaw_op)).room s m ([.inr (.inr (9, 0, 0)), .inl p1, .inl p2, .inl p3, .inl p4, .inr (.inr (30, 0, 1))].map (sm_t ad)).toArray below meth c 1 6 (MQ below (va_Qi (S := Unit) (fun x _ => R.2.1 = .inl x) (sm_T D tc ad R.2.2) (va_A (sm_W tc ad M) s.heap.size)) ([.inr (.inr (9, 0, 0)), .inl p1, .inl p2, .inl p3, .inl p4, .inr (.inr (30, 0, 1))].map (sm_t ad)).toArray s 1 6 (va_A (sm_W tc ad M) s.heap.size))) 29 [(0, .inr (.inr (9, 0, 0))), (1, .inl p1), (2, .inl p2), (3, .inl p3), (4, .inl p4), (5, .inr (.inr (30, 0, 1)))] [] M1 := by
    intro M1 hR1
    subst hR1
    refine (sm_s1_ok X (i := (.iconst 0, [.inl (0 : Int32)], [])) (len := 1) (ls := [(0, .inr (.inr (9, 0, 0))), (1, .inl p1), (2, .inl p2), (3, .inl p3), (4, .inl p4), (5, .inr (.inr (30, 0, 1)))]) (st := []) (by decide +kernel) (by decide +kernel) rfl okl on).2 ?_
    intro H locs la hP hS hl
    exact W.iret hx hb hret (fun t ht hW => ⟨⟨0, (), rfl, rfl, by show va_P _ _ _ t.heap; rw [ht]; exact hP⟩, hS.F ht⟩) hS.2.2 (by decide +kernel)
  have kst : ∀ (M1 : sm_M) (v : Int64), R = (0, .inl 0, sm_w M1 30 0 1 0 v) → sm_SW D tc ad (va_A (sm_W tc ad M) s.heap.size) s.heap 7 (sm_KW p l e (headSpec (Cond.codeWith (lt_y kLaw_op) (lt_b kLaw_op) (lt_n kLaw_op) (some .int) [(0, 14, 17, 13), (0, 14, 21, 15), (0, 14, 25, 17)] :: lw_g) (sm_rmW kLaw_op)).room s m ([.inr (.inr (9, 0, 0)), .inl p1, .inl p2, .inl p3, .inl p4, .inr (.inr (30, 0, 1))].map (sm_t ad)).toArray below meth c 1 6 (MQ below (va_Qi (S := Unit) (fun x _ => R.2.1 = .inl x) (sm_T D tc ad R.2.2) (va_A (sm_W tc ad M) s.heap.size)) ([.inr (.inr (9, 0, 0)), .inl p1, .inl p2, .inl p3, .inl p4, .inr (.inr (30, 0, 1))].map (sm_t ad)).toArray s 1 6 (va_A (sm_W tc ad M) s.heap.size))) 13 [(0, .inr (.inr (9, 0, 0))), (1, .inl p1), (2, .inl p2), (3, .inl p3), (4, .inl p4), (5, .inr (.inr (30, 0, 1)))] [.inr (.inl v), .inl 0, .inr (.inr (30, 0, 1))] M1 := by
    intro M1 v hR1
    refine (sm_s1_ok X (i := (.lastore, [], [])) (len := 1) (ls := [(0, .inr (.inr (9, 0, 0))), (1, .inl p1), (2, .inl p2), (3, .inl p3), (4, .inl p4), (5, .inr (.inr (30, 0, 1)))]) (st := [.inr (.inl v), .inl 0, .inr (.inr (30, 0, 1))]) (ls' := [(0, .inr (.inr (9, 0, 0))), (1, .inl p1), (2, .inl p2), (3, .inl p3), (4, .inl p4), (5, .inr (.inr (30, 0, 1)))]) (st' := []) (M' := sm_w M1 30 0 1 0 v) (by decide +kernel) (by decide +kernel) rfl okl (sm_oks_c.mpr ⟨trivial, sm_oks_c.mpr ⟨trivial, sm_oks_c.mpr ⟨oo, on⟩⟩⟩)).2 ?_
    intro H locs la hP hS hl
    exact lv_goto (tgt := 29) hx hb (pc := 14) (off := 15) (by decide +kernel) (by decide) (kend _ hR1 H locs la hP hS hl)
  have kcall : sm_SW D tc ad (va_A (sm_W tc ad M) s.heap.size) s.heap 7 (sm_KW p l e (headSpec (Cond.codeWith (lt_y kLaw_op) (lt_b kLaw_op) (lt_n kLaw_op) (some .int) [(0, 14, 17, 13), (0, 14, 21, 15), (0, 14, 25, 17)] :: lw_g) (sm_rmW kLaw_op)).room s m ([.inr (.inr (9, 0, 0)), .inl p1, .inl p2, .inl p3, .inl p4, .inr (.inr (30, 0, 1))].map (sm_t ad)).toArray below meth c 0 0 (MQ below (va_Qi (S := Unit) (fun x _ => R.2.1 = .inl x) (sm_T D tc ad R.2.2) (va_A (sm_W tc ad M) s.heap.size)) ([.inr (.inr (9, 0, 0)), .inl p1, .inl p2, .inl p3, .inl p4, .inr (.inr (30, 0, 1))].map (sm_t ad)).toArray s 1 6 (va_A (sm_W tc ad M) s.heap.size))) 9 [(0, .inr (.inr (9, 0, 0))), (1, .inl p1), (2, .inl p2), (3, .inl p3), (4, .inl p4), (5, .inr (.inr (30, 0, 1)))] [.inl p4, .inl p3, .inl p2, .inl p1, .inr (.inr (9, 0, 0)), .inl 0, .inr (.inr (30, 0, 1))] M := by
    intro H locs la hP hS hl
    obtain ⟨q0, hq0, hw0⟩ := sm_W_at (tc := tc) (ad := ad) M (r := (9, 0, 0)) (by decide +kernel)
    rw [sm_ce_o] at hw0
    have hrecv := va_recv hK hP (ci := 9) rfl hw0
    have hpre := sm_preX hK hD (fun q h => Or.inr h) hN hPT hS hP ([.inr (.inr (9, 0, 0)), .inl p1, .inl p2, .inl p3, .inl p4].map (sm_t ad))
    obtain ⟨g1, g2, g3, g4, g5⟩ := sm_mb_spec (sm_mb_all kTop_op (by decide))
    have g5 : Cond.instanceMethod (lt_y kTop_op) ∈ lw_g ∧ Cond.selects (lt_y kTop_op).cls (lt_y kTop_op) (lt_y kTop_op) ∈ lw_g := by
      rcases g5 with ⟨q, -⟩ | ⟨-, q1, q2, -⟩
      · exact absurd q (by decide +kernel)
      · exact ⟨q1, q2⟩
    have hw1 : Cond.methodLink RL 23 (lt_y kTop_op) ∈ lw_g := sm_wd_in (i := 639) (by decide +kernel)
    have hrun := vx_runV (p := p) (l := l) (e := e) (R := (headSpec (Cond.codeWith (lt_y kLaw_op) (lt_b kLaw_op) (lt_n kLaw_op) (some .int) [(0, 14, 17, 13), (0, 14, 21, 15), (0, 14, 25, 17)] :: lw_g) (sm_rmW kLaw_op)).room) (below := below) (meth := meth) (locs := locs) (cells := 0) (slots := 0) (As := ([.inl p1, .inl p2, .inl p3, .inl p4] : List sm_v).map (sm_t ad)) (rest := ([.inl 0, .inr (.inr (30, 0, 1))] : List sm_v).map (sm_t ad)) (b := ad (9, 0, 0)) (n := 4) (index := 23) (C := RX9) (g := F0 m 9 la (([.inl p4, .inl p3, .inl p2, .inl p1, .inr (.inr (9, 0, 0)), .inl 0, .inr (.inr (30, 0, 1))] : List sm_v).map (sm_t ad))) ⟨hx, hb, hml, hown, hts⟩ (hM H.size)
      ⟨callB_of 4 hts (lw_g_in (fun w hw => by rcases List.mem_cons.mp hw with rfl | hw; exact g4; exact hw)) rfl rfl rfl (hts _ g3) (hts _ hw1) ⟨g2.1, g2.2, by decide +kernel⟩ ⟨by decide +kernel, by decide +kernel⟩, hts _ g5.1, hts _ g5.2⟩
      ⟨hpre.1, hrecv, hpre.2⟩ rfl rfl hl.1 rfl (lv_room (Nat.le_of_ble_eq_true rfl)) (show decode cL_op 9 = .ok (.invokevirtual 23, 3) by decide +kernel) ⟨Nat.le_refl _, Nat.le_refl _⟩
    have hF := sm_freeA hD (fun q h => Or.inr h) hS M
    refine vx_calli (S := Unit) (SX := Unit) (a := ([.inr (.inr (9, 0, 0)), .inl p1, .inl p2, .inl p3, .inl p4].map (sm_t ad)).toArray) hrun hS (fun q _ h => hF q h) hF (fun q _ h => hF q h) (fun E ce q9 u t H1 locs1 ht hvm hpx hBX hz hk hS1 hce hcv hcl => ?_) (fun rv u t H1 locs1 ht hvm hw hB hz1 hk1 hS1 => ?_)
    · obtain ⟨⟨ex, hex1, rfl⟩, hP1⟩ := hBX
      rw [ht] at hP1
      obtain ⟨r0, rv, rM⟩ := r
      have hex1 : r0 = ex + 1 := hex1
      subst hex1
      have hR1 : R = (0, .inl (nI ([1, 2, 3].getD ex 0)), rM) := (Option.some.inj (show some ((0, .inl (nI ([1, 2, 3].getD ex 0)), rM) : sm_R) = some R by rw [← hR]; rfl)).symm
      have hre2 : ex = 0 ∨ ex = 1 ∨ ex = 2 := by
        rcases hre with h | h | h | h
        · exact absurd h (Nat.succ_ne_zero _)
        · exact Or.inl (Nat.succ.inj h)
        · exact Or.inr (Or.inl (Nat.succ.inj h))
        · exact Or.inr (Or.inr ((Nat.succ.inj h)))
      rcases hre2 with rfl | rfl | rfl
      · refine sm_catch (ex := 0) hown hts hPT.1 hNc (by decide) [] (0, 14, 17, 13) [(0, 14, 21, 15), (0, 14, 25, 17)] htab (fun y hy => by cases hy) rfl ⟨by decide, by decide⟩ hce hcv hcl ?_
        refine lv_astore (lv' := _) (i := 6) hx hb (show decode cL_op 17 = .ok (.astore 6, 2) by decide +kernel) hl (by decide) rfl (fun la hl => ?_)
        refine lv_iconst (v := 1) hx hb (show decode cL_op 19 = .ok (.iconst 1, 1) by decide +kernel) (by decide) ?_
        exact W.iret hx hb hret (fun t ht hW => ⟨⟨1, (), rfl, by rw [hR1]; rfl, by show va_P _ _ _ t.heap; rw [ht, hR1]; exact hP1⟩, hS1.F ht⟩) hS1.2.2 (show decode cL_op 20 = .ok (.ireturn, 1) by decide +kernel)
      · refine sm_catch (ex := 1) hown hts hPT.1 hNc (by decide) [(0, 14, 17, 13)] (0, 14, 21, 15) [(0, 14, 25, 17)] htab (fun y hy => by simp only [List.mem_cons, List.not_mem_nil, or_false] at hy; rcases hy with rfl; exact ⟨0, by decide, by decide, rfl⟩) rfl ⟨by decide, by decide⟩ hce hcv hcl ?_
        refine lv_astore (lv' := _) (i := 6) hx hb (show decode cL_op 21 = .ok (.astore 6, 2) by decide +kernel) hl (by decide) rfl (fun la hl => ?_)
        refine lv_iconst (v := 2) hx hb (show decode cL_op 23 = .ok (.iconst 2, 1) by decide +kernel) (by decide) ?_
        exact W.iret hx hb hret (fun t ht hW => ⟨⟨2, (), rfl, by rw [hR1]; rfl, by show va_P _ _ _ t.heap; rw [ht, hR1]; exact hP1⟩, hS1.F ht⟩) hS1.2.2 (show decode cL_op 24 = .ok (.ireturn, 1) by decide +kernel)
      · refine sm_catch (ex := 2) hown hts hPT.1 hNc (by decide) [(0, 14, 17, 13), (0, 14, 21, 15)] (0, 14, 25, 17) [] htab (fun y hy => by simp only [List.mem_cons, List.not_mem_nil, or_false] at hy; rcases hy with rfl | rfl; exact ⟨0, by decide, by decide, rfl⟩; exact ⟨1, by decide, by decide, rfl⟩) rfl ⟨by decide, by decide⟩ hce hcv hcl ?_
        refine lv_astore (lv' := _) (i := 6) hx hb (show decode cL_op 25 = .ok (.astore 6, 2) by decide +kernel) hl (by decide) rfl (fun la hl => ?_)
        refine lv_iconst (v := 3) hx hb (show decode cL_op 27 = .ok (.iconst 3, 1) by decide +kernel) (by decide) ?_
        exact W.iret hx hb hret (fun t ht hW => ⟨⟨3, (), rfl, by rw [hR1]; rfl, by show va_P _ _ _ t.heap; rw [ht, hR1]; exact hP1⟩, hS1.F ht⟩) hS1.2.2 (show decode cL_op 28 = .ok (.ireturn, 1) by decide +kernel)
    · obtain ⟨hw1, hw2⟩ := hw
      have hP1 : va_P D vwCl (sm_W tc ad r.2.2) t.heap := hB
      rw [ht] at hP1
      obtain ⟨r0, rv0, rM⟩ := r
      have hw1 : r0 = 0 := hw1
      have hw2 : rv0 = .inl rv := hw2
      subst hw1; subst hw2
      have hR1 : R = (0, .inl 0, sm_w rM 30 0 1 0 rv.toInt64) := (Option.some.inj (show some ((0, .inl 0, sm_w rM 30 0 1 0 rv.toInt64) : sm_R) = some R by rw [← hR]; rfl)).symm
      have k2 := (sm_s1_ok X (i := (.i2l, [], [])) (len := 1) (pc := 12) (ls := [(0, .inr (.inr (9, 0, 0))), (1, .inl p1), (2, .inl p2), (3, .inl p3), (4, .inl p4), (5, .inr (.inr (30, 0, 1)))]) (st := [.inl rv, .inl 0, .inr (.inr (30, 0, 1))]) (by decide +kernel) (by decide +kernel) rfl okl (sm_oks_c.mpr ⟨trivial, sm_oks_c.mpr ⟨trivial, sm_oks_c.mpr ⟨oo, on⟩⟩⟩)).2 (kst rM rv.toInt64 hR1)
      exact k2 H1 locs1 la hP1 hS1 hl
  have k_7 := (sm_s1_ok X (i := (.iload 4, [], [])) (len := 2) (pc := 7) (ls := [(0, .inr (.inr (9, 0, 0))), (1, .inl p1), (2, .inl p2), (3, .inl p3), (4, .inl p4), (5, .inr (.inr (30, 0, 1)))]) (st := [.inl p3, .inl p2, .inl p1, .inr (.inr (9, 0, 0)), .inl 0, .inr (.inr (30, 0, 1))]) (by decide +kernel) (by decide +kernel) rfl okl (sm_oks_c.mpr ⟨trivial, (sm_oks_c.mpr ⟨trivial, (sm_oks_c.mpr ⟨trivial, (sm_oks_c.mpr ⟨ox, (sm_oks_c.mpr ⟨trivial, (sm_oks_c.mpr ⟨oo, on⟩)⟩)⟩)⟩)⟩)⟩)).2 kcall
  have k_6 := (sm_s1_ok X (i := (.iload_n 3, [], [])) (len := 1) (pc := 6) (ls := [(0, .inr (.inr (9, 0, 0))), (1, .inl p1), (2, .inl p2), (3, .inl p3), (4, .inl p4), (5, .inr (.inr (30, 0, 1)))]) (st := [.inl p2, .inl p1, .inr (.inr (9, 0, 0)), .inl 0, .inr (.inr (30, 0, 1))]) (by decide +kernel) (by decide +kernel) rfl okl (sm_oks_c.mpr ⟨trivial, (sm_oks_c.mpr ⟨trivial, (sm_oks_c.mpr ⟨ox, (sm_oks_c.mpr ⟨trivial, (sm_oks_c.mpr ⟨oo, on⟩)⟩)⟩)⟩)⟩)).2 k_7
  have k_5 := (sm_s1_ok X (i := (.iload_n 2, [], [])) (len := 1) (pc := 5) (ls := [(0, .inr (.inr (9, 0, 0))), (1, .inl p1), (2, .inl p2), (3, .inl p3), (4, .inl p4), (5, .inr (.inr (30, 0, 1)))]) (st := [.inl p1, .inr (.inr (9, 0, 0)), .inl 0, .inr (.inr (30, 0, 1))]) (by decide +kernel) (by decide +kernel) rfl okl (sm_oks_c.mpr ⟨trivial, (sm_oks_c.mpr ⟨ox, (sm_oks_c.mpr ⟨trivial, (sm_oks_c.mpr ⟨oo, on⟩)⟩)⟩)⟩)).2 k_6
  have k_4 := (sm_s1_ok X (i := (.iload_n 1, [], [])) (len := 1) (pc := 4) (ls := [(0, .inr (.inr (9, 0, 0))), (1, .inl p1), (2, .inl p2), (3, .inl p3), (4, .inl p4), (5, .inr (.inr (30, 0, 1)))]) (st := [.inr (.inr (9, 0, 0)), .inl 0, .inr (.inr (30, 0, 1))]) (by decide +kernel) (by decide +kernel) rfl okl (sm_oks_c.mpr ⟨ox, (sm_oks_c.mpr ⟨trivial, (sm_oks_c.mpr ⟨oo, on⟩)⟩)⟩)).2 k_5
  have k_3 := (sm_s1_ok X (i := (.aload_n 0, [], [])) (len := 1) (pc := 3) (ls := [(0, .inr (.inr (9, 0, 0))), (1, .inl p1), (2, .inl p2), (3, .inl p3), (4, .inl p4), (5, .inr (.inr (30, 0, 1)))]) (st := [.inl 0, .inr (.inr (30, 0, 1))]) (by decide +kernel) (by decide +kernel) rfl okl (sm_oks_c.mpr ⟨trivial, (sm_oks_c.mpr ⟨oo, on⟩)⟩)).2 k_4
  have k_2 := (sm_s1_ok X (i := (.iconst 0, [.inl (0 : Int32)], [])) (len := 1) (pc := 2) (ls := [(0, .inr (.inr (9, 0, 0))), (1, .inl p1), (2, .inl p2), (3, .inl p3), (4, .inl p4), (5, .inr (.inr (30, 0, 1)))]) (st := [.inr (.inr (30, 0, 1))]) (by decide +kernel) (by decide +kernel) rfl okl (sm_oks_c.mpr ⟨oo, on⟩)).2 k_3
  have k_0 := (sm_s1_ok X (i := (.aload 5, [], [])) (len := 2) (pc := 0) (ls := [(0, .inr (.inr (9, 0, 0))), (1, .inl p1), (2, .inl p2), (3, .inl p3), (4, .inl p4), (5, .inr (.inr (30, 0, 1)))]) (st := []) (by decide +kernel) (by decide +kernel) rfl okl on).2 k_2
  exact k_0 s.heap [] _ hP va_S.rf hl
set_option maxHeartbeats 4000000 in
theorem wr_unop {l : Launch} {D : va_G} {tc : Nat → ClassId} {ad : Nat × Nat × Nat → Nat} {M : sm_M} {r R : sm_R} (p1 : Int32) (hM : sm_MetX l D tc ad kTop_unop [.inr (.inr (9, 0, 0)), .inl p1] M r) (hre : r.1 = 0 ∨ r.1 = 1 ∨ r.1 = 3) (hR : sm_wr1 (kTop_unop, 0, [1, 0, 2]) (some (.inr (.inr (30, 0, 1)))) (some r) = some R) : sm_MetW l D tc ad kLaw_unop [(0, 9, 12, 13), (0, 9, 15, 17)] [.inr (.inr (9, 0, 0)), .inl p1, .inr (.inr (30, 0, 1))] M R := by
  intro sz
  refine va_MetW (cc := cL_unop) (maxL := 4) (ret := some .int) (by decide +kernel) rfl ?_
  intro p e s m args below meth c s₁ B hml hv
  obtain ⟨rfl, ⟨⟨hsz, hP, hK, hD0, hN⟩, hPT⟩, hNc⟩ := hv
  have hx := B.exec
  have hb := B.bytes
  have hret := B.returns
  have hts0 := atoms_spec (ws := Cond.codeWith (lt_y kLaw_unop) (lt_b kLaw_unop) (lt_n kLaw_unop) (some .int) [(0, 9, 12, 13), (0, 9, 15, 17)] :: lw_g) B.pre
  have hown : s.vm.findClass RL = some m.cls := findClass_of_methodNamed B.named
  have hlocks := B.notSynchronized
  have htab := vx_table (x := yL_law) B (hts0 _ List.mem_cons_self)
  subst hsz
  have hD := sm_D_all (D := D) (sz := s.heap.size) hD0
  have hts : ∀ w ∈ lw_g, w.before ([.inr (.inr (9, 0, 0)), .inl p1, .inr (.inr (30, 0, 1))].map (sm_t ad)).toArray s = true := fun w hw => hts0 w (List.mem_cons_of_mem _ hw)
  have X : sm_Cx p s m ([.inr (.inr (9, 0, 0)), .inl p1, .inr (.inr (30, 0, 1))].map (sm_t ad)).toArray c cL_unop 4 RL D tc ad (va_A (sm_W tc ad M) s.heap.size) s.heap (0, fun _ => 0) false := ⟨hx, hb, hml, hown, hts, hK, hD, hN, fun q h => Or.inr h, fun h => by cases h⟩
  have hl := lv_entry ([.inr (.inr (9, 0, 0)), .inl p1, .inr (.inr (30, 0, 1))].map (sm_t ad)) (n := 4) (by rw [lg_sl_len]; exact Nat.le_of_ble_eq_true rfl)
  rw [lg_entry_eq]
  rw [lv_args_ent] at hl
  have ox : sm_ok false (.inr (.inr (9, 0, 0))) := Or.inl (by decide +kernel)
  have oo : sm_ok false (.inr (.inr (30, 0, 1))) := Or.inl (by decide +kernel)
  have on : sm_oks false [] := fun v hv => by cases hv
  have okl : sm_okl false [(0, .inr (.inr (9, 0, 0))), (1, .inl p1), (2, .inr (.inr (30, 0, 1)))] := by
    intro q hq
    simp only [List.mem_cons, List.not_mem_nil, or_false] at hq
    rcases hq with rfl | rfl | rfl
    · exact ox
    · trivial
    · exact oo
  -- the end
  have kend : ∀ M1, R = (0, .inl 0, M1) → sm_SW D tc ad (va_A (sm_W tc ad M) s.heap.size) s.heap 4 (sm_KW p l e (headSpec (Cond.codeWith (lt_y kLaw_unop) (lt_b kLaw_unop) (lt_n kLaw_unop) (some .int) [(0, 9, 12, 13), (0, 9, 15, 17)] :: lw_g) (sm_rmW kLaw_unop)).room s m ([.inr (.inr (9, 0, 0)), .inl p1, .inr (.inr (30, 0, 1))].map (sm_t ad)).toArray below meth c 1 6 (MQ below (va_Qi (S := Unit) (fun x _ => R.2.1 = .inl x) (sm_T D tc ad R.2.2) (va_A (sm_W tc ad M) s.heap.size)) ([.inr (.inr (9, 0, 0)), .inl p1, .inr (.inr (30, 0, 1))].map (sm_t ad)).toArray s 1 6 (va_A (sm_W tc ad M) s.heap.size))) 18 [(0, .inr (.inr (9, 0, 0))), (1, .inl p1), (2, .inr (.inr (30, 0, 1)))] [] M1 := by
    intro M1 hR1
    subst hR1
    refine (sm_s1_ok X (i := (.iconst 0, [.inl (0 : Int32)], [])) (len := 1) (ls := [(0, .inr (.inr (9, 0, 0))), (1, .inl p1), (2, .inr (.inr (30, 0, 1)))]) (st := []) (by decide +kernel) (by decide +kernel) rfl okl on).2 ?_
    intro H locs la hP hS hl
    exact W.iret hx hb hret (fun t ht hW => ⟨⟨0, (), rfl, rfl, by show va_P _ _ _ t.heap; rw [ht]; exact hP⟩, hS.F ht⟩) hS.2.2 (by decide +kernel)
  have kst : ∀ (M1 : sm_M) (v : Int64), R = (0, .inl 0, sm_w M1 30 0 1 0 v) → sm_SW D tc ad (va_A (sm_W tc ad M) s.heap.size) s.heap 4 (sm_KW p l e (headSpec (Cond.codeWith (lt_y kLaw_unop) (lt_b kLaw_unop) (lt_n kLaw_unop) (some .int) [(0, 9, 12, 13), (0, 9, 15, 17)] :: lw_g) (sm_rmW kLaw_unop)).room s m ([.inr (.inr (9, 0, 0)), .inl p1, .inr (.inr (30, 0, 1))].map (sm_t ad)).toArray below meth c 1 6 (MQ below (va_Qi (S := Unit) (fun x _ => R.2.1 = .inl x) (sm_T D tc ad R.2.2) (va_A (sm_W tc ad M) s.heap.size)) ([.inr (.inr (9, 0, 0)), .inl p1, .inr (.inr (30, 0, 1))].map (sm_t ad)).toArray s 1 6 (va_A (sm_W tc ad M) s.heap.size))) 8 [(0, .inr (.inr (9, 0, 0))), (1, .inl p1), (2, .inr (.inr (30, 0, 1)))] [.inr (.inl v), .inl 0, .inr (.inr (30, 0, 1))] M1 := by
    intro M1 v hR1
    refine (sm_s1_ok X (i := (.lastore, [], [])) (len := 1) (ls := [(0, .inr (.inr (9, 0, 0))), (1, .inl p1), (2, .inr (.inr (30, 0, 1)))]) (st := [.inr (.inl v), .inl 0, .inr (.inr (30, 0, 1))]) (ls' := [(0, .inr (.inr (9, 0, 0))), (1, .inl p1), (2, .inr (.inr (30, 0, 1)))]) (st' := []) (M' := sm_w M1 30 0 1 0 v) (by decide +kernel) (by decide +kernel) rfl okl (sm_oks_c.mpr ⟨trivial, sm_oks_c.mpr ⟨trivial, sm_oks_c.mpr ⟨oo, on⟩⟩⟩)).2 ?_
    intro H locs la hP hS hl
    exact lv_goto (tgt := 18) hx hb (pc := 9) (off := 9) (by decide +kernel) (by decide) (kend _ hR1 H locs la hP hS hl)
  have kcall : sm_SW D tc ad (va_A (sm_W tc ad M) s.heap.size) s.heap 4 (sm_KW p l e (headSpec (Cond.codeWith (lt_y kLaw_unop) (lt_b kLaw_unop) (lt_n kLaw_unop) (some .int) [(0, 9, 12, 13), (0, 9, 15, 17)] :: lw_g) (sm_rmW kLaw_unop)).room s m ([.inr (.inr (9, 0, 0)), .inl p1, .inr (.inr (30, 0, 1))].map (sm_t ad)).toArray below meth c 0 0 (MQ below (va_Qi (S := Unit) (fun x _ => R.2.1 = .inl x) (sm_T D tc ad R.2.2) (va_A (sm_W tc ad M) s.heap.size)) ([.inr (.inr (9, 0, 0)), .inl p1, .inr (.inr (30, 0, 1))].map (sm_t ad)).toArray s 1 6 (va_A (sm_W tc ad M) s.heap.size))) 4 [(0, .inr (.inr (9, 0, 0))), (1, .inl p1), (2, .inr (.inr (30, 0, 1)))] [.inl p1, .inr (.inr (9, 0, 0)), .inl 0, .inr (.inr (30, 0, 1))] M := by
    intro H locs la hP hS hl
    obtain ⟨q0, hq0, hw0⟩ := sm_W_at (tc := tc) (ad := ad) M (r := (9, 0, 0)) (by decide +kernel)
    rw [sm_ce_o] at hw0
    have hrecv := va_recv hK hP (ci := 9) rfl hw0
    have hpre := sm_preX hK hD (fun q h => Or.inr h) hN hPT hS hP ([.inr (.inr (9, 0, 0)), .inl p1].map (sm_t ad))
    obtain ⟨g1, g2, g3, g4, g5⟩ := sm_mb_spec (sm_mb_all kTop_unop (by decide))
    have g5 : Cond.instanceMethod (lt_y kTop_unop) ∈ lw_g ∧ Cond.selects (lt_y kTop_unop).cls (lt_y kTop_unop) (lt_y kTop_unop) ∈ lw_g := by
      rcases g5 with ⟨q, -⟩ | ⟨-, q1, q2, -⟩
      · exact absurd q (by decide +kernel)
      · exact ⟨q1, q2⟩
    have hw1 : Cond.methodLink RL 26 (lt_y kTop_unop) ∈ lw_g := sm_wd_in (i := 662) (by decide +kernel)
    have hrun := vx_runV (p := p) (l := l) (e := e) (R := (headSpec (Cond.codeWith (lt_y kLaw_unop) (lt_b kLaw_unop) (lt_n kLaw_unop) (some .int) [(0, 9, 12, 13), (0, 9, 15, 17)] :: lw_g) (sm_rmW kLaw_unop)).room) (below := below) (meth := meth) (locs := locs) (cells := 0) (slots := 0) (As := ([.inl p1] : List sm_v).map (sm_t ad)) (rest := ([.inl 0, .inr (.inr (30, 0, 1))] : List sm_v).map (sm_t ad)) (b := ad (9, 0, 0)) (n := 1) (index := 26) (C := RX9) (g := F0 m 4 la (([.inl p1, .inr (.inr (9, 0, 0)), .inl 0, .inr (.inr (30, 0, 1))] : List sm_v).map (sm_t ad))) ⟨hx, hb, hml, hown, hts⟩ (hM H.size)
      ⟨callB_of 1 hts (lw_g_in (fun w hw => by rcases List.mem_cons.mp hw with rfl | hw; exact g4; exact hw)) rfl rfl rfl (hts _ g3) (hts _ hw1) ⟨g2.1, g2.2, by decide +kernel⟩ ⟨by decide +kernel, by decide +kernel⟩, hts _ g5.1, hts _ g5.2⟩
      ⟨hpre.1, hrecv, hpre.2⟩ rfl rfl hl.1 rfl (lv_room (Nat.le_of_ble_eq_true rfl)) (show decode cL_unop 4 = .ok (.invokevirtual 26, 3) by decide +kernel) ⟨Nat.le_refl _, Nat.le_refl _⟩
    have hF := sm_freeA hD (fun q h => Or.inr h) hS M
    refine vx_calli (S := Unit) (SX := Unit) (a := ([.inr (.inr (9, 0, 0)), .inl p1].map (sm_t ad)).toArray) hrun hS (fun q _ h => hF q h) hF (fun q _ h => hF q h) (fun E ce q9 u t H1 locs1 ht hvm hpx hBX hz hk hS1 hce hcv hcl => ?_) (fun rv u t H1 locs1 ht hvm hw hB hz1 hk1 hS1 => ?_)
    · obtain ⟨⟨ex, hex1, rfl⟩, hP1⟩ := hBX
      rw [ht] at hP1
      obtain ⟨r0, rv, rM⟩ := r
      have hex1 : r0 = ex + 1 := hex1
      subst hex1
      have hR1 : R = (0, .inl (nI ([1, 0, 2].getD ex 0)), rM) := (Option.some.inj (show some ((0, .inl (nI ([1, 0, 2].getD ex 0)), rM) : sm_R) = some R by rw [← hR]; rfl)).symm
      have hre2 : ex = 0 ∨ ex = 2 := by
        rcases hre with h | h | h
        · exact absurd h (Nat.succ_ne_zero _)
        · exact Or.inl (Nat.succ.inj h)
        · exact Or.inr ((Nat.succ.inj h))
      rcases hre2 with rfl | rfl
      · refine sm_catch (ex := 0) hown hts hPT.1 hNc (by decide) [] (0, 9, 12, 13) [(0, 9, 15, 17)] htab (fun y hy => by cases hy) rfl ⟨by decide, by decide⟩ hce hcv hcl ?_
        refine lv_astore_n (lv' := _) (i := 3) hx hb (show decode cL_unop 12 = .ok (.astore_n 3, 1) by decide +kernel) rfl hl (by decide) rfl (fun la hl => ?_)
        refine lv_iconst (v := 1) hx hb (show decode cL_unop 13 = .ok (.iconst 1, 1) by decide +kernel) (by decide) ?_
        exact W.iret hx hb hret (fun t ht hW => ⟨⟨1, (), rfl, by rw [hR1]; rfl, by show va_P _ _ _ t.heap; rw [ht, hR1]; exact hP1⟩, hS1.F ht⟩) hS1.2.2 (show decode cL_unop 14 = .ok (.ireturn, 1) by decide +kernel)
      · refine sm_catch (ex := 2) hown hts hPT.1 hNc (by decide) [(0, 9, 12, 13)] (0, 9, 15, 17) [] htab (fun y hy => by simp only [List.mem_cons, List.not_mem_nil, or_false] at hy; rcases hy with rfl; exact ⟨0, by decide, by decide, rfl⟩) rfl ⟨by decide, by decide⟩ hce hcv hcl ?_
        refine lv_astore_n (lv' := _) (i := 3) hx hb (show decode cL_unop 15 = .ok (.astore_n 3, 1) by decide +kernel) rfl hl (by decide) rfl (fun la hl => ?_)
        refine lv_iconst (v := 2) hx hb (show decode cL_unop 16 = .ok (.iconst 2, 1) by decide +kernel) (by decide) ?_
        exact W.iret hx hb hret (fun t ht hW => ⟨⟨2, (), rfl, by rw [hR1]; rfl, by show va_P _ _ _ t.heap; rw [ht, hR1]; exact hP1⟩, hS1.F ht⟩) hS1.2.2 (show decode cL_unop 17 = .ok (.ireturn, 1) by decide +kernel)
    · obtain ⟨hw1, hw2⟩ := hw
      have hP1 : va_P D vwCl (sm_W tc ad r.2.2) t.heap := hB
      rw [ht] at hP1
      obtain ⟨r0, rv0, rM⟩ := r
      have hw1 : r0 = 0 := hw1
      have hw2 : rv0 = .inl rv := hw2
      subst hw1; subst hw2
      have hR1 : R = (0, .inl 0, sm_w rM 30 0 1 0 rv.toInt64) := (Option.some.inj (show some ((0, .inl 0, sm_w rM 30 0 1 0 rv.toInt64) : sm_R) = some R by rw [← hR]; rfl)).symm
      have k2 := (sm_s1_ok X (i := (.i2l, [], [])) (len := 1) (pc := 7) (ls := [(0, .inr (.inr (9, 0, 0))), (1, .inl p1), (2, .inr (.inr (30, 0, 1)))]) (st := [.inl rv, .inl 0, .inr (.inr (30, 0, 1))]) (by decide +kernel) (by decide +kernel) rfl okl (sm_oks_c.mpr ⟨trivial, sm_oks_c.mpr ⟨trivial, sm_oks_c.mpr ⟨oo, on⟩⟩⟩)).2 (kst rM rv.toInt64 hR1)
      exact k2 H1 locs1 la hP1 hS1 hl
  have k_3 := (sm_s1_ok X (i := (.iload_n 1, [], [])) (len := 1) (pc := 3) (ls := [(0, .inr (.inr (9, 0, 0))), (1, .inl p1), (2, .inr (.inr (30, 0, 1)))]) (st := [.inr (.inr (9, 0, 0)), .inl 0, .inr (.inr (30, 0, 1))]) (by decide +kernel) (by decide +kernel) rfl okl (sm_oks_c.mpr ⟨ox, (sm_oks_c.mpr ⟨trivial, (sm_oks_c.mpr ⟨oo, on⟩)⟩)⟩)).2 kcall
  have k_2 := (sm_s1_ok X (i := (.aload_n 0, [], [])) (len := 1) (pc := 2) (ls := [(0, .inr (.inr (9, 0, 0))), (1, .inl p1), (2, .inr (.inr (30, 0, 1)))]) (st := [.inl 0, .inr (.inr (30, 0, 1))]) (by decide +kernel) (by decide +kernel) rfl okl (sm_oks_c.mpr ⟨trivial, (sm_oks_c.mpr ⟨oo, on⟩)⟩)).2 k_3
  have k_1 := (sm_s1_ok X (i := (.iconst 0, [.inl (0 : Int32)], [])) (len := 1) (pc := 1) (ls := [(0, .inr (.inr (9, 0, 0))), (1, .inl p1), (2, .inr (.inr (30, 0, 1)))]) (st := [.inr (.inr (30, 0, 1))]) (by decide +kernel) (by decide +kernel) rfl okl (sm_oks_c.mpr ⟨oo, on⟩)).2 k_2
  have k_0 := (sm_s1_ok X (i := (.aload_n 2, [], [])) (len := 1) (pc := 0) (ls := [(0, .inr (.inr (9, 0, 0))), (1, .inl p1), (2, .inr (.inr (30, 0, 1)))]) (st := []) (by decide +kernel) (by decide +kernel) rfl okl on).2 k_1
  exact k_0 s.heap [] _ hP va_S.rf hl
set_option maxHeartbeats 4000000 in
theorem wr_check {l : Launch} {D : va_G} {tc : Nat → ClassId} {ad : Nat × Nat × Nat → Nat} {M : sm_M} {r R : sm_R} (p1 : Int32) (hM : sm_MetX l D tc ad kTop_check [.inr (.inr (9, 0, 0)), .inl p1] M r) (hre : r.1 = 0 ∨ r.1 = 1) (hR : sm_wr1 (kTop_check, 0, [1, 0, 0]) (some (.inr (.inr (30, 0, 1)))) (some r) = some R) : sm_MetW l D tc ad kLaw_check [(0, 9, 12, 13)] [.inr (.inr (9, 0, 0)), .inl p1, .inr (.inr (30, 0, 1))] M R := by
  intro sz
  refine va_MetW (cc := cL_check) (maxL := 4) (ret := some .int) (by decide +kernel) rfl ?_
  intro p e s m args below meth c s₁ B hml hv
  obtain ⟨rfl, ⟨⟨hsz, hP, hK, hD0, hN⟩, hPT⟩, hNc⟩ := hv
  have hx := B.exec
  have hb := B.bytes
  have hret := B.returns
  have hts0 := atoms_spec (ws := Cond.codeWith (lt_y kLaw_check) (lt_b kLaw_check) (lt_n kLaw_check) (some .int) [(0, 9, 12, 13)] :: lw_g) B.pre
  have hown : s.vm.findClass RL = some m.cls := findClass_of_methodNamed B.named
  have hlocks := B.notSynchronized
  have htab := vx_table (x := yL_law) B (hts0 _ List.mem_cons_self)
  subst hsz
  have hD := sm_D_all (D := D) (sz := s.heap.size) hD0
  have hts : ∀ w ∈ lw_g, w.before ([.inr (.inr (9, 0, 0)), .inl p1, .inr (.inr (30, 0, 1))].map (sm_t ad)).toArray s = true := fun w hw => hts0 w (List.mem_cons_of_mem _ hw)
  have X : sm_Cx p s m ([.inr (.inr (9, 0, 0)), .inl p1, .inr (.inr (30, 0, 1))].map (sm_t ad)).toArray c cL_check 4 RL D tc ad (va_A (sm_W tc ad M) s.heap.size) s.heap (0, fun _ => 0) false := ⟨hx, hb, hml, hown, hts, hK, hD, hN, fun q h => Or.inr h, fun h => by cases h⟩
  have hl := lv_entry ([.inr (.inr (9, 0, 0)), .inl p1, .inr (.inr (30, 0, 1))].map (sm_t ad)) (n := 4) (by rw [lg_sl_len]; exact Nat.le_of_ble_eq_true rfl)
  rw [lg_entry_eq]
  rw [lv_args_ent] at hl
  have ox : sm_ok false (.inr (.inr (9, 0, 0))) := Or.inl (by decide +kernel)
  have oo : sm_ok false (.inr (.inr (30, 0, 1))) := Or.inl (by decide +kernel)
  have on : sm_oks false [] := fun v hv => by cases hv
  have okl : sm_okl false [(0, .inr (.inr (9, 0, 0))), (1, .inl p1), (2, .inr (.inr (30, 0, 1)))] := by
    intro q hq
    simp only [List.mem_cons, List.not_mem_nil, or_false] at hq
    rcases hq with rfl | rfl | rfl
    · exact ox
    · trivial
    · exact oo
  -- the end
  have kend : ∀ M1, R = (0, .inl 0, M1) → sm_SW D tc ad (va_A (sm_W tc ad M) s.heap.size) s.heap 4 (sm_KW p l e (headSpec (Cond.codeWith (lt_y kLaw_check) (lt_b kLaw_check) (lt_n kLaw_check) (some .int) [(0, 9, 12, 13)] :: lw_g) (sm_rmW kLaw_check)).room s m ([.inr (.inr (9, 0, 0)), .inl p1, .inr (.inr (30, 0, 1))].map (sm_t ad)).toArray below meth c 1 6 (MQ below (va_Qi (S := Unit) (fun x _ => R.2.1 = .inl x) (sm_T D tc ad R.2.2) (va_A (sm_W tc ad M) s.heap.size)) ([.inr (.inr (9, 0, 0)), .inl p1, .inr (.inr (30, 0, 1))].map (sm_t ad)).toArray s 1 6 (va_A (sm_W tc ad M) s.heap.size))) 15 [(0, .inr (.inr (9, 0, 0))), (1, .inl p1), (2, .inr (.inr (30, 0, 1)))] [] M1 := by
    intro M1 hR1
    subst hR1
    refine (sm_s1_ok X (i := (.iconst 0, [.inl (0 : Int32)], [])) (len := 1) (ls := [(0, .inr (.inr (9, 0, 0))), (1, .inl p1), (2, .inr (.inr (30, 0, 1)))]) (st := []) (by decide +kernel) (by decide +kernel) rfl okl on).2 ?_
    intro H locs la hP hS hl
    exact W.iret hx hb hret (fun t ht hW => ⟨⟨0, (), rfl, rfl, by show va_P _ _ _ t.heap; rw [ht]; exact hP⟩, hS.F ht⟩) hS.2.2 (by decide +kernel)
  have kst : ∀ (M1 : sm_M) (v : Int64), R = (0, .inl 0, sm_w M1 30 0 1 0 v) → sm_SW D tc ad (va_A (sm_W tc ad M) s.heap.size) s.heap 4 (sm_KW p l e (headSpec (Cond.codeWith (lt_y kLaw_check) (lt_b kLaw_check) (lt_n kLaw_check) (some .int) [(0, 9, 12, 13)] :: lw_g) (sm_rmW kLaw_check)).room s m ([.inr (.inr (9, 0, 0)), .inl p1, .inr (.inr (30, 0, 1))].map (sm_t ad)).toArray below meth c 1 6 (MQ below (va_Qi (S := Unit) (fun x _ => R.2.1 = .inl x) (sm_T D tc ad R.2.2) (va_A (sm_W tc ad M) s.heap.size)) ([.inr (.inr (9, 0, 0)), .inl p1, .inr (.inr (30, 0, 1))].map (sm_t ad)).toArray s 1 6 (va_A (sm_W tc ad M) s.heap.size))) 8 [(0, .inr (.inr (9, 0, 0))), (1, .inl p1), (2, .inr (.inr (30, 0, 1)))] [.inr (.inl v), .inl 0, .inr (.inr (30, 0, 1))] M1 := by
    intro M1 v hR1
    refine (sm_s1_ok X (i := (.lastore, [], [])) (len := 1) (ls := [(0, .inr (.inr (9, 0, 0))), (1, .inl p1), (2, .inr (.inr (30, 0, 1)))]) (st := [.inr (.inl v), .inl 0, .inr (.inr (30, 0, 1))]) (ls' := [(0, .inr (.inr (9, 0, 0))), (1, .inl p1), (2, .inr (.inr (30, 0, 1)))]) (st' := []) (M' := sm_w M1 30 0 1 0 v) (by decide +kernel) (by decide +kernel) rfl okl (sm_oks_c.mpr ⟨trivial, sm_oks_c.mpr ⟨trivial, sm_oks_c.mpr ⟨oo, on⟩⟩⟩)).2 ?_
    intro H locs la hP hS hl
    exact lv_goto (tgt := 15) hx hb (pc := 9) (off := 6) (by decide +kernel) (by decide) (kend _ hR1 H locs la hP hS hl)
  have kcall : sm_SW D tc ad (va_A (sm_W tc ad M) s.heap.size) s.heap 4 (sm_KW p l e (headSpec (Cond.codeWith (lt_y kLaw_check) (lt_b kLaw_check) (lt_n kLaw_check) (some .int) [(0, 9, 12, 13)] :: lw_g) (sm_rmW kLaw_check)).room s m ([.inr (.inr (9, 0, 0)), .inl p1, .inr (.inr (30, 0, 1))].map (sm_t ad)).toArray below meth c 0 0 (MQ below (va_Qi (S := Unit) (fun x _ => R.2.1 = .inl x) (sm_T D tc ad R.2.2) (va_A (sm_W tc ad M) s.heap.size)) ([.inr (.inr (9, 0, 0)), .inl p1, .inr (.inr (30, 0, 1))].map (sm_t ad)).toArray s 1 6 (va_A (sm_W tc ad M) s.heap.size))) 4 [(0, .inr (.inr (9, 0, 0))), (1, .inl p1), (2, .inr (.inr (30, 0, 1)))] [.inl p1, .inr (.inr (9, 0, 0)), .inl 0, .inr (.inr (30, 0, 1))] M := by
    intro H locs la hP hS hl
    obtain ⟨q0, hq0, hw0⟩ := sm_W_at (tc := tc) (ad := ad) M (r := (9, 0, 0)) (by decide +kernel)
    rw [sm_ce_o] at hw0
    have hrecv := va_recv hK hP (ci := 9) rfl hw0
    have hpre := sm_preX hK hD (fun q h => Or.inr h) hN hPT hS hP ([.inr (.inr (9, 0, 0)), .inl p1].map (sm_t ad))
    obtain ⟨g1, g2, g3, g4, g5⟩ := sm_mb_spec (sm_mb_all kTop_check (by decide))
    have g5 : Cond.instanceMethod (lt_y kTop_check) ∈ lw_g ∧ Cond.selects (lt_y kTop_check).cls (lt_y kTop_check) (lt_y kTop_check) ∈ lw_g := by
      rcases g5 with ⟨q, -⟩ | ⟨-, q1, q2, -⟩
      · exact absurd q (by decide +kernel)
      · exact ⟨q1, q2⟩
    have hw1 : Cond.methodLink RL 30 (lt_y kTop_check) ∈ lw_g := sm_wd_in (i := 678) (by decide +kernel)
    have hrun := vx_runV (p := p) (l := l) (e := e) (R := (headSpec (Cond.codeWith (lt_y kLaw_check) (lt_b kLaw_check) (lt_n kLaw_check) (some .int) [(0, 9, 12, 13)] :: lw_g) (sm_rmW kLaw_check)).room) (below := below) (meth := meth) (locs := locs) (cells := 0) (slots := 0) (As := ([.inl p1] : List sm_v).map (sm_t ad)) (rest := ([.inl 0, .inr (.inr (30, 0, 1))] : List sm_v).map (sm_t ad)) (b := ad (9, 0, 0)) (n := 1) (index := 30) (C := RX9) (g := F0 m 4 la (([.inl p1, .inr (.inr (9, 0, 0)), .inl 0, .inr (.inr (30, 0, 1))] : List sm_v).map (sm_t ad))) ⟨hx, hb, hml, hown, hts⟩ (hM H.size)
      ⟨callB_of 1 hts (lw_g_in (fun w hw => by rcases List.mem_cons.mp hw with rfl | hw; exact g4; exact hw)) rfl rfl rfl (hts _ g3) (hts _ hw1) ⟨g2.1, g2.2, by decide +kernel⟩ ⟨by decide +kernel, by decide +kernel⟩, hts _ g5.1, hts _ g5.2⟩
      ⟨hpre.1, hrecv, hpre.2⟩ rfl rfl hl.1 rfl (lv_room (Nat.le_of_ble_eq_true rfl)) (show decode cL_check 4 = .ok (.invokevirtual 30, 3) by decide +kernel) ⟨Nat.le_refl _, Nat.le_refl _⟩
    have hF := sm_freeA hD (fun q h => Or.inr h) hS M
    refine vx_calli (S := Unit) (SX := Unit) (a := ([.inr (.inr (9, 0, 0)), .inl p1].map (sm_t ad)).toArray) hrun hS (fun q _ h => hF q h) hF (fun q _ h => hF q h) (fun E ce q9 u t H1 locs1 ht hvm hpx hBX hz hk hS1 hce hcv hcl => ?_) (fun rv u t H1 locs1 ht hvm hw hB hz1 hk1 hS1 => ?_)
    · obtain ⟨⟨ex, hex1, rfl⟩, hP1⟩ := hBX
      rw [ht] at hP1
      obtain ⟨r0, rv, rM⟩ := r
      have hex1 : r0 = ex + 1 := hex1
      subst hex1
      have hR1 : R = (0, .inl (nI ([1, 0, 0].getD ex 0)), rM) := (Option.some.inj (show some ((0, .inl (nI ([1, 0, 0].getD ex 0)), rM) : sm_R) = some R by rw [← hR]; rfl)).symm
      have hre2 : ex = 0 := by
        rcases hre with h | h
        · exact absurd h (Nat.succ_ne_zero _)
        · exact Nat.succ.inj h
      rcases hre2 with rfl
      · refine sm_catch (ex := 0) hown hts hPT.1 hNc (by decide) [] (0, 9, 12, 13) [] htab (fun y hy => by cases hy) rfl ⟨by decide, by decide⟩ hce hcv hcl ?_
        refine lv_astore_n (lv' := _) (i := 3) hx hb (show decode cL_check 12 = .ok (.astore_n 3, 1) by decide +kernel) rfl hl (by decide) rfl (fun la hl => ?_)
        refine lv_iconst (v := 1) hx hb (show decode cL_check 13 = .ok (.iconst 1, 1) by decide +kernel) (by decide) ?_
        exact W.iret hx hb hret (fun t ht hW => ⟨⟨1, (), rfl, by rw [hR1]; rfl, by show va_P _ _ _ t.heap; rw [ht, hR1]; exact hP1⟩, hS1.F ht⟩) hS1.2.2 (show decode cL_check 14 = .ok (.ireturn, 1) by decide +kernel)
    · obtain ⟨hw1, hw2⟩ := hw
      have hP1 : va_P D vwCl (sm_W tc ad r.2.2) t.heap := hB
      rw [ht] at hP1
      obtain ⟨r0, rv0, rM⟩ := r
      have hw1 : r0 = 0 := hw1
      have hw2 : rv0 = .inl rv := hw2
      subst hw1; subst hw2
      have hR1 : R = (0, .inl 0, sm_w rM 30 0 1 0 rv.toInt64) := (Option.some.inj (show some ((0, .inl 0, sm_w rM 30 0 1 0 rv.toInt64) : sm_R) = some R by rw [← hR]; rfl)).symm
      have k2 := (sm_s1_ok X (i := (.i2l, [], [])) (len := 1) (pc := 7) (ls := [(0, .inr (.inr (9, 0, 0))), (1, .inl p1), (2, .inr (.inr (30, 0, 1)))]) (st := [.inl rv, .inl 0, .inr (.inr (30, 0, 1))]) (by decide +kernel) (by decide +kernel) rfl okl (sm_oks_c.mpr ⟨trivial, sm_oks_c.mpr ⟨trivial, sm_oks_c.mpr ⟨oo, on⟩⟩⟩)).2 (kst rM rv.toInt64 hR1)
      exact k2 H1 locs1 la hP1 hS1 hl
  have k_3 := (sm_s1_ok X (i := (.iload_n 1, [], [])) (len := 1) (pc := 3) (ls := [(0, .inr (.inr (9, 0, 0))), (1, .inl p1), (2, .inr (.inr (30, 0, 1)))]) (st := [.inr (.inr (9, 0, 0)), .inl 0, .inr (.inr (30, 0, 1))]) (by decide +kernel) (by decide +kernel) rfl okl (sm_oks_c.mpr ⟨ox, (sm_oks_c.mpr ⟨trivial, (sm_oks_c.mpr ⟨oo, on⟩)⟩)⟩)).2 kcall
  have k_2 := (sm_s1_ok X (i := (.aload_n 0, [], [])) (len := 1) (pc := 2) (ls := [(0, .inr (.inr (9, 0, 0))), (1, .inl p1), (2, .inr (.inr (30, 0, 1)))]) (st := [.inl 0, .inr (.inr (30, 0, 1))]) (by decide +kernel) (by decide +kernel) rfl okl (sm_oks_c.mpr ⟨trivial, (sm_oks_c.mpr ⟨oo, on⟩)⟩)).2 k_3
  have k_1 := (sm_s1_ok X (i := (.iconst 0, [.inl (0 : Int32)], [])) (len := 1) (pc := 1) (ls := [(0, .inr (.inr (9, 0, 0))), (1, .inl p1), (2, .inr (.inr (30, 0, 1)))]) (st := [.inr (.inr (30, 0, 1))]) (by decide +kernel) (by decide +kernel) rfl okl (sm_oks_c.mpr ⟨oo, on⟩)).2 k_2
  have k_0 := (sm_s1_ok X (i := (.aload_n 2, [], [])) (len := 1) (pc := 0) (ls := [(0, .inr (.inr (9, 0, 0))), (1, .inl p1), (2, .inr (.inr (30, 0, 1)))]) (st := []) (by decide +kernel) (by decide +kernel) rfl okl on).2 k_1
  exact k_0 s.heap [] _ hP va_S.rf hl
set_option maxHeartbeats 4000000 in
theorem wr_error {l : Launch} {D : va_G} {tc : Nat → ClassId} {ad : Nat × Nat × Nat → Nat} {M : sm_M} {r R : sm_R} (p1 : Int32) (hM : sm_MetX l D tc ad kTop_error [.inr (.inr (9, 0, 0)), .inl p1] M r) (hre : r.1 = 0 ∨ r.1 = 1) (hR : sm_wr1 (kTop_error, 0, [1, 0, 0]) (some (.inr (.inr (30, 0, 1)))) (some r) = some R) : sm_MetW l D tc ad kLaw_error [(0, 9, 12, 13)] [.inr (.inr (9, 0, 0)), .inl p1, .inr (.inr (30, 0, 1))] M R := by
  intro sz
  refine va_MetW (cc := cL_error) (maxL := 4) (ret := some .int) (by decide +kernel) rfl ?_
  intro p e s m args below meth c s₁ B hml hv
  obtain ⟨rfl, ⟨⟨hsz, hP, hK, hD0, hN⟩, hPT⟩, hNc⟩ := hv
  have hx := B.exec
  have hb := B.bytes
  have hret := B.returns
  have hts0 := atoms_spec (ws := Cond.codeWith (lt_y kLaw_error) (lt_b kLaw_error) (lt_n kLaw_error) (some .int) [(0, 9, 12, 13)] :: lw_g) B.pre
  have hown : s.vm.findClass RL = some m.cls := findClass_of_methodNamed B.named
  have hlocks := B.notSynchronized
  have htab := vx_table (x := yL_law) B (hts0 _ List.mem_cons_self)
  subst hsz
  have hD := sm_D_all (D := D) (sz := s.heap.size) hD0
  have hts : ∀ w ∈ lw_g, w.before ([.inr (.inr (9, 0, 0)), .inl p1, .inr (.inr (30, 0, 1))].map (sm_t ad)).toArray s = true := fun w hw => hts0 w (List.mem_cons_of_mem _ hw)
  have X : sm_Cx p s m ([.inr (.inr (9, 0, 0)), .inl p1, .inr (.inr (30, 0, 1))].map (sm_t ad)).toArray c cL_error 4 RL D tc ad (va_A (sm_W tc ad M) s.heap.size) s.heap (0, fun _ => 0) false := ⟨hx, hb, hml, hown, hts, hK, hD, hN, fun q h => Or.inr h, fun h => by cases h⟩
  have hl := lv_entry ([.inr (.inr (9, 0, 0)), .inl p1, .inr (.inr (30, 0, 1))].map (sm_t ad)) (n := 4) (by rw [lg_sl_len]; exact Nat.le_of_ble_eq_true rfl)
  rw [lg_entry_eq]
  rw [lv_args_ent] at hl
  have ox : sm_ok false (.inr (.inr (9, 0, 0))) := Or.inl (by decide +kernel)
  have oo : sm_ok false (.inr (.inr (30, 0, 1))) := Or.inl (by decide +kernel)
  have on : sm_oks false [] := fun v hv => by cases hv
  have okl : sm_okl false [(0, .inr (.inr (9, 0, 0))), (1, .inl p1), (2, .inr (.inr (30, 0, 1)))] := by
    intro q hq
    simp only [List.mem_cons, List.not_mem_nil, or_false] at hq
    rcases hq with rfl | rfl | rfl
    · exact ox
    · trivial
    · exact oo
  -- the end
  have kend : ∀ M1, R = (0, .inl 0, M1) → sm_SW D tc ad (va_A (sm_W tc ad M) s.heap.size) s.heap 4 (sm_KW p l e (headSpec (Cond.codeWith (lt_y kLaw_error) (lt_b kLaw_error) (lt_n kLaw_error) (some .int) [(0, 9, 12, 13)] :: lw_g) (sm_rmW kLaw_error)).room s m ([.inr (.inr (9, 0, 0)), .inl p1, .inr (.inr (30, 0, 1))].map (sm_t ad)).toArray below meth c 1 6 (MQ below (va_Qi (S := Unit) (fun x _ => R.2.1 = .inl x) (sm_T D tc ad R.2.2) (va_A (sm_W tc ad M) s.heap.size)) ([.inr (.inr (9, 0, 0)), .inl p1, .inr (.inr (30, 0, 1))].map (sm_t ad)).toArray s 1 6 (va_A (sm_W tc ad M) s.heap.size))) 15 [(0, .inr (.inr (9, 0, 0))), (1, .inl p1), (2, .inr (.inr (30, 0, 1)))] [] M1 := by
    intro M1 hR1
    subst hR1
    refine (sm_s1_ok X (i := (.iconst 0, [.inl (0 : Int32)], [])) (len := 1) (ls := [(0, .inr (.inr (9, 0, 0))), (1, .inl p1), (2, .inr (.inr (30, 0, 1)))]) (st := []) (by decide +kernel) (by decide +kernel) rfl okl on).2 ?_
    intro H locs la hP hS hl
    exact W.iret hx hb hret (fun t ht hW => ⟨⟨0, (), rfl, rfl, by show va_P _ _ _ t.heap; rw [ht]; exact hP⟩, hS.F ht⟩) hS.2.2 (by decide +kernel)
  have kst : ∀ (M1 : sm_M) (v : Int64), R = (0, .inl 0, sm_w M1 30 0 1 0 v) → sm_SW D tc ad (va_A (sm_W tc ad M) s.heap.size) s.heap 4 (sm_KW p l e (headSpec (Cond.codeWith (lt_y kLaw_error) (lt_b kLaw_error) (lt_n kLaw_error) (some .int) [(0, 9, 12, 13)] :: lw_g) (sm_rmW kLaw_error)).room s m ([.inr (.inr (9, 0, 0)), .inl p1, .inr (.inr (30, 0, 1))].map (sm_t ad)).toArray below meth c 1 6 (MQ below (va_Qi (S := Unit) (fun x _ => R.2.1 = .inl x) (sm_T D tc ad R.2.2) (va_A (sm_W tc ad M) s.heap.size)) ([.inr (.inr (9, 0, 0)), .inl p1, .inr (.inr (30, 0, 1))].map (sm_t ad)).toArray s 1 6 (va_A (sm_W tc ad M) s.heap.size))) 8 [(0, .inr (.inr (9, 0, 0))), (1, .inl p1), (2, .inr (.inr (30, 0, 1)))] [.inr (.inl v), .inl 0, .inr (.inr (30, 0, 1))] M1 := by
    intro M1 v hR1
    refine (sm_s1_ok X (i := (.lastore, [], [])) (len := 1) (ls := [(0, .inr (.inr (9, 0, 0))), (1, .inl p1), (2, .inr (.inr (30, 0, 1)))]) (st := [.inr (.inl v), .inl 0, .inr (.inr (30, 0, 1))]) (ls' := [(0, .inr (.inr (9, 0, 0))), (1, .inl p1), (2, .inr (.inr (30, 0, 1)))]) (st' := []) (M' := sm_w M1 30 0 1 0 v) (by decide +kernel) (by decide +kernel) rfl okl (sm_oks_c.mpr ⟨trivial, sm_oks_c.mpr ⟨trivial, sm_oks_c.mpr ⟨oo, on⟩⟩⟩)).2 ?_
    intro H locs la hP hS hl
    exact lv_goto (tgt := 15) hx hb (pc := 9) (off := 6) (by decide +kernel) (by decide) (kend _ hR1 H locs la hP hS hl)
  have kcall : sm_SW D tc ad (va_A (sm_W tc ad M) s.heap.size) s.heap 4 (sm_KW p l e (headSpec (Cond.codeWith (lt_y kLaw_error) (lt_b kLaw_error) (lt_n kLaw_error) (some .int) [(0, 9, 12, 13)] :: lw_g) (sm_rmW kLaw_error)).room s m ([.inr (.inr (9, 0, 0)), .inl p1, .inr (.inr (30, 0, 1))].map (sm_t ad)).toArray below meth c 0 0 (MQ below (va_Qi (S := Unit) (fun x _ => R.2.1 = .inl x) (sm_T D tc ad R.2.2) (va_A (sm_W tc ad M) s.heap.size)) ([.inr (.inr (9, 0, 0)), .inl p1, .inr (.inr (30, 0, 1))].map (sm_t ad)).toArray s 1 6 (va_A (sm_W tc ad M) s.heap.size))) 4 [(0, .inr (.inr (9, 0, 0))), (1, .inl p1), (2, .inr (.inr (30, 0, 1)))] [.inl p1, .inr (.inr (9, 0, 0)), .inl 0, .inr (.inr (30, 0, 1))] M := by
    intro H locs la hP hS hl
    obtain ⟨q0, hq0, hw0⟩ := sm_W_at (tc := tc) (ad := ad) M (r := (9, 0, 0)) (by decide +kernel)
    rw [sm_ce_o] at hw0
    have hrecv := va_recv hK hP (ci := 9) rfl hw0
    have hpre := sm_preX hK hD (fun q h => Or.inr h) hN hPT hS hP ([.inr (.inr (9, 0, 0)), .inl p1].map (sm_t ad))
    obtain ⟨g1, g2, g3, g4, g5⟩ := sm_mb_spec (sm_mb_all kTop_error (by decide))
    have g5 : Cond.instanceMethod (lt_y kTop_error) ∈ lw_g ∧ Cond.selects (lt_y kTop_error).cls (lt_y kTop_error) (lt_y kTop_error) ∈ lw_g := by
      rcases g5 with ⟨q, -⟩ | ⟨-, q1, q2, -⟩
      · exact absurd q (by decide +kernel)
      · exact ⟨q1, q2⟩
    have hw1 : Cond.methodLink RL 33 (lt_y kTop_error) ∈ lw_g := sm_wd_in (i := 873) (by decide +kernel)
    have hrun := vx_runV (p := p) (l := l) (e := e) (R := (headSpec (Cond.codeWith (lt_y kLaw_error) (lt_b kLaw_error) (lt_n kLaw_error) (some .int) [(0, 9, 12, 13)] :: lw_g) (sm_rmW kLaw_error)).room) (below := below) (meth := meth) (locs := locs) (cells := 0) (slots := 0) (As := ([.inl p1] : List sm_v).map (sm_t ad)) (rest := ([.inl 0, .inr (.inr (30, 0, 1))] : List sm_v).map (sm_t ad)) (b := ad (9, 0, 0)) (n := 1) (index := 33) (C := RX9) (g := F0 m 4 la (([.inl p1, .inr (.inr (9, 0, 0)), .inl 0, .inr (.inr (30, 0, 1))] : List sm_v).map (sm_t ad))) ⟨hx, hb, hml, hown, hts⟩ (hM H.size)
      ⟨callB_of 1 hts (lw_g_in (fun w hw => by rcases List.mem_cons.mp hw with rfl | hw; exact g4; exact hw)) rfl rfl rfl (hts _ g3) (hts _ hw1) ⟨g2.1, g2.2, by decide +kernel⟩ ⟨by decide +kernel, by decide +kernel⟩, hts _ g5.1, hts _ g5.2⟩
      ⟨hpre.1, hrecv, hpre.2⟩ rfl rfl hl.1 rfl (lv_room (Nat.le_of_ble_eq_true rfl)) (show decode cL_error 4 = .ok (.invokevirtual 33, 3) by decide +kernel) ⟨Nat.le_refl _, Nat.le_refl _⟩
    have hF := sm_freeA hD (fun q h => Or.inr h) hS M
    refine vx_calli (S := Unit) (SX := Unit) (a := ([.inr (.inr (9, 0, 0)), .inl p1].map (sm_t ad)).toArray) hrun hS (fun q _ h => hF q h) hF (fun q _ h => hF q h) (fun E ce q9 u t H1 locs1 ht hvm hpx hBX hz hk hS1 hce hcv hcl => ?_) (fun rv u t H1 locs1 ht hvm hw hB hz1 hk1 hS1 => ?_)
    · obtain ⟨⟨ex, hex1, rfl⟩, hP1⟩ := hBX
      rw [ht] at hP1
      obtain ⟨r0, rv, rM⟩ := r
      have hex1 : r0 = ex + 1 := hex1
      subst hex1
      have hR1 : R = (0, .inl (nI ([1, 0, 0].getD ex 0)), rM) := (Option.some.inj (show some ((0, .inl (nI ([1, 0, 0].getD ex 0)), rM) : sm_R) = some R by rw [← hR]; rfl)).symm
      have hre2 : ex = 0 := by
        rcases hre with h | h
        · exact absurd h (Nat.succ_ne_zero _)
        · exact Nat.succ.inj h
      rcases hre2 with rfl
      · refine sm_catch (ex := 0) hown hts hPT.1 hNc (by decide) [] (0, 9, 12, 13) [] htab (fun y hy => by cases hy) rfl ⟨by decide, by decide⟩ hce hcv hcl ?_
        refine lv_astore_n (lv' := _) (i := 3) hx hb (show decode cL_error 12 = .ok (.astore_n 3, 1) by decide +kernel) rfl hl (by decide) rfl (fun la hl => ?_)
        refine lv_iconst (v := 1) hx hb (show decode cL_error 13 = .ok (.iconst 1, 1) by decide +kernel) (by decide) ?_
        exact W.iret hx hb hret (fun t ht hW => ⟨⟨1, (), rfl, by rw [hR1]; rfl, by show va_P _ _ _ t.heap; rw [ht, hR1]; exact hP1⟩, hS1.F ht⟩) hS1.2.2 (show decode cL_error 14 = .ok (.ireturn, 1) by decide +kernel)
    · obtain ⟨hw1, hw2⟩ := hw
      have hP1 : va_P D vwCl (sm_W tc ad r.2.2) t.heap := hB
      rw [ht] at hP1
      obtain ⟨r0, rv0, rM⟩ := r
      have hw1 : r0 = 0 := hw1
      have hw2 : rv0 = .inl rv := hw2
      subst hw1; subst hw2
      have hR1 : R = (0, .inl 0, sm_w rM 30 0 1 0 rv.toInt64) := (Option.some.inj (show some ((0, .inl 0, sm_w rM 30 0 1 0 rv.toInt64) : sm_R) = some R by rw [← hR]; rfl)).symm
      have k2 := (sm_s1_ok X (i := (.i2l, [], [])) (len := 1) (pc := 7) (ls := [(0, .inr (.inr (9, 0, 0))), (1, .inl p1), (2, .inr (.inr (30, 0, 1)))]) (st := [.inl rv, .inl 0, .inr (.inr (30, 0, 1))]) (by decide +kernel) (by decide +kernel) rfl okl (sm_oks_c.mpr ⟨trivial, sm_oks_c.mpr ⟨trivial, sm_oks_c.mpr ⟨oo, on⟩⟩⟩)).2 (kst rM rv.toInt64 hR1)
      exact k2 H1 locs1 la hP1 hS1 hl
  have k_3 := (sm_s1_ok X (i := (.iload_n 1, [], [])) (len := 1) (pc := 3) (ls := [(0, .inr (.inr (9, 0, 0))), (1, .inl p1), (2, .inr (.inr (30, 0, 1)))]) (st := [.inr (.inr (9, 0, 0)), .inl 0, .inr (.inr (30, 0, 1))]) (by decide +kernel) (by decide +kernel) rfl okl (sm_oks_c.mpr ⟨ox, (sm_oks_c.mpr ⟨trivial, (sm_oks_c.mpr ⟨oo, on⟩)⟩)⟩)).2 kcall
  have k_2 := (sm_s1_ok X (i := (.aload_n 0, [], [])) (len := 1) (pc := 2) (ls := [(0, .inr (.inr (9, 0, 0))), (1, .inl p1), (2, .inr (.inr (30, 0, 1)))]) (st := [.inl 0, .inr (.inr (30, 0, 1))]) (by decide +kernel) (by decide +kernel) rfl okl (sm_oks_c.mpr ⟨trivial, (sm_oks_c.mpr ⟨oo, on⟩)⟩)).2 k_3
  have k_1 := (sm_s1_ok X (i := (.iconst 0, [.inl (0 : Int32)], [])) (len := 1) (pc := 1) (ls := [(0, .inr (.inr (9, 0, 0))), (1, .inl p1), (2, .inr (.inr (30, 0, 1)))]) (st := [.inr (.inr (30, 0, 1))]) (by decide +kernel) (by decide +kernel) rfl okl (sm_oks_c.mpr ⟨oo, on⟩)).2 k_2
  have k_0 := (sm_s1_ok X (i := (.aload_n 2, [], [])) (len := 1) (pc := 0) (ls := [(0, .inr (.inr (9, 0, 0))), (1, .inl p1), (2, .inr (.inr (30, 0, 1)))]) (st := []) (by decide +kernel) (by decide +kernel) rfl okl on).2 k_1
  exact k_0 s.heap [] _ hP va_S.rf hl
set_option maxHeartbeats 4000000 in
theorem wr_borrower {l : Launch} {D : va_G} {tc : Nat → ClassId} {ad : Nat × Nat × Nat → Nat} {M : sm_M} {r R : sm_R} (p1 : Int32) (hM : sm_MetX l D tc ad kTop_borrower [.inr (.inr (9, 0, 0)), .inl p1] M r) (hre : r.1 = 0 ∨ r.1 = 1 ∨ r.1 = 3) (hR : sm_wr1 (kTop_borrower, 0, [1, 0, 2]) (some (.inr (.inr (30, 0, 1)))) (some r) = some R) : sm_MetW l D tc ad kLaw_borrower [(0, 9, 12, 13), (0, 9, 15, 17)] [.inr (.inr (9, 0, 0)), .inl p1, .inr (.inr (30, 0, 1))] M R := by
  intro sz
  refine va_MetW (cc := cL_borrower) (maxL := 4) (ret := some .int) (by decide +kernel) rfl ?_
  intro p e s m args below meth c s₁ B hml hv
  obtain ⟨rfl, ⟨⟨hsz, hP, hK, hD0, hN⟩, hPT⟩, hNc⟩ := hv
  have hx := B.exec
  have hb := B.bytes
  have hret := B.returns
  have hts0 := atoms_spec (ws := Cond.codeWith (lt_y kLaw_borrower) (lt_b kLaw_borrower) (lt_n kLaw_borrower) (some .int) [(0, 9, 12, 13), (0, 9, 15, 17)] :: lw_g) B.pre
  have hown : s.vm.findClass RL = some m.cls := findClass_of_methodNamed B.named
  have hlocks := B.notSynchronized
  have htab := vx_table (x := yL_law) B (hts0 _ List.mem_cons_self)
  subst hsz
  have hD := sm_D_all (D := D) (sz := s.heap.size) hD0
  have hts : ∀ w ∈ lw_g, w.before ([.inr (.inr (9, 0, 0)), .inl p1, .inr (.inr (30, 0, 1))].map (sm_t ad)).toArray s = true := fun w hw => hts0 w (List.mem_cons_of_mem _ hw)
  have X : sm_Cx p s m ([.inr (.inr (9, 0, 0)), .inl p1, .inr (.inr (30, 0, 1))].map (sm_t ad)).toArray c cL_borrower 4 RL D tc ad (va_A (sm_W tc ad M) s.heap.size) s.heap (0, fun _ => 0) false := ⟨hx, hb, hml, hown, hts, hK, hD, hN, fun q h => Or.inr h, fun h => by cases h⟩
  have hl := lv_entry ([.inr (.inr (9, 0, 0)), .inl p1, .inr (.inr (30, 0, 1))].map (sm_t ad)) (n := 4) (by rw [lg_sl_len]; exact Nat.le_of_ble_eq_true rfl)
  rw [lg_entry_eq]
  rw [lv_args_ent] at hl
  have ox : sm_ok false (.inr (.inr (9, 0, 0))) := Or.inl (by decide +kernel)
  have oo : sm_ok false (.inr (.inr (30, 0, 1))) := Or.inl (by decide +kernel)
  have on : sm_oks false [] := fun v hv => by cases hv
  have okl : sm_okl false [(0, .inr (.inr (9, 0, 0))), (1, .inl p1), (2, .inr (.inr (30, 0, 1)))] := by
    intro q hq
    simp only [List.mem_cons, List.not_mem_nil, or_false] at hq
    rcases hq with rfl | rfl | rfl
    · exact ox
    · trivial
    · exact oo
  -- the end
  have kend : ∀ M1, R = (0, .inl 0, M1) → sm_SW D tc ad (va_A (sm_W tc ad M) s.heap.size) s.heap 4 (sm_KW p l e (headSpec (Cond.codeWith (lt_y kLaw_borrower) (lt_b kLaw_borrower) (lt_n kLaw_borrower) (some .int) [(0, 9, 12, 13), (0, 9, 15, 17)] :: lw_g) (sm_rmW kLaw_borrower)).room s m ([.inr (.inr (9, 0, 0)), .inl p1, .inr (.inr (30, 0, 1))].map (sm_t ad)).toArray below meth c 1 6 (MQ below (va_Qi (S := Unit) (fun x _ => R.2.1 = .inl x) (sm_T D tc ad R.2.2) (va_A (sm_W tc ad M) s.heap.size)) ([.inr (.inr (9, 0, 0)), .inl p1, .inr (.inr (30, 0, 1))].map (sm_t ad)).toArray s 1 6 (va_A (sm_W tc ad M) s.heap.size))) 18 [(0, .inr (.inr (9, 0, 0))), (1, .inl p1), (2, .inr (.inr (30, 0, 1)))] [] M1 := by
    intro M1 hR1
    subst hR1
    refine (sm_s1_ok X (i := (.iconst 0, [.inl (0 : Int32)], [])) (len := 1) (ls := [(0, .inr (.inr (9, 0, 0))), (1, .inl p1), (2, .inr (.inr (30, 0, 1)))]) (st := []) (by decide +kernel) (by decide +kernel) rfl okl on).2 ?_
    intro H locs la hP hS hl
    exact W.iret hx hb hret (fun t ht hW => ⟨⟨0, (), rfl, rfl, by show va_P _ _ _ t.heap; rw [ht]; exact hP⟩, hS.F ht⟩) hS.2.2 (by decide +kernel)
  have kst : ∀ (M1 : sm_M) (v : Int64), R = (0, .inl 0, sm_w M1 30 0 1 0 v) → sm_SW D tc ad (va_A (sm_W tc ad M) s.heap.size) s.heap 4 (sm_KW p l e (headSpec (Cond.codeWith (lt_y kLaw_borrower) (lt_b kLaw_borrower) (lt_n kLaw_borrower) (some .int) [(0, 9, 12, 13), (0, 9, 15, 17)] :: lw_g) (sm_rmW kLaw_borrower)).room s m ([.inr (.inr (9, 0, 0)), .inl p1, .inr (.inr (30, 0, 1))].map (sm_t ad)).toArray below meth c 1 6 (MQ below (va_Qi (S := Unit) (fun x _ => R.2.1 = .inl x) (sm_T D tc ad R.2.2) (va_A (sm_W tc ad M) s.heap.size)) ([.inr (.inr (9, 0, 0)), .inl p1, .inr (.inr (30, 0, 1))].map (sm_t ad)).toArray s 1 6 (va_A (sm_W tc ad M) s.heap.size))) 8 [(0, .inr (.inr (9, 0, 0))), (1, .inl p1), (2, .inr (.inr (30, 0, 1)))] [.inr (.inl v), .inl 0, .inr (.inr (30, 0, 1))] M1 := by
    intro M1 v hR1
    refine (sm_s1_ok X (i := (.lastore, [], [])) (len := 1) (ls := [(0, .inr (.inr (9, 0, 0))), (1, .inl p1), (2, .inr (.inr (30, 0, 1)))]) (st := [.inr (.inl v), .inl 0, .inr (.inr (30, 0, 1))]) (ls' := [(0, .inr (.inr (9, 0, 0))), (1, .inl p1), (2, .inr (.inr (30, 0, 1)))]) (st' := []) (M' := sm_w M1 30 0 1 0 v) (by decide +kernel) (by decide +kernel) rfl okl (sm_oks_c.mpr ⟨trivial, sm_oks_c.mpr ⟨trivial, sm_oks_c.mpr ⟨oo, on⟩⟩⟩)).2 ?_
    intro H locs la hP hS hl
    exact lv_goto (tgt := 18) hx hb (pc := 9) (off := 9) (by decide +kernel) (by decide) (kend _ hR1 H locs la hP hS hl)
  have kcall : sm_SW D tc ad (va_A (sm_W tc ad M) s.heap.size) s.heap 4 (sm_KW p l e (headSpec (Cond.codeWith (lt_y kLaw_borrower) (lt_b kLaw_borrower) (lt_n kLaw_borrower) (some .int) [(0, 9, 12, 13), (0, 9, 15, 17)] :: lw_g) (sm_rmW kLaw_borrower)).room s m ([.inr (.inr (9, 0, 0)), .inl p1, .inr (.inr (30, 0, 1))].map (sm_t ad)).toArray below meth c 0 0 (MQ below (va_Qi (S := Unit) (fun x _ => R.2.1 = .inl x) (sm_T D tc ad R.2.2) (va_A (sm_W tc ad M) s.heap.size)) ([.inr (.inr (9, 0, 0)), .inl p1, .inr (.inr (30, 0, 1))].map (sm_t ad)).toArray s 1 6 (va_A (sm_W tc ad M) s.heap.size))) 4 [(0, .inr (.inr (9, 0, 0))), (1, .inl p1), (2, .inr (.inr (30, 0, 1)))] [.inl p1, .inr (.inr (9, 0, 0)), .inl 0, .inr (.inr (30, 0, 1))] M := by
    intro H locs la hP hS hl
    obtain ⟨q0, hq0, hw0⟩ := sm_W_at (tc := tc) (ad := ad) M (r := (9, 0, 0)) (by decide +kernel)
    rw [sm_ce_o] at hw0
    have hrecv := va_recv hK hP (ci := 9) rfl hw0
    have hpre := sm_preX hK hD (fun q h => Or.inr h) hN hPT hS hP ([.inr (.inr (9, 0, 0)), .inl p1].map (sm_t ad))
    obtain ⟨g1, g2, g3, g4, g5⟩ := sm_mb_spec (sm_mb_all kTop_borrower (by decide))
    have g5 : Cond.instanceMethod (lt_y kTop_borrower) ∈ lw_g ∧ Cond.selects (lt_y kTop_borrower).cls (lt_y kTop_borrower) (lt_y kTop_borrower) ∈ lw_g := by
      rcases g5 with ⟨q, -⟩ | ⟨-, q1, q2, -⟩
      · exact absurd q (by decide +kernel)
      · exact ⟨q1, q2⟩
    have hw1 : Cond.methodLink RL 36 (lt_y kTop_borrower) ∈ lw_g := sm_wd_in (i := 884) (by decide +kernel)
    have hrun := vx_runV (p := p) (l := l) (e := e) (R := (headSpec (Cond.codeWith (lt_y kLaw_borrower) (lt_b kLaw_borrower) (lt_n kLaw_borrower) (some .int) [(0, 9, 12, 13), (0, 9, 15, 17)] :: lw_g) (sm_rmW kLaw_borrower)).room) (below := below) (meth := meth) (locs := locs) (cells := 0) (slots := 0) (As := ([.inl p1] : List sm_v).map (sm_t ad)) (rest := ([.inl 0, .inr (.inr (30, 0, 1))] : List sm_v).map (sm_t ad)) (b := ad (9, 0, 0)) (n := 1) (index := 36) (C := RX9) (g := F0 m 4 la (([.inl p1, .inr (.inr (9, 0, 0)), .inl 0, .inr (.inr (30, 0, 1))] : List sm_v).map (sm_t ad))) ⟨hx, hb, hml, hown, hts⟩ (hM H.size)
      ⟨callB_of 1 hts (lw_g_in (fun w hw => by rcases List.mem_cons.mp hw with rfl | hw; exact g4; exact hw)) rfl rfl rfl (hts _ g3) (hts _ hw1) ⟨g2.1, g2.2, by decide +kernel⟩ ⟨by decide +kernel, by decide +kernel⟩, hts _ g5.1, hts _ g5.2⟩
      ⟨hpre.1, hrecv, hpre.2⟩ rfl rfl hl.1 rfl (lv_room (Nat.le_of_ble_eq_true rfl)) (show decode cL_borrower 4 = .ok (.invokevirtual 36, 3) by decide +kernel) ⟨Nat.le_refl _, Nat.le_refl _⟩
    have hF := sm_freeA hD (fun q h => Or.inr h) hS M
    refine vx_calli (S := Unit) (SX := Unit) (a := ([.inr (.inr (9, 0, 0)), .inl p1].map (sm_t ad)).toArray) hrun hS (fun q _ h => hF q h) hF (fun q _ h => hF q h) (fun E ce q9 u t H1 locs1 ht hvm hpx hBX hz hk hS1 hce hcv hcl => ?_) (fun rv u t H1 locs1 ht hvm hw hB hz1 hk1 hS1 => ?_)
    · obtain ⟨⟨ex, hex1, rfl⟩, hP1⟩ := hBX
      rw [ht] at hP1
      obtain ⟨r0, rv, rM⟩ := r
      have hex1 : r0 = ex + 1 := hex1
      subst hex1
      have hR1 : R = (0, .inl (nI ([1, 0, 2].getD ex 0)), rM) := (Option.some.inj (show some ((0, .inl (nI ([1, 0, 2].getD ex 0)), rM) : sm_R) = some R by rw [← hR]; rfl)).symm
      have hre2 : ex = 0 ∨ ex = 2 := by
        rcases hre with h | h | h
        · exact absurd h (Nat.succ_ne_zero _)
        · exact Or.inl (Nat.succ.inj h)
        · exact Or.inr ((Nat.succ.inj h))
      rcases hre2 with rfl | rfl
      · refine sm_catch (ex := 0) hown hts hPT.1 hNc (by decide) [] (0, 9, 12, 13) [(0, 9, 15, 17)] htab (fun y hy => by cases hy) rfl ⟨by decide, by decide⟩ hce hcv hcl ?_
        refine lv_astore_n (lv' := _) (i := 3) hx hb (show decode cL_borrower 12 = .ok (.astore_n 3, 1) by decide +kernel) rfl hl (by decide) rfl (fun la hl => ?_)
        refine lv_iconst (v := 1) hx hb (show decode cL_borrower 13 = .ok (.iconst 1, 1) by decide +kernel) (by decide) ?_
        exact W.iret hx hb hret (fun t ht hW => ⟨⟨1, (), rfl, by rw [hR1]; rfl, by show va_P _ _ _ t.heap; rw [ht, hR1]; exact hP1⟩, hS1.F ht⟩) hS1.2.2 (show decode cL_borrower 14 = .ok (.ireturn, 1) by decide +kernel)
      · refine sm_catch (ex := 2) hown hts hPT.1 hNc (by decide) [(0, 9, 12, 13)] (0, 9, 15, 17) [] htab (fun y hy => by simp only [List.mem_cons, List.not_mem_nil, or_false] at hy; rcases hy with rfl; exact ⟨0, by decide, by decide, rfl⟩) rfl ⟨by decide, by decide⟩ hce hcv hcl ?_
        refine lv_astore_n (lv' := _) (i := 3) hx hb (show decode cL_borrower 15 = .ok (.astore_n 3, 1) by decide +kernel) rfl hl (by decide) rfl (fun la hl => ?_)
        refine lv_iconst (v := 2) hx hb (show decode cL_borrower 16 = .ok (.iconst 2, 1) by decide +kernel) (by decide) ?_
        exact W.iret hx hb hret (fun t ht hW => ⟨⟨2, (), rfl, by rw [hR1]; rfl, by show va_P _ _ _ t.heap; rw [ht, hR1]; exact hP1⟩, hS1.F ht⟩) hS1.2.2 (show decode cL_borrower 17 = .ok (.ireturn, 1) by decide +kernel)
    · obtain ⟨hw1, hw2⟩ := hw
      have hP1 : va_P D vwCl (sm_W tc ad r.2.2) t.heap := hB
      rw [ht] at hP1
      obtain ⟨r0, rv0, rM⟩ := r
      have hw1 : r0 = 0 := hw1
      have hw2 : rv0 = .inl rv := hw2
      subst hw1; subst hw2
      have hR1 : R = (0, .inl 0, sm_w rM 30 0 1 0 rv.toInt64) := (Option.some.inj (show some ((0, .inl 0, sm_w rM 30 0 1 0 rv.toInt64) : sm_R) = some R by rw [← hR]; rfl)).symm
      have k2 := (sm_s1_ok X (i := (.i2l, [], [])) (len := 1) (pc := 7) (ls := [(0, .inr (.inr (9, 0, 0))), (1, .inl p1), (2, .inr (.inr (30, 0, 1)))]) (st := [.inl rv, .inl 0, .inr (.inr (30, 0, 1))]) (by decide +kernel) (by decide +kernel) rfl okl (sm_oks_c.mpr ⟨trivial, sm_oks_c.mpr ⟨trivial, sm_oks_c.mpr ⟨oo, on⟩⟩⟩)).2 (kst rM rv.toInt64 hR1)
      exact k2 H1 locs1 la hP1 hS1 hl
  have k_3 := (sm_s1_ok X (i := (.iload_n 1, [], [])) (len := 1) (pc := 3) (ls := [(0, .inr (.inr (9, 0, 0))), (1, .inl p1), (2, .inr (.inr (30, 0, 1)))]) (st := [.inr (.inr (9, 0, 0)), .inl 0, .inr (.inr (30, 0, 1))]) (by decide +kernel) (by decide +kernel) rfl okl (sm_oks_c.mpr ⟨ox, (sm_oks_c.mpr ⟨trivial, (sm_oks_c.mpr ⟨oo, on⟩)⟩)⟩)).2 kcall
  have k_2 := (sm_s1_ok X (i := (.aload_n 0, [], [])) (len := 1) (pc := 2) (ls := [(0, .inr (.inr (9, 0, 0))), (1, .inl p1), (2, .inr (.inr (30, 0, 1)))]) (st := [.inl 0, .inr (.inr (30, 0, 1))]) (by decide +kernel) (by decide +kernel) rfl okl (sm_oks_c.mpr ⟨trivial, (sm_oks_c.mpr ⟨oo, on⟩)⟩)).2 k_3
  have k_1 := (sm_s1_ok X (i := (.iconst 0, [.inl (0 : Int32)], [])) (len := 1) (pc := 1) (ls := [(0, .inr (.inr (9, 0, 0))), (1, .inl p1), (2, .inr (.inr (30, 0, 1)))]) (st := [.inr (.inr (30, 0, 1))]) (by decide +kernel) (by decide +kernel) rfl okl (sm_oks_c.mpr ⟨oo, on⟩)).2 k_2
  have k_0 := (sm_s1_ok X (i := (.aload_n 2, [], [])) (len := 1) (pc := 0) (ls := [(0, .inr (.inr (9, 0, 0))), (1, .inl p1), (2, .inr (.inr (30, 0, 1)))]) (st := []) (by decide +kernel) (by decide +kernel) rfl okl on).2 k_1
  exact k_0 s.heap [] _ hP va_S.rf hl
set_option maxHeartbeats 4000000 in
theorem wr_holds {l : Launch} {D : va_G} {tc : Nat → ClassId} {ad : Nat × Nat × Nat → Nat} {M : sm_M} {r R : sm_R} (p1 : Int32) (p2 : Int32) (p3 : Int32) (hM : sm_MetX l D tc ad kTop_holds [.inr (.inr (9, 0, 0)), .inl p1, .inl p2, .inl p3] M r) (hre : r.1 = 0 ∨ r.1 = 1) (hR : sm_wr1 (kTop_holds, 0, [1, 0, 0]) (some (.inr (.inr (30, 0, 1)))) (some r) = some R) : sm_MetW l D tc ad kLaw_holds [(0, 12, 15, 13)] [.inr (.inr (9, 0, 0)), .inl p1, .inl p2, .inl p3, .inr (.inr (30, 0, 1))] M R := by
  intro sz
  refine va_MetW (cc := cL_holds) (maxL := 6) (ret := some .int) (by decide +kernel) rfl ?_
  intro p e s m args below meth c s₁ B hml hv
  obtain ⟨rfl, ⟨⟨hsz, hP, hK, hD0, hN⟩, hPT⟩, hNc⟩ := hv
  have hx := B.exec
  have hb := B.bytes
  have hret := B.returns
  have hts0 := atoms_spec (ws := Cond.codeWith (lt_y kLaw_holds) (lt_b kLaw_holds) (lt_n kLaw_holds) (some .int) [(0, 12, 15, 13)] :: lw_g) B.pre
  have hown : s.vm.findClass RL = some m.cls := findClass_of_methodNamed B.named
  have hlocks := B.notSynchronized
  have htab := vx_table (x := yL_law) B (hts0 _ List.mem_cons_self)
  subst hsz
  have hD := sm_D_all (D := D) (sz := s.heap.size) hD0
  have hts : ∀ w ∈ lw_g, w.before ([.inr (.inr (9, 0, 0)), .inl p1, .inl p2, .inl p3, .inr (.inr (30, 0, 1))].map (sm_t ad)).toArray s = true := fun w hw => hts0 w (List.mem_cons_of_mem _ hw)
  have X : sm_Cx p s m ([.inr (.inr (9, 0, 0)), .inl p1, .inl p2, .inl p3, .inr (.inr (30, 0, 1))].map (sm_t ad)).toArray c cL_holds 6 RL D tc ad (va_A (sm_W tc ad M) s.heap.size) s.heap (0, fun _ => 0) false := ⟨hx, hb, hml, hown, hts, hK, hD, hN, fun q h => Or.inr h, fun h => by cases h⟩
  have hl := lv_entry ([.inr (.inr (9, 0, 0)), .inl p1, .inl p2, .inl p3, .inr (.inr (30, 0, 1))].map (sm_t ad)) (n := 6) (by rw [lg_sl_len]; exact Nat.le_of_ble_eq_true rfl)
  rw [lg_entry_eq]
  rw [lv_args_ent] at hl
  have ox : sm_ok false (.inr (.inr (9, 0, 0))) := Or.inl (by decide +kernel)
  have oo : sm_ok false (.inr (.inr (30, 0, 1))) := Or.inl (by decide +kernel)
  have on : sm_oks false [] := fun v hv => by cases hv
  have okl : sm_okl false [(0, .inr (.inr (9, 0, 0))), (1, .inl p1), (2, .inl p2), (3, .inl p3), (4, .inr (.inr (30, 0, 1)))] := by
    intro q hq
    simp only [List.mem_cons, List.not_mem_nil, or_false] at hq
    rcases hq with rfl | rfl | rfl | rfl | rfl
    · exact ox
    · trivial
    · trivial
    · trivial
    · exact oo
  -- the end
  have kend : ∀ M1, R = (0, .inl 0, M1) → sm_SW D tc ad (va_A (sm_W tc ad M) s.heap.size) s.heap 6 (sm_KW p l e (headSpec (Cond.codeWith (lt_y kLaw_holds) (lt_b kLaw_holds) (lt_n kLaw_holds) (some .int) [(0, 12, 15, 13)] :: lw_g) (sm_rmW kLaw_holds)).room s m ([.inr (.inr (9, 0, 0)), .inl p1, .inl p2, .inl p3, .inr (.inr (30, 0, 1))].map (sm_t ad)).toArray below meth c 1 6 (MQ below (va_Qi (S := Unit) (fun x _ => R.2.1 = .inl x) (sm_T D tc ad R.2.2) (va_A (sm_W tc ad M) s.heap.size)) ([.inr (.inr (9, 0, 0)), .inl p1, .inl p2, .inl p3, .inr (.inr (30, 0, 1))].map (sm_t ad)).toArray s 1 6 (va_A (sm_W tc ad M) s.heap.size))) 19 [(0, .inr (.inr (9, 0, 0))), (1, .inl p1), (2, .inl p2), (3, .inl p3), (4, .inr (.inr (30, 0, 1)))] [] M1 := by
    intro M1 hR1
    subst hR1
    refine (sm_s1_ok X (i := (.iconst 0, [.inl (0 : Int32)], [])) (len := 1) (ls := [(0, .inr (.inr (9, 0, 0))), (1, .inl p1), (2, .inl p2), (3, .inl p3), (4, .inr (.inr (30, 0, 1)))]) (st := []) (by decide +kernel) (by decide +kernel) rfl okl on).2 ?_
    intro H locs la hP hS hl
    exact W.iret hx hb hret (fun t ht hW => ⟨⟨0, (), rfl, rfl, by show va_P _ _ _ t.heap; rw [ht]; exact hP⟩, hS.F ht⟩) hS.2.2 (by decide +kernel)
  have kst : ∀ (M1 : sm_M) (v : Int64), R = (0, .inl 0, sm_w M1 30 0 1 0 v) → sm_SW D tc ad (va_A (sm_W tc ad M) s.heap.size) s.heap 6 (sm_KW p l e (headSpec (Cond.codeWith (lt_y kLaw_holds) (lt_b kLaw_holds) (lt_n kLaw_holds) (some .int) [(0, 12, 15, 13)] :: lw_g) (sm_rmW kLaw_holds)).room s m ([.inr (.inr (9, 0, 0)), .inl p1, .inl p2, .inl p3, .inr (.inr (30, 0, 1))].map (sm_t ad)).toArray below meth c 1 6 (MQ below (va_Qi (S := Unit) (fun x _ => R.2.1 = .inl x) (sm_T D tc ad R.2.2) (va_A (sm_W tc ad M) s.heap.size)) ([.inr (.inr (9, 0, 0)), .inl p1, .inl p2, .inl p3, .inr (.inr (30, 0, 1))].map (sm_t ad)).toArray s 1 6 (va_A (sm_W tc ad M) s.heap.size))) 11 [(0, .inr (.inr (9, 0, 0))), (1, .inl p1), (2, .inl p2), (3, .inl p3), (4, .inr (.inr (30, 0, 1)))] [.inr (.inl v), .inl 0, .inr (.inr (30, 0, 1))] M1 := by
    intro M1 v hR1
    refine (sm_s1_ok X (i := (.lastore, [], [])) (len := 1) (ls := [(0, .inr (.inr (9, 0, 0))), (1, .inl p1), (2, .inl p2), (3, .inl p3), (4, .inr (.inr (30, 0, 1)))]) (st := [.inr (.inl v), .inl 0, .inr (.inr (30, 0, 1))]) (ls' := [(0, .inr (.inr (9, 0, 0))), (1, .inl p1), (2, .inl p2), (3, .inl p3), (4, .inr (.inr (30, 0, 1)))]) (st' := []) (M' := sm_w M1 30 0 1 0 v) (by decide +kernel) (by decide +kernel) rfl okl (sm_oks_c.mpr ⟨trivial, sm_oks_c.mpr ⟨trivial, sm_oks_c.mpr ⟨oo, on⟩⟩⟩)).2 ?_
    intro H locs la hP hS hl
    exact lv_goto (tgt := 19) hx hb (pc := 12) (off := 7) (by decide +kernel) (by decide) (kend _ hR1 H locs la hP hS hl)
  have kcall : sm_SW D tc ad (va_A (sm_W tc ad M) s.heap.size) s.heap 6 (sm_KW p l e (headSpec (Cond.codeWith (lt_y kLaw_holds) (lt_b kLaw_holds) (lt_n kLaw_holds) (some .int) [(0, 12, 15, 13)] :: lw_g) (sm_rmW kLaw_holds)).room s m ([.inr (.inr (9, 0, 0)), .inl p1, .inl p2, .inl p3, .inr (.inr (30, 0, 1))].map (sm_t ad)).toArray below meth c 0 0 (MQ below (va_Qi (S := Unit) (fun x _ => R.2.1 = .inl x) (sm_T D tc ad R.2.2) (va_A (sm_W tc ad M) s.heap.size)) ([.inr (.inr (9, 0, 0)), .inl p1, .inl p2, .inl p3, .inr (.inr (30, 0, 1))].map (sm_t ad)).toArray s 1 6 (va_A (sm_W tc ad M) s.heap.size))) 7 [(0, .inr (.inr (9, 0, 0))), (1, .inl p1), (2, .inl p2), (3, .inl p3), (4, .inr (.inr (30, 0, 1)))] [.inl p3, .inl p2, .inl p1, .inr (.inr (9, 0, 0)), .inl 0, .inr (.inr (30, 0, 1))] M := by
    intro H locs la hP hS hl
    obtain ⟨q0, hq0, hw0⟩ := sm_W_at (tc := tc) (ad := ad) M (r := (9, 0, 0)) (by decide +kernel)
    rw [sm_ce_o] at hw0
    have hrecv := va_recv hK hP (ci := 9) rfl hw0
    have hpre := sm_preX hK hD (fun q h => Or.inr h) hN hPT hS hP ([.inr (.inr (9, 0, 0)), .inl p1, .inl p2, .inl p3].map (sm_t ad))
    obtain ⟨g1, g2, g3, g4, g5⟩ := sm_mb_spec (sm_mb_all kTop_holds (by decide))
    have g5 : Cond.instanceMethod (lt_y kTop_holds) ∈ lw_g ∧ Cond.selects (lt_y kTop_holds).cls (lt_y kTop_holds) (lt_y kTop_holds) ∈ lw_g := by
      rcases g5 with ⟨q, -⟩ | ⟨-, q1, q2, -⟩
      · exact absurd q (by decide +kernel)
      · exact ⟨q1, q2⟩
    have hw1 : Cond.methodLink RL 39 (lt_y kTop_holds) ∈ lw_g := sm_wd_in (i := 896) (by decide +kernel)
    have hrun := vx_runV (p := p) (l := l) (e := e) (R := (headSpec (Cond.codeWith (lt_y kLaw_holds) (lt_b kLaw_holds) (lt_n kLaw_holds) (some .int) [(0, 12, 15, 13)] :: lw_g) (sm_rmW kLaw_holds)).room) (below := below) (meth := meth) (locs := locs) (cells := 0) (slots := 0) (As := ([.inl p1, .inl p2, .inl p3] : List sm_v).map (sm_t ad)) (rest := ([.inl 0, .inr (.inr (30, 0, 1))] : List sm_v).map (sm_t ad)) (b := ad (9, 0, 0)) (n := 3) (index := 39) (C := RX9) (g := F0 m 7 la (([.inl p3, .inl p2, .inl p1, .inr (.inr (9, 0, 0)), .inl 0, .inr (.inr (30, 0, 1))] : List sm_v).map (sm_t ad))) ⟨hx, hb, hml, hown, hts⟩ (hM H.size)
      ⟨callB_of 3 hts (lw_g_in (fun w hw => by rcases List.mem_cons.mp hw with rfl | hw; exact g4; exact hw)) rfl rfl rfl (hts _ g3) (hts _ hw1) ⟨g2.1, g2.2, by decide +kernel⟩ ⟨by decide +kernel, by decide +kernel⟩, hts _ g5.1, hts _ g5.2⟩
      ⟨hpre.1, hrecv, hpre.2⟩ rfl rfl hl.1 rfl (lv_room (Nat.le_of_ble_eq_true rfl)) (show decode cL_holds 7 = .ok (.invokevirtual 39, 3) by decide +kernel) ⟨Nat.le_refl _, Nat.le_refl _⟩
    have hF := sm_freeA hD (fun q h => Or.inr h) hS M
    refine vx_calli (S := Unit) (SX := Unit) (a := ([.inr (.inr (9, 0, 0)), .inl p1, .inl p2, .inl p3].map (sm_t ad)).toArray) hrun hS (fun q _ h => hF q h) hF (fun q _ h => hF q h) (fun E ce q9 u t H1 locs1 ht hvm hpx hBX hz hk hS1 hce hcv hcl => ?_) (fun rv u t H1 locs1 ht hvm hw hB hz1 hk1 hS1 => ?_)
    · obtain ⟨⟨ex, hex1, rfl⟩, hP1⟩ := hBX
      rw [ht] at hP1
      obtain ⟨r0, rv, rM⟩ := r
      have hex1 : r0 = ex + 1 := hex1
      subst hex1
      have hR1 : R = (0, .inl (nI ([1, 0, 0].getD ex 0)), rM) := (Option.some.inj (show some ((0, .inl (nI ([1, 0, 0].getD ex 0)), rM) : sm_R) = some R by rw [← hR]; rfl)).symm
      have hre2 : ex = 0 := by
        rcases hre with h | h
        · exact absurd h (Nat.succ_ne_zero _)
        · exact Nat.succ.inj h
      rcases hre2 with rfl
      · refine sm_catch (ex := 0) hown hts hPT.1 hNc (by decide) [] (0, 12, 15, 13) [] htab (fun y hy => by cases hy) rfl ⟨by decide, by decide⟩ hce hcv hcl ?_
        refine lv_astore (lv' := _) (i := 5) hx hb (show decode cL_holds 15 = .ok (.astore 5, 2) by decide +kernel) hl (by decide) rfl (fun la hl => ?_)
        refine lv_iconst (v := 1) hx hb (show decode cL_holds 17 = .ok (.iconst 1, 1) by decide +kernel) (by decide) ?_
        exact W.iret hx hb hret (fun t ht hW => ⟨⟨1, (), rfl, by rw [hR1]; rfl, by show va_P _ _ _ t.heap; rw [ht, hR1]; exact hP1⟩, hS1.F ht⟩) hS1.2.2 (show decode cL_holds 18 = .ok (.ireturn, 1) by decide +kernel)
    · obtain ⟨hw1, hw2⟩ := hw
      have hP1 : va_P D vwCl (sm_W tc ad r.2.2) t.heap := hB
      rw [ht] at hP1
      obtain ⟨r0, rv0, rM⟩ := r
      have hw1 : r0 = 0 := hw1
      have hw2 : rv0 = .inl rv := hw2
      subst hw1; subst hw2
      have hR1 : R = (0, .inl 0, sm_w rM 30 0 1 0 rv.toInt64) := (Option.some.inj (show some ((0, .inl 0, sm_w rM 30 0 1 0 rv.toInt64) : sm_R) = some R by rw [← hR]; rfl)).symm
      have k2 := (sm_s1_ok X (i := (.i2l, [], [])) (len := 1) (pc := 10) (ls := [(0, .inr (.inr (9, 0, 0))), (1, .inl p1), (2, .inl p2), (3, .inl p3), (4, .inr (.inr (30, 0, 1)))]) (st := [.inl rv, .inl 0, .inr (.inr (30, 0, 1))]) (by decide +kernel) (by decide +kernel) rfl okl (sm_oks_c.mpr ⟨trivial, sm_oks_c.mpr ⟨trivial, sm_oks_c.mpr ⟨oo, on⟩⟩⟩)).2 (kst rM rv.toInt64 hR1)
      exact k2 H1 locs1 la hP1 hS1 hl
  have k_6 := (sm_s1_ok X (i := (.iload_n 3, [], [])) (len := 1) (pc := 6) (ls := [(0, .inr (.inr (9, 0, 0))), (1, .inl p1), (2, .inl p2), (3, .inl p3), (4, .inr (.inr (30, 0, 1)))]) (st := [.inl p2, .inl p1, .inr (.inr (9, 0, 0)), .inl 0, .inr (.inr (30, 0, 1))]) (by decide +kernel) (by decide +kernel) rfl okl (sm_oks_c.mpr ⟨trivial, (sm_oks_c.mpr ⟨trivial, (sm_oks_c.mpr ⟨ox, (sm_oks_c.mpr ⟨trivial, (sm_oks_c.mpr ⟨oo, on⟩)⟩)⟩)⟩)⟩)).2 kcall
  have k_5 := (sm_s1_ok X (i := (.iload_n 2, [], [])) (len := 1) (pc := 5) (ls := [(0, .inr (.inr (9, 0, 0))), (1, .inl p1), (2, .inl p2), (3, .inl p3), (4, .inr (.inr (30, 0, 1)))]) (st := [.inl p1, .inr (.inr (9, 0, 0)), .inl 0, .inr (.inr (30, 0, 1))]) (by decide +kernel) (by decide +kernel) rfl okl (sm_oks_c.mpr ⟨trivial, (sm_oks_c.mpr ⟨ox, (sm_oks_c.mpr ⟨trivial, (sm_oks_c.mpr ⟨oo, on⟩)⟩)⟩)⟩)).2 k_6
  have k_4 := (sm_s1_ok X (i := (.iload_n 1, [], [])) (len := 1) (pc := 4) (ls := [(0, .inr (.inr (9, 0, 0))), (1, .inl p1), (2, .inl p2), (3, .inl p3), (4, .inr (.inr (30, 0, 1)))]) (st := [.inr (.inr (9, 0, 0)), .inl 0, .inr (.inr (30, 0, 1))]) (by decide +kernel) (by decide +kernel) rfl okl (sm_oks_c.mpr ⟨ox, (sm_oks_c.mpr ⟨trivial, (sm_oks_c.mpr ⟨oo, on⟩)⟩)⟩)).2 k_5
  have k_3 := (sm_s1_ok X (i := (.aload_n 0, [], [])) (len := 1) (pc := 3) (ls := [(0, .inr (.inr (9, 0, 0))), (1, .inl p1), (2, .inl p2), (3, .inl p3), (4, .inr (.inr (30, 0, 1)))]) (st := [.inl 0, .inr (.inr (30, 0, 1))]) (by decide +kernel) (by decide +kernel) rfl okl (sm_oks_c.mpr ⟨trivial, (sm_oks_c.mpr ⟨oo, on⟩)⟩)).2 k_4
  have k_2 := (sm_s1_ok X (i := (.iconst 0, [.inl (0 : Int32)], [])) (len := 1) (pc := 2) (ls := [(0, .inr (.inr (9, 0, 0))), (1, .inl p1), (2, .inl p2), (3, .inl p3), (4, .inr (.inr (30, 0, 1)))]) (st := [.inr (.inr (30, 0, 1))]) (by decide +kernel) (by decide +kernel) rfl okl (sm_oks_c.mpr ⟨oo, on⟩)).2 k_3
  have k_0 := (sm_s1_ok X (i := (.aload 4, [], [])) (len := 2) (pc := 0) (ls := [(0, .inr (.inr (9, 0, 0))), (1, .inl p1), (2, .inl p2), (3, .inl p3), (4, .inr (.inr (30, 0, 1)))]) (st := []) (by decide +kernel) (by decide +kernel) rfl okl on).2 k_2
  exact k_0 s.heap [] _ hP va_S.rf hl
set_option maxHeartbeats 4000000 in
theorem wr_at {l : Launch} {D : va_G} {tc : Nat → ClassId} {ad : Nat × Nat × Nat → Nat} {M : sm_M} {r R : sm_R} (p1 : Int32) (p2 : Int32) (p3 : Int32) (hM : sm_MetX l D tc ad kTop_at [.inr (.inr (9, 0, 0)), .inl p1, .inl p2, .inl p3] M r) (hre : r.1 = 0 ∨ r.1 = 1) (hR : sm_wr1 (kTop_at, 0, [1, 0, 0]) (some (.inr (.inr (30, 0, 1)))) (some r) = some R) : sm_MetW l D tc ad kLaw_at [(0, 12, 15, 13)] [.inr (.inr (9, 0, 0)), .inl p1, .inl p2, .inl p3, .inr (.inr (30, 0, 1))] M R := by
  intro sz
  refine va_MetW (cc := cL_at) (maxL := 6) (ret := some .int) (by decide +kernel) rfl ?_
  intro p e s m args below meth c s₁ B hml hv
  obtain ⟨rfl, ⟨⟨hsz, hP, hK, hD0, hN⟩, hPT⟩, hNc⟩ := hv
  have hx := B.exec
  have hb := B.bytes
  have hret := B.returns
  have hts0 := atoms_spec (ws := Cond.codeWith (lt_y kLaw_at) (lt_b kLaw_at) (lt_n kLaw_at) (some .int) [(0, 12, 15, 13)] :: lw_g) B.pre
  have hown : s.vm.findClass RL = some m.cls := findClass_of_methodNamed B.named
  have hlocks := B.notSynchronized
  have htab := vx_table (x := yL_law) B (hts0 _ List.mem_cons_self)
  subst hsz
  have hD := sm_D_all (D := D) (sz := s.heap.size) hD0
  have hts : ∀ w ∈ lw_g, w.before ([.inr (.inr (9, 0, 0)), .inl p1, .inl p2, .inl p3, .inr (.inr (30, 0, 1))].map (sm_t ad)).toArray s = true := fun w hw => hts0 w (List.mem_cons_of_mem _ hw)
  have X : sm_Cx p s m ([.inr (.inr (9, 0, 0)), .inl p1, .inl p2, .inl p3, .inr (.inr (30, 0, 1))].map (sm_t ad)).toArray c cL_at 6 RL D tc ad (va_A (sm_W tc ad M) s.heap.size) s.heap (0, fun _ => 0) false := ⟨hx, hb, hml, hown, hts, hK, hD, hN, fun q h => Or.inr h, fun h => by cases h⟩
  have hl := lv_entry ([.inr (.inr (9, 0, 0)), .inl p1, .inl p2, .inl p3, .inr (.inr (30, 0, 1))].map (sm_t ad)) (n := 6) (by rw [lg_sl_len]; exact Nat.le_of_ble_eq_true rfl)
  rw [lg_entry_eq]
  rw [lv_args_ent] at hl
  have ox : sm_ok false (.inr (.inr (9, 0, 0))) := Or.inl (by decide +kernel)
  have oo : sm_ok false (.inr (.inr (30, 0, 1))) := Or.inl (by decide +kernel)
  have on : sm_oks false [] := fun v hv => by cases hv
  have okl : sm_okl false [(0, .inr (.inr (9, 0, 0))), (1, .inl p1), (2, .inl p2), (3, .inl p3), (4, .inr (.inr (30, 0, 1)))] := by
    intro q hq
    simp only [List.mem_cons, List.not_mem_nil, or_false] at hq
    rcases hq with rfl | rfl | rfl | rfl | rfl
    · exact ox
    · trivial
    · trivial
    · trivial
    · exact oo
  -- the end
  have kend : ∀ M1, R = (0, .inl 0, M1) → sm_SW D tc ad (va_A (sm_W tc ad M) s.heap.size) s.heap 6 (sm_KW p l e (headSpec (Cond.codeWith (lt_y kLaw_at) (lt_b kLaw_at) (lt_n kLaw_at) (some .int) [(0, 12, 15, 13)] :: lw_g) (sm_rmW kLaw_at)).room s m ([.inr (.inr (9, 0, 0)), .inl p1, .inl p2, .inl p3, .inr (.inr (30, 0, 1))].map (sm_t ad)).toArray below meth c 1 6 (MQ below (va_Qi (S := Unit) (fun x _ => R.2.1 = .inl x) (sm_T D tc ad R.2.2) (va_A (sm_W tc ad M) s.heap.size)) ([.inr (.inr (9, 0, 0)), .inl p1, .inl p2, .inl p3, .inr (.inr (30, 0, 1))].map (sm_t ad)).toArray s 1 6 (va_A (sm_W tc ad M) s.heap.size))) 19 [(0, .inr (.inr (9, 0, 0))), (1, .inl p1), (2, .inl p2), (3, .inl p3), (4, .inr (.inr (30, 0, 1)))] [] M1 := by
    intro M1 hR1
    subst hR1
    refine (sm_s1_ok X (i := (.iconst 0, [.inl (0 : Int32)], [])) (len := 1) (ls := [(0, .inr (.inr (9, 0, 0))), (1, .inl p1), (2, .inl p2), (3, .inl p3), (4, .inr (.inr (30, 0, 1)))]) (st := []) (by decide +kernel) (by decide +kernel) rfl okl on).2 ?_
    intro H locs la hP hS hl
    exact W.iret hx hb hret (fun t ht hW => ⟨⟨0, (), rfl, rfl, by show va_P _ _ _ t.heap; rw [ht]; exact hP⟩, hS.F ht⟩) hS.2.2 (by decide +kernel)
  have kst : ∀ (M1 : sm_M) (v : Int64), R = (0, .inl 0, sm_w M1 30 0 1 0 v) → sm_SW D tc ad (va_A (sm_W tc ad M) s.heap.size) s.heap 6 (sm_KW p l e (headSpec (Cond.codeWith (lt_y kLaw_at) (lt_b kLaw_at) (lt_n kLaw_at) (some .int) [(0, 12, 15, 13)] :: lw_g) (sm_rmW kLaw_at)).room s m ([.inr (.inr (9, 0, 0)), .inl p1, .inl p2, .inl p3, .inr (.inr (30, 0, 1))].map (sm_t ad)).toArray below meth c 1 6 (MQ below (va_Qi (S := Unit) (fun x _ => R.2.1 = .inl x) (sm_T D tc ad R.2.2) (va_A (sm_W tc ad M) s.heap.size)) ([.inr (.inr (9, 0, 0)), .inl p1, .inl p2, .inl p3, .inr (.inr (30, 0, 1))].map (sm_t ad)).toArray s 1 6 (va_A (sm_W tc ad M) s.heap.size))) 11 [(0, .inr (.inr (9, 0, 0))), (1, .inl p1), (2, .inl p2), (3, .inl p3), (4, .inr (.inr (30, 0, 1)))] [.inr (.inl v), .inl 0, .inr (.inr (30, 0, 1))] M1 := by
    intro M1 v hR1
    refine (sm_s1_ok X (i := (.lastore, [], [])) (len := 1) (ls := [(0, .inr (.inr (9, 0, 0))), (1, .inl p1), (2, .inl p2), (3, .inl p3), (4, .inr (.inr (30, 0, 1)))]) (st := [.inr (.inl v), .inl 0, .inr (.inr (30, 0, 1))]) (ls' := [(0, .inr (.inr (9, 0, 0))), (1, .inl p1), (2, .inl p2), (3, .inl p3), (4, .inr (.inr (30, 0, 1)))]) (st' := []) (M' := sm_w M1 30 0 1 0 v) (by decide +kernel) (by decide +kernel) rfl okl (sm_oks_c.mpr ⟨trivial, sm_oks_c.mpr ⟨trivial, sm_oks_c.mpr ⟨oo, on⟩⟩⟩)).2 ?_
    intro H locs la hP hS hl
    exact lv_goto (tgt := 19) hx hb (pc := 12) (off := 7) (by decide +kernel) (by decide) (kend _ hR1 H locs la hP hS hl)
  have kcall : sm_SW D tc ad (va_A (sm_W tc ad M) s.heap.size) s.heap 6 (sm_KW p l e (headSpec (Cond.codeWith (lt_y kLaw_at) (lt_b kLaw_at) (lt_n kLaw_at) (some .int) [(0, 12, 15, 13)] :: lw_g) (sm_rmW kLaw_at)).room s m ([.inr (.inr (9, 0, 0)), .inl p1, .inl p2, .inl p3, .inr (.inr (30, 0, 1))].map (sm_t ad)).toArray below meth c 0 0 (MQ below (va_Qi (S := Unit) (fun x _ => R.2.1 = .inl x) (sm_T D tc ad R.2.2) (va_A (sm_W tc ad M) s.heap.size)) ([.inr (.inr (9, 0, 0)), .inl p1, .inl p2, .inl p3, .inr (.inr (30, 0, 1))].map (sm_t ad)).toArray s 1 6 (va_A (sm_W tc ad M) s.heap.size))) 7 [(0, .inr (.inr (9, 0, 0))), (1, .inl p1), (2, .inl p2), (3, .inl p3), (4, .inr (.inr (30, 0, 1)))] [.inl p3, .inl p2, .inl p1, .inr (.inr (9, 0, 0)), .inl 0, .inr (.inr (30, 0, 1))] M := by
    intro H locs la hP hS hl
    obtain ⟨q0, hq0, hw0⟩ := sm_W_at (tc := tc) (ad := ad) M (r := (9, 0, 0)) (by decide +kernel)
    rw [sm_ce_o] at hw0
    have hrecv := va_recv hK hP (ci := 9) rfl hw0
    have hpre := sm_preX hK hD (fun q h => Or.inr h) hN hPT hS hP ([.inr (.inr (9, 0, 0)), .inl p1, .inl p2, .inl p3].map (sm_t ad))
    obtain ⟨g1, g2, g3, g4, g5⟩ := sm_mb_spec (sm_mb_all kTop_at (by decide))
    have g5 : Cond.instanceMethod (lt_y kTop_at) ∈ lw_g ∧ Cond.selects (lt_y kTop_at).cls (lt_y kTop_at) (lt_y kTop_at) ∈ lw_g := by
      rcases g5 with ⟨q, -⟩ | ⟨-, q1, q2, -⟩
      · exact absurd q (by decide +kernel)
      · exact ⟨q1, q2⟩
    have hw1 : Cond.methodLink RL 42 (lt_y kTop_at) ∈ lw_g := sm_wd_in (i := 910) (by decide +kernel)
    have hrun := vx_runV (p := p) (l := l) (e := e) (R := (headSpec (Cond.codeWith (lt_y kLaw_at) (lt_b kLaw_at) (lt_n kLaw_at) (some .int) [(0, 12, 15, 13)] :: lw_g) (sm_rmW kLaw_at)).room) (below := below) (meth := meth) (locs := locs) (cells := 0) (slots := 0) (As := ([.inl p1, .inl p2, .inl p3] : List sm_v).map (sm_t ad)) (rest := ([.inl 0, .inr (.inr (30, 0, 1))] : List sm_v).map (sm_t ad)) (b := ad (9, 0, 0)) (n := 3) (index := 42) (C := RX9) (g := F0 m 7 la (([.inl p3, .inl p2, .inl p1, .inr (.inr (9, 0, 0)), .inl 0, .inr (.inr (30, 0, 1))] : List sm_v).map (sm_t ad))) ⟨hx, hb, hml, hown, hts⟩ (hM H.size)
      ⟨callB_of 3 hts (lw_g_in (fun w hw => by rcases List.mem_cons.mp hw with rfl | hw; exact g4; exact hw)) rfl rfl rfl (hts _ g3) (hts _ hw1) ⟨g2.1, g2.2, by decide +kernel⟩ ⟨by decide +kernel, by decide +kernel⟩, hts _ g5.1, hts _ g5.2⟩
      ⟨hpre.1, hrecv, hpre.2⟩ rfl rfl hl.1 rfl (lv_room (Nat.le_of_ble_eq_true rfl)) (show decode cL_at 7 = .ok (.invokevirtual 42, 3) by decide +kernel) ⟨Nat.le_refl _, Nat.le_refl _⟩
    have hF := sm_freeA hD (fun q h => Or.inr h) hS M
    refine vx_calli (S := Unit) (SX := Unit) (a := ([.inr (.inr (9, 0, 0)), .inl p1, .inl p2, .inl p3].map (sm_t ad)).toArray) hrun hS (fun q _ h => hF q h) hF (fun q _ h => hF q h) (fun E ce q9 u t H1 locs1 ht hvm hpx hBX hz hk hS1 hce hcv hcl => ?_) (fun rv u t H1 locs1 ht hvm hw hB hz1 hk1 hS1 => ?_)
    · obtain ⟨⟨ex, hex1, rfl⟩, hP1⟩ := hBX
      rw [ht] at hP1
      obtain ⟨r0, rv, rM⟩ := r
      have hex1 : r0 = ex + 1 := hex1
      subst hex1
      have hR1 : R = (0, .inl (nI ([1, 0, 0].getD ex 0)), rM) := (Option.some.inj (show some ((0, .inl (nI ([1, 0, 0].getD ex 0)), rM) : sm_R) = some R by rw [← hR]; rfl)).symm
      have hre2 : ex = 0 := by
        rcases hre with h | h
        · exact absurd h (Nat.succ_ne_zero _)
        · exact Nat.succ.inj h
      rcases hre2 with rfl
      · refine sm_catch (ex := 0) hown hts hPT.1 hNc (by decide) [] (0, 12, 15, 13) [] htab (fun y hy => by cases hy) rfl ⟨by decide, by decide⟩ hce hcv hcl ?_
        refine lv_astore (lv' := _) (i := 5) hx hb (show decode cL_at 15 = .ok (.astore 5, 2) by decide +kernel) hl (by decide) rfl (fun la hl => ?_)
        refine lv_iconst (v := 1) hx hb (show decode cL_at 17 = .ok (.iconst 1, 1) by decide +kernel) (by decide) ?_
        exact W.iret hx hb hret (fun t ht hW => ⟨⟨1, (), rfl, by rw [hR1]; rfl, by show va_P _ _ _ t.heap; rw [ht, hR1]; exact hP1⟩, hS1.F ht⟩) hS1.2.2 (show decode cL_at 18 = .ok (.ireturn, 1) by decide +kernel)
    · obtain ⟨hw1, hw2⟩ := hw
      have hP1 : va_P D vwCl (sm_W tc ad r.2.2) t.heap := hB
      rw [ht] at hP1
      obtain ⟨r0, rv0, rM⟩ := r
      have hw1 : r0 = 0 := hw1
      have hw2 : rv0 = .inl rv := hw2
      subst hw1; subst hw2
      have hR1 : R = (0, .inl 0, sm_w rM 30 0 1 0 rv.toInt64) := (Option.some.inj (show some ((0, .inl 0, sm_w rM 30 0 1 0 rv.toInt64) : sm_R) = some R by rw [← hR]; rfl)).symm
      have k2 := (sm_s1_ok X (i := (.i2l, [], [])) (len := 1) (pc := 10) (ls := [(0, .inr (.inr (9, 0, 0))), (1, .inl p1), (2, .inl p2), (3, .inl p3), (4, .inr (.inr (30, 0, 1)))]) (st := [.inl rv, .inl 0, .inr (.inr (30, 0, 1))]) (by decide +kernel) (by decide +kernel) rfl okl (sm_oks_c.mpr ⟨trivial, sm_oks_c.mpr ⟨trivial, sm_oks_c.mpr ⟨oo, on⟩⟩⟩)).2 (kst rM rv.toInt64 hR1)
      exact k2 H1 locs1 la hP1 hS1 hl
  have k_6 := (sm_s1_ok X (i := (.iload_n 3, [], [])) (len := 1) (pc := 6) (ls := [(0, .inr (.inr (9, 0, 0))), (1, .inl p1), (2, .inl p2), (3, .inl p3), (4, .inr (.inr (30, 0, 1)))]) (st := [.inl p2, .inl p1, .inr (.inr (9, 0, 0)), .inl 0, .inr (.inr (30, 0, 1))]) (by decide +kernel) (by decide +kernel) rfl okl (sm_oks_c.mpr ⟨trivial, (sm_oks_c.mpr ⟨trivial, (sm_oks_c.mpr ⟨ox, (sm_oks_c.mpr ⟨trivial, (sm_oks_c.mpr ⟨oo, on⟩)⟩)⟩)⟩)⟩)).2 kcall
  have k_5 := (sm_s1_ok X (i := (.iload_n 2, [], [])) (len := 1) (pc := 5) (ls := [(0, .inr (.inr (9, 0, 0))), (1, .inl p1), (2, .inl p2), (3, .inl p3), (4, .inr (.inr (30, 0, 1)))]) (st := [.inl p1, .inr (.inr (9, 0, 0)), .inl 0, .inr (.inr (30, 0, 1))]) (by decide +kernel) (by decide +kernel) rfl okl (sm_oks_c.mpr ⟨trivial, (sm_oks_c.mpr ⟨ox, (sm_oks_c.mpr ⟨trivial, (sm_oks_c.mpr ⟨oo, on⟩)⟩)⟩)⟩)).2 k_6
  have k_4 := (sm_s1_ok X (i := (.iload_n 1, [], [])) (len := 1) (pc := 4) (ls := [(0, .inr (.inr (9, 0, 0))), (1, .inl p1), (2, .inl p2), (3, .inl p3), (4, .inr (.inr (30, 0, 1)))]) (st := [.inr (.inr (9, 0, 0)), .inl 0, .inr (.inr (30, 0, 1))]) (by decide +kernel) (by decide +kernel) rfl okl (sm_oks_c.mpr ⟨ox, (sm_oks_c.mpr ⟨trivial, (sm_oks_c.mpr ⟨oo, on⟩)⟩)⟩)).2 k_5
  have k_3 := (sm_s1_ok X (i := (.aload_n 0, [], [])) (len := 1) (pc := 3) (ls := [(0, .inr (.inr (9, 0, 0))), (1, .inl p1), (2, .inl p2), (3, .inl p3), (4, .inr (.inr (30, 0, 1)))]) (st := [.inl 0, .inr (.inr (30, 0, 1))]) (by decide +kernel) (by decide +kernel) rfl okl (sm_oks_c.mpr ⟨trivial, (sm_oks_c.mpr ⟨oo, on⟩)⟩)).2 k_4
  have k_2 := (sm_s1_ok X (i := (.iconst 0, [.inl (0 : Int32)], [])) (len := 1) (pc := 2) (ls := [(0, .inr (.inr (9, 0, 0))), (1, .inl p1), (2, .inl p2), (3, .inl p3), (4, .inr (.inr (30, 0, 1)))]) (st := [.inr (.inr (30, 0, 1))]) (by decide +kernel) (by decide +kernel) rfl okl (sm_oks_c.mpr ⟨oo, on⟩)).2 k_3
  have k_0 := (sm_s1_ok X (i := (.aload 4, [], [])) (len := 2) (pc := 0) (ls := [(0, .inr (.inr (9, 0, 0))), (1, .inl p1), (2, .inl p2), (3, .inl p3), (4, .inr (.inr (30, 0, 1)))]) (st := []) (by decide +kernel) (by decide +kernel) rfl okl on).2 k_2
  exact k_0 s.heap [] _ hP va_S.rf hl
set_option maxHeartbeats 4000000 in
theorem wr_lives {l : Launch} {D : va_G} {tc : Nat → ClassId} {ad : Nat × Nat × Nat → Nat} {M : sm_M} {r R : sm_R} (p1 : Int32) (p2 : Int32) (hM : sm_MetX l D tc ad kTop_lives [.inr (.inr (9, 0, 0)), .inl p1, .inl p2] M r) (hre : r.1 = 0 ∨ r.1 = 1) (hR : sm_wr1 (kTop_lives, 0, [1, 0, 0]) (some (.inr (.inr (30, 0, 1)))) (some r) = some R) : sm_MetW l D tc ad kLaw_lives [(0, 10, 13, 13)] [.inr (.inr (9, 0, 0)), .inl p1, .inl p2, .inr (.inr (30, 0, 1))] M R := by
  intro sz
  refine va_MetW (cc := cL_lives) (maxL := 5) (ret := some .int) (by decide +kernel) rfl ?_
  intro p e s m args below meth c s₁ B hml hv
  obtain ⟨rfl, ⟨⟨hsz, hP, hK, hD0, hN⟩, hPT⟩, hNc⟩ := hv
  have hx := B.exec
  have hb := B.bytes
  have hret := B.returns
  have hts0 := atoms_spec (ws := Cond.codeWith (lt_y kLaw_lives) (lt_b kLaw_lives) (lt_n kLaw_lives) (some .int) [(0, 10, 13, 13)] :: lw_g) B.pre
  have hown : s.vm.findClass RL = some m.cls := findClass_of_methodNamed B.named
  have hlocks := B.notSynchronized
  have htab := vx_table (x := yL_law) B (hts0 _ List.mem_cons_self)
  subst hsz
  have hD := sm_D_all (D := D) (sz := s.heap.size) hD0
  have hts : ∀ w ∈ lw_g, w.before ([.inr (.inr (9, 0, 0)), .inl p1, .inl p2, .inr (.inr (30, 0, 1))].map (sm_t ad)).toArray s = true := fun w hw => hts0 w (List.mem_cons_of_mem _ hw)
  have X : sm_Cx p s m ([.inr (.inr (9, 0, 0)), .inl p1, .inl p2, .inr (.inr (30, 0, 1))].map (sm_t ad)).toArray c cL_lives 5 RL D tc ad (va_A (sm_W tc ad M) s.heap.size) s.heap (0, fun _ => 0) false := ⟨hx, hb, hml, hown, hts, hK, hD, hN, fun q h => Or.inr h, fun h => by cases h⟩
  have hl := lv_entry ([.inr (.inr (9, 0, 0)), .inl p1, .inl p2, .inr (.inr (30, 0, 1))].map (sm_t ad)) (n := 5) (by rw [lg_sl_len]; exact Nat.le_of_ble_eq_true rfl)
  rw [lg_entry_eq]
  rw [lv_args_ent] at hl
  have ox : sm_ok false (.inr (.inr (9, 0, 0))) := Or.inl (by decide +kernel)
  have oo : sm_ok false (.inr (.inr (30, 0, 1))) := Or.inl (by decide +kernel)
  have on : sm_oks false [] := fun v hv => by cases hv
  have okl : sm_okl false [(0, .inr (.inr (9, 0, 0))), (1, .inl p1), (2, .inl p2), (3, .inr (.inr (30, 0, 1)))] := by
    intro q hq
    simp only [List.mem_cons, List.not_mem_nil, or_false] at hq
    rcases hq with rfl | rfl | rfl | rfl
    · exact ox
    · trivial
    · trivial
    · exact oo
  -- the end
  have kend : ∀ M1, R = (0, .inl 0, M1) → sm_SW D tc ad (va_A (sm_W tc ad M) s.heap.size) s.heap 5 (sm_KW p l e (headSpec (Cond.codeWith (lt_y kLaw_lives) (lt_b kLaw_lives) (lt_n kLaw_lives) (some .int) [(0, 10, 13, 13)] :: lw_g) (sm_rmW kLaw_lives)).room s m ([.inr (.inr (9, 0, 0)), .inl p1, .inl p2, .inr (.inr (30, 0, 1))].map (sm_t ad)).toArray below meth c 1 6 (MQ below (va_Qi (S := Unit) (fun x _ => R.2.1 = .inl x) (sm_T D tc ad R.2.2) (va_A (sm_W tc ad M) s.heap.size)) ([.inr (.inr (9, 0, 0)), .inl p1, .inl p2, .inr (.inr (30, 0, 1))].map (sm_t ad)).toArray s 1 6 (va_A (sm_W tc ad M) s.heap.size))) 17 [(0, .inr (.inr (9, 0, 0))), (1, .inl p1), (2, .inl p2), (3, .inr (.inr (30, 0, 1)))] [] M1 := by
    intro M1 hR1
    subst hR1
    refine (sm_s1_ok X (i := (.iconst 0, [.inl (0 : Int32)], [])) (len := 1) (ls := [(0, .inr (.inr (9, 0, 0))), (1, .inl p1), (2, .inl p2), (3, .inr (.inr (30, 0, 1)))]) (st := []) (by decide +kernel) (by decide +kernel) rfl okl on).2 ?_
    intro H locs la hP hS hl
    exact W.iret hx hb hret (fun t ht hW => ⟨⟨0, (), rfl, rfl, by show va_P _ _ _ t.heap; rw [ht]; exact hP⟩, hS.F ht⟩) hS.2.2 (by decide +kernel)
  have kst : ∀ (M1 : sm_M) (v : Int64), R = (0, .inl 0, sm_w M1 30 0 1 0 v) → sm_SW D tc ad (va_A (sm_W tc ad M) s.heap.size) s.heap 5 (sm_KW p l e (headSpec (Cond.codeWith (lt_y kLaw_lives) (lt_b kLaw_lives) (lt_n kLaw_lives) (some .int) [(0, 10, 13, 13)] :: lw_g) (sm_rmW kLaw_lives)).room s m ([.inr (.inr (9, 0, 0)), .inl p1, .inl p2, .inr (.inr (30, 0, 1))].map (sm_t ad)).toArray below meth c 1 6 (MQ below (va_Qi (S := Unit) (fun x _ => R.2.1 = .inl x) (sm_T D tc ad R.2.2) (va_A (sm_W tc ad M) s.heap.size)) ([.inr (.inr (9, 0, 0)), .inl p1, .inl p2, .inr (.inr (30, 0, 1))].map (sm_t ad)).toArray s 1 6 (va_A (sm_W tc ad M) s.heap.size))) 9 [(0, .inr (.inr (9, 0, 0))), (1, .inl p1), (2, .inl p2), (3, .inr (.inr (30, 0, 1)))] [.inr (.inl v), .inl 0, .inr (.inr (30, 0, 1))] M1 := by
    intro M1 v hR1
    refine (sm_s1_ok X (i := (.lastore, [], [])) (len := 1) (ls := [(0, .inr (.inr (9, 0, 0))), (1, .inl p1), (2, .inl p2), (3, .inr (.inr (30, 0, 1)))]) (st := [.inr (.inl v), .inl 0, .inr (.inr (30, 0, 1))]) (ls' := [(0, .inr (.inr (9, 0, 0))), (1, .inl p1), (2, .inl p2), (3, .inr (.inr (30, 0, 1)))]) (st' := []) (M' := sm_w M1 30 0 1 0 v) (by decide +kernel) (by decide +kernel) rfl okl (sm_oks_c.mpr ⟨trivial, sm_oks_c.mpr ⟨trivial, sm_oks_c.mpr ⟨oo, on⟩⟩⟩)).2 ?_
    intro H locs la hP hS hl
    exact lv_goto (tgt := 17) hx hb (pc := 10) (off := 7) (by decide +kernel) (by decide) (kend _ hR1 H locs la hP hS hl)
  have kcall : sm_SW D tc ad (va_A (sm_W tc ad M) s.heap.size) s.heap 5 (sm_KW p l e (headSpec (Cond.codeWith (lt_y kLaw_lives) (lt_b kLaw_lives) (lt_n kLaw_lives) (some .int) [(0, 10, 13, 13)] :: lw_g) (sm_rmW kLaw_lives)).room s m ([.inr (.inr (9, 0, 0)), .inl p1, .inl p2, .inr (.inr (30, 0, 1))].map (sm_t ad)).toArray below meth c 0 0 (MQ below (va_Qi (S := Unit) (fun x _ => R.2.1 = .inl x) (sm_T D tc ad R.2.2) (va_A (sm_W tc ad M) s.heap.size)) ([.inr (.inr (9, 0, 0)), .inl p1, .inl p2, .inr (.inr (30, 0, 1))].map (sm_t ad)).toArray s 1 6 (va_A (sm_W tc ad M) s.heap.size))) 5 [(0, .inr (.inr (9, 0, 0))), (1, .inl p1), (2, .inl p2), (3, .inr (.inr (30, 0, 1)))] [.inl p2, .inl p1, .inr (.inr (9, 0, 0)), .inl 0, .inr (.inr (30, 0, 1))] M := by
    intro H locs la hP hS hl
    obtain ⟨q0, hq0, hw0⟩ := sm_W_at (tc := tc) (ad := ad) M (r := (9, 0, 0)) (by decide +kernel)
    rw [sm_ce_o] at hw0
    have hrecv := va_recv hK hP (ci := 9) rfl hw0
    have hpre := sm_preX hK hD (fun q h => Or.inr h) hN hPT hS hP ([.inr (.inr (9, 0, 0)), .inl p1, .inl p2].map (sm_t ad))
    obtain ⟨g1, g2, g3, g4, g5⟩ := sm_mb_spec (sm_mb_all kTop_lives (by decide))
    have g5 : Cond.instanceMethod (lt_y kTop_lives) ∈ lw_g ∧ Cond.selects (lt_y kTop_lives).cls (lt_y kTop_lives) (lt_y kTop_lives) ∈ lw_g := by
      rcases g5 with ⟨q, -⟩ | ⟨-, q1, q2, -⟩
      · exact absurd q (by decide +kernel)
      · exact ⟨q1, q2⟩
    have hw1 : Cond.methodLink RL 45 (lt_y kTop_lives) ∈ lw_g := sm_wd_in (i := 923) (by decide +kernel)
    have hrun := vx_runV (p := p) (l := l) (e := e) (R := (headSpec (Cond.codeWith (lt_y kLaw_lives) (lt_b kLaw_lives) (lt_n kLaw_lives) (some .int) [(0, 10, 13, 13)] :: lw_g) (sm_rmW kLaw_lives)).room) (below := below) (meth := meth) (locs := locs) (cells := 0) (slots := 0) (As := ([.inl p1, .inl p2] : List sm_v).map (sm_t ad)) (rest := ([.inl 0, .inr (.inr (30, 0, 1))] : List sm_v).map (sm_t ad)) (b := ad (9, 0, 0)) (n := 2) (index := 45) (C := RX9) (g := F0 m 5 la (([.inl p2, .inl p1, .inr (.inr (9, 0, 0)), .inl 0, .inr (.inr (30, 0, 1))] : List sm_v).map (sm_t ad))) ⟨hx, hb, hml, hown, hts⟩ (hM H.size)
      ⟨callB_of 2 hts (lw_g_in (fun w hw => by rcases List.mem_cons.mp hw with rfl | hw; exact g4; exact hw)) rfl rfl rfl (hts _ g3) (hts _ hw1) ⟨g2.1, g2.2, by decide +kernel⟩ ⟨by decide +kernel, by decide +kernel⟩, hts _ g5.1, hts _ g5.2⟩
      ⟨hpre.1, hrecv, hpre.2⟩ rfl rfl hl.1 rfl (lv_room (Nat.le_of_ble_eq_true rfl)) (show decode cL_lives 5 = .ok (.invokevirtual 45, 3) by decide +kernel) ⟨Nat.le_refl _, Nat.le_refl _⟩
    have hF := sm_freeA hD (fun q h => Or.inr h) hS M
    refine vx_calli (S := Unit) (SX := Unit) (a := ([.inr (.inr (9, 0, 0)), .inl p1, .inl p2].map (sm_t ad)).toArray) hrun hS (fun q _ h => hF q h) hF (fun q _ h => hF q h) (fun E ce q9 u t H1 locs1 ht hvm hpx hBX hz hk hS1 hce hcv hcl => ?_) (fun rv u t H1 locs1 ht hvm hw hB hz1 hk1 hS1 => ?_)
    · obtain ⟨⟨ex, hex1, rfl⟩, hP1⟩ := hBX
      rw [ht] at hP1
      obtain ⟨r0, rv, rM⟩ := r
      have hex1 : r0 = ex + 1 := hex1
      subst hex1
      have hR1 : R = (0, .inl (nI ([1, 0, 0].getD ex 0)), rM) := (Option.some.inj (show some ((0, .inl (nI ([1, 0, 0].getD ex 0)), rM) : sm_R) = some R by rw [← hR]; rfl)).symm
      have hre2 : ex = 0 := by
        rcases hre with h | h
        · exact absurd h (Nat.succ_ne_zero _)
        · exact Nat.succ.inj h
      rcases hre2 with rfl
      · refine sm_catch (ex := 0) hown hts hPT.1 hNc (by decide) [] (0, 10, 13, 13) [] htab (fun y hy => by cases hy) rfl ⟨by decide, by decide⟩ hce hcv hcl ?_
        refine lv_astore (lv' := _) (i := 4) hx hb (show decode cL_lives 13 = .ok (.astore 4, 2) by decide +kernel) hl (by decide) rfl (fun la hl => ?_)
        refine lv_iconst (v := 1) hx hb (show decode cL_lives 15 = .ok (.iconst 1, 1) by decide +kernel) (by decide) ?_
        exact W.iret hx hb hret (fun t ht hW => ⟨⟨1, (), rfl, by rw [hR1]; rfl, by show va_P _ _ _ t.heap; rw [ht, hR1]; exact hP1⟩, hS1.F ht⟩) hS1.2.2 (show decode cL_lives 16 = .ok (.ireturn, 1) by decide +kernel)
    · obtain ⟨hw1, hw2⟩ := hw
      have hP1 : va_P D vwCl (sm_W tc ad r.2.2) t.heap := hB
      rw [ht] at hP1
      obtain ⟨r0, rv0, rM⟩ := r
      have hw1 : r0 = 0 := hw1
      have hw2 : rv0 = .inl rv := hw2
      subst hw1; subst hw2
      have hR1 : R = (0, .inl 0, sm_w rM 30 0 1 0 rv.toInt64) := (Option.some.inj (show some ((0, .inl 0, sm_w rM 30 0 1 0 rv.toInt64) : sm_R) = some R by rw [← hR]; rfl)).symm
      have k2 := (sm_s1_ok X (i := (.i2l, [], [])) (len := 1) (pc := 8) (ls := [(0, .inr (.inr (9, 0, 0))), (1, .inl p1), (2, .inl p2), (3, .inr (.inr (30, 0, 1)))]) (st := [.inl rv, .inl 0, .inr (.inr (30, 0, 1))]) (by decide +kernel) (by decide +kernel) rfl okl (sm_oks_c.mpr ⟨trivial, sm_oks_c.mpr ⟨trivial, sm_oks_c.mpr ⟨oo, on⟩⟩⟩)).2 (kst rM rv.toInt64 hR1)
      exact k2 H1 locs1 la hP1 hS1 hl
  have k_4 := (sm_s1_ok X (i := (.iload_n 2, [], [])) (len := 1) (pc := 4) (ls := [(0, .inr (.inr (9, 0, 0))), (1, .inl p1), (2, .inl p2), (3, .inr (.inr (30, 0, 1)))]) (st := [.inl p1, .inr (.inr (9, 0, 0)), .inl 0, .inr (.inr (30, 0, 1))]) (by decide +kernel) (by decide +kernel) rfl okl (sm_oks_c.mpr ⟨trivial, (sm_oks_c.mpr ⟨ox, (sm_oks_c.mpr ⟨trivial, (sm_oks_c.mpr ⟨oo, on⟩)⟩)⟩)⟩)).2 kcall
  have k_3 := (sm_s1_ok X (i := (.iload_n 1, [], [])) (len := 1) (pc := 3) (ls := [(0, .inr (.inr (9, 0, 0))), (1, .inl p1), (2, .inl p2), (3, .inr (.inr (30, 0, 1)))]) (st := [.inr (.inr (9, 0, 0)), .inl 0, .inr (.inr (30, 0, 1))]) (by decide +kernel) (by decide +kernel) rfl okl (sm_oks_c.mpr ⟨ox, (sm_oks_c.mpr ⟨trivial, (sm_oks_c.mpr ⟨oo, on⟩)⟩)⟩)).2 k_4
  have k_2 := (sm_s1_ok X (i := (.aload_n 0, [], [])) (len := 1) (pc := 2) (ls := [(0, .inr (.inr (9, 0, 0))), (1, .inl p1), (2, .inl p2), (3, .inr (.inr (30, 0, 1)))]) (st := [.inl 0, .inr (.inr (30, 0, 1))]) (by decide +kernel) (by decide +kernel) rfl okl (sm_oks_c.mpr ⟨trivial, (sm_oks_c.mpr ⟨oo, on⟩)⟩)).2 k_3
  have k_1 := (sm_s1_ok X (i := (.iconst 0, [.inl (0 : Int32)], [])) (len := 1) (pc := 1) (ls := [(0, .inr (.inr (9, 0, 0))), (1, .inl p1), (2, .inl p2), (3, .inr (.inr (30, 0, 1)))]) (st := [.inr (.inr (30, 0, 1))]) (by decide +kernel) (by decide +kernel) rfl okl (sm_oks_c.mpr ⟨oo, on⟩)).2 k_2
  have k_0 := (sm_s1_ok X (i := (.aload_n 3, [], [])) (len := 1) (pc := 0) (ls := [(0, .inr (.inr (9, 0, 0))), (1, .inl p1), (2, .inl p2), (3, .inr (.inr (30, 0, 1)))]) (st := []) (by decide +kernel) (by decide +kernel) rfl okl on).2 k_1
  exact k_0 s.heap [] _ hP va_S.rf hl
set_option maxHeartbeats 4000000 in
theorem wr_stuck {l : Launch} {D : va_G} {tc : Nat → ClassId} {ad : Nat × Nat × Nat → Nat} {M : sm_M} {r R : sm_R}  (hM : sm_MetX l D tc ad kTop_stuck [.inr (.inr (9, 0, 0))] M r) (hre : r.1 = 0 ∨ r.1 = 3) (hR : sm_wr1 (kTop_stuck, 0, [0, 0, 1]) (some (.inr (.inr (30, 0, 1)))) (some r) = some R) : sm_MetW l D tc ad kLaw_stuck [(0, 8, 11, 17)] [.inr (.inr (9, 0, 0)), .inr (.inr (30, 0, 1))] M R := by
  intro sz
  refine va_MetW (cc := cL_stuck) (maxL := 3) (ret := some .int) (by decide +kernel) rfl ?_
  intro p e s m args below meth c s₁ B hml hv
  obtain ⟨rfl, ⟨⟨hsz, hP, hK, hD0, hN⟩, hPT⟩, hNc⟩ := hv
  have hx := B.exec
  have hb := B.bytes
  have hret := B.returns
  have hts0 := atoms_spec (ws := Cond.codeWith (lt_y kLaw_stuck) (lt_b kLaw_stuck) (lt_n kLaw_stuck) (some .int) [(0, 8, 11, 17)] :: lw_g) B.pre
  have hown : s.vm.findClass RL = some m.cls := findClass_of_methodNamed B.named
  have hlocks := B.notSynchronized
  have htab := vx_table (x := yL_law) B (hts0 _ List.mem_cons_self)
  subst hsz
  have hD := sm_D_all (D := D) (sz := s.heap.size) hD0
  have hts : ∀ w ∈ lw_g, w.before ([.inr (.inr (9, 0, 0)), .inr (.inr (30, 0, 1))].map (sm_t ad)).toArray s = true := fun w hw => hts0 w (List.mem_cons_of_mem _ hw)
  have X : sm_Cx p s m ([.inr (.inr (9, 0, 0)), .inr (.inr (30, 0, 1))].map (sm_t ad)).toArray c cL_stuck 3 RL D tc ad (va_A (sm_W tc ad M) s.heap.size) s.heap (0, fun _ => 0) false := ⟨hx, hb, hml, hown, hts, hK, hD, hN, fun q h => Or.inr h, fun h => by cases h⟩
  have hl := lv_entry ([.inr (.inr (9, 0, 0)), .inr (.inr (30, 0, 1))].map (sm_t ad)) (n := 3) (by rw [lg_sl_len]; exact Nat.le_of_ble_eq_true rfl)
  rw [lg_entry_eq]
  rw [lv_args_ent] at hl
  have ox : sm_ok false (.inr (.inr (9, 0, 0))) := Or.inl (by decide +kernel)
  have oo : sm_ok false (.inr (.inr (30, 0, 1))) := Or.inl (by decide +kernel)
  have on : sm_oks false [] := fun v hv => by cases hv
  have okl : sm_okl false [(0, .inr (.inr (9, 0, 0))), (1, .inr (.inr (30, 0, 1)))] := by
    intro q hq
    simp only [List.mem_cons, List.not_mem_nil, or_false] at hq
    rcases hq with rfl | rfl
    · exact ox
    · exact oo
  -- the end
  have kend : ∀ M1, R = (0, .inl 0, M1) → sm_SW D tc ad (va_A (sm_W tc ad M) s.heap.size) s.heap 3 (sm_KW p l e (headSpec (Cond.codeWith (lt_y kLaw_stuck) (lt_b kLaw_stuck) (lt_n kLaw_stuck) (some .int) [(0, 8, 11, 17)] :: lw_g) (sm_rmW kLaw_stuck)).room s m ([.inr (.inr (9, 0, 0)), .inr (.inr (30, 0, 1))].map (sm_t ad)).toArray below meth c 1 6 (MQ below (va_Qi (S := Unit) (fun x _ => R.2.1 = .inl x) (sm_T D tc ad R.2.2) (va_A (sm_W tc ad M) s.heap.size)) ([.inr (.inr (9, 0, 0)), .inr (.inr (30, 0, 1))].map (sm_t ad)).toArray s 1 6 (va_A (sm_W tc ad M) s.heap.size))) 14 [(0, .inr (.inr (9, 0, 0))), (1, .inr (.inr (30, 0, 1)))] [] M1 := by
    intro M1 hR1
    subst hR1
    refine (sm_s1_ok X (i := (.iconst 0, [.inl (0 : Int32)], [])) (len := 1) (ls := [(0, .inr (.inr (9, 0, 0))), (1, .inr (.inr (30, 0, 1)))]) (st := []) (by decide +kernel) (by decide +kernel) rfl okl on).2 ?_
    intro H locs la hP hS hl
    exact W.iret hx hb hret (fun t ht hW => ⟨⟨0, (), rfl, rfl, by show va_P _ _ _ t.heap; rw [ht]; exact hP⟩, hS.F ht⟩) hS.2.2 (by decide +kernel)
  have kst : ∀ (M1 : sm_M) (v : Int64), R = (0, .inl 0, sm_w M1 30 0 1 0 v) → sm_SW D tc ad (va_A (sm_W tc ad M) s.heap.size) s.heap 3 (sm_KW p l e (headSpec (Cond.codeWith (lt_y kLaw_stuck) (lt_b kLaw_stuck) (lt_n kLaw_stuck) (some .int) [(0, 8, 11, 17)] :: lw_g) (sm_rmW kLaw_stuck)).room s m ([.inr (.inr (9, 0, 0)), .inr (.inr (30, 0, 1))].map (sm_t ad)).toArray below meth c 1 6 (MQ below (va_Qi (S := Unit) (fun x _ => R.2.1 = .inl x) (sm_T D tc ad R.2.2) (va_A (sm_W tc ad M) s.heap.size)) ([.inr (.inr (9, 0, 0)), .inr (.inr (30, 0, 1))].map (sm_t ad)).toArray s 1 6 (va_A (sm_W tc ad M) s.heap.size))) 7 [(0, .inr (.inr (9, 0, 0))), (1, .inr (.inr (30, 0, 1)))] [.inr (.inl v), .inl 0, .inr (.inr (30, 0, 1))] M1 := by
    intro M1 v hR1
    refine (sm_s1_ok X (i := (.lastore, [], [])) (len := 1) (ls := [(0, .inr (.inr (9, 0, 0))), (1, .inr (.inr (30, 0, 1)))]) (st := [.inr (.inl v), .inl 0, .inr (.inr (30, 0, 1))]) (ls' := [(0, .inr (.inr (9, 0, 0))), (1, .inr (.inr (30, 0, 1)))]) (st' := []) (M' := sm_w M1 30 0 1 0 v) (by decide +kernel) (by decide +kernel) rfl okl (sm_oks_c.mpr ⟨trivial, sm_oks_c.mpr ⟨trivial, sm_oks_c.mpr ⟨oo, on⟩⟩⟩)).2 ?_
    intro H locs la hP hS hl
    exact lv_goto (tgt := 14) hx hb (pc := 8) (off := 6) (by decide +kernel) (by decide) (kend _ hR1 H locs la hP hS hl)
  have kcall : sm_SW D tc ad (va_A (sm_W tc ad M) s.heap.size) s.heap 3 (sm_KW p l e (headSpec (Cond.codeWith (lt_y kLaw_stuck) (lt_b kLaw_stuck) (lt_n kLaw_stuck) (some .int) [(0, 8, 11, 17)] :: lw_g) (sm_rmW kLaw_stuck)).room s m ([.inr (.inr (9, 0, 0)), .inr (.inr (30, 0, 1))].map (sm_t ad)).toArray below meth c 0 0 (MQ below (va_Qi (S := Unit) (fun x _ => R.2.1 = .inl x) (sm_T D tc ad R.2.2) (va_A (sm_W tc ad M) s.heap.size)) ([.inr (.inr (9, 0, 0)), .inr (.inr (30, 0, 1))].map (sm_t ad)).toArray s 1 6 (va_A (sm_W tc ad M) s.heap.size))) 3 [(0, .inr (.inr (9, 0, 0))), (1, .inr (.inr (30, 0, 1)))] [.inr (.inr (9, 0, 0)), .inl 0, .inr (.inr (30, 0, 1))] M := by
    intro H locs la hP hS hl
    obtain ⟨q0, hq0, hw0⟩ := sm_W_at (tc := tc) (ad := ad) M (r := (9, 0, 0)) (by decide +kernel)
    rw [sm_ce_o] at hw0
    have hrecv := va_recv hK hP (ci := 9) rfl hw0
    have hpre := sm_preX hK hD (fun q h => Or.inr h) hN hPT hS hP ([.inr (.inr (9, 0, 0))].map (sm_t ad))
    obtain ⟨g1, g2, g3, g4, g5⟩ := sm_mb_spec (sm_mb_all kTop_stuck (by decide))
    have g5 : Cond.instanceMethod (lt_y kTop_stuck) ∈ lw_g ∧ Cond.selects (lt_y kTop_stuck).cls (lt_y kTop_stuck) (lt_y kTop_stuck) ∈ lw_g := by
      rcases g5 with ⟨q, -⟩ | ⟨-, q1, q2, -⟩
      · exact absurd q (by decide +kernel)
      · exact ⟨q1, q2⟩
    have hw1 : Cond.methodLink RL 49 (lt_y kTop_stuck) ∈ lw_g := sm_wd_in (i := 932) (by decide +kernel)
    have hrun := vx_runV (p := p) (l := l) (e := e) (R := (headSpec (Cond.codeWith (lt_y kLaw_stuck) (lt_b kLaw_stuck) (lt_n kLaw_stuck) (some .int) [(0, 8, 11, 17)] :: lw_g) (sm_rmW kLaw_stuck)).room) (below := below) (meth := meth) (locs := locs) (cells := 0) (slots := 0) (As := ([] : List sm_v).map (sm_t ad)) (rest := ([.inl 0, .inr (.inr (30, 0, 1))] : List sm_v).map (sm_t ad)) (b := ad (9, 0, 0)) (n := 0) (index := 49) (C := RX9) (g := F0 m 3 la (([.inr (.inr (9, 0, 0)), .inl 0, .inr (.inr (30, 0, 1))] : List sm_v).map (sm_t ad))) ⟨hx, hb, hml, hown, hts⟩ (hM H.size)
      ⟨callB_of 0 hts (lw_g_in (fun w hw => by rcases List.mem_cons.mp hw with rfl | hw; exact g4; exact hw)) rfl rfl rfl (hts _ g3) (hts _ hw1) ⟨g2.1, g2.2, by decide +kernel⟩ ⟨by decide +kernel, by decide +kernel⟩, hts _ g5.1, hts _ g5.2⟩
      ⟨hpre.1, hrecv, hpre.2⟩ rfl rfl hl.1 rfl (lv_room (Nat.le_of_ble_eq_true rfl)) (show decode cL_stuck 3 = .ok (.invokevirtual 49, 3) by decide +kernel) ⟨Nat.le_refl _, Nat.le_refl _⟩
    have hF := sm_freeA hD (fun q h => Or.inr h) hS M
    refine vx_calli (S := Unit) (SX := Unit) (a := ([.inr (.inr (9, 0, 0))].map (sm_t ad)).toArray) hrun hS (fun q _ h => hF q h) hF (fun q _ h => hF q h) (fun E ce q9 u t H1 locs1 ht hvm hpx hBX hz hk hS1 hce hcv hcl => ?_) (fun rv u t H1 locs1 ht hvm hw hB hz1 hk1 hS1 => ?_)
    · obtain ⟨⟨ex, hex1, rfl⟩, hP1⟩ := hBX
      rw [ht] at hP1
      obtain ⟨r0, rv, rM⟩ := r
      have hex1 : r0 = ex + 1 := hex1
      subst hex1
      have hR1 : R = (0, .inl (nI ([0, 0, 1].getD ex 0)), rM) := (Option.some.inj (show some ((0, .inl (nI ([0, 0, 1].getD ex 0)), rM) : sm_R) = some R by rw [← hR]; rfl)).symm
      have hre2 : ex = 2 := by
        rcases hre with h | h
        · exact absurd h (Nat.succ_ne_zero _)
        · exact Nat.succ.inj h
      rcases hre2 with rfl
      · refine sm_catch (ex := 2) hown hts hPT.1 hNc (by decide) [] (0, 8, 11, 17) [] htab (fun y hy => by cases hy) rfl ⟨by decide, by decide⟩ hce hcv hcl ?_
        refine lv_astore_n (lv' := _) (i := 2) hx hb (show decode cL_stuck 11 = .ok (.astore_n 2, 1) by decide +kernel) rfl hl (by decide) rfl (fun la hl => ?_)
        refine lv_iconst (v := 1) hx hb (show decode cL_stuck 12 = .ok (.iconst 1, 1) by decide +kernel) (by decide) ?_
        exact W.iret hx hb hret (fun t ht hW => ⟨⟨1, (), rfl, by rw [hR1]; rfl, by show va_P _ _ _ t.heap; rw [ht, hR1]; exact hP1⟩, hS1.F ht⟩) hS1.2.2 (show decode cL_stuck 13 = .ok (.ireturn, 1) by decide +kernel)
    · obtain ⟨hw1, hw2⟩ := hw
      have hP1 : va_P D vwCl (sm_W tc ad r.2.2) t.heap := hB
      rw [ht] at hP1
      obtain ⟨r0, rv0, rM⟩ := r
      have hw1 : r0 = 0 := hw1
      have hw2 : rv0 = .inl rv := hw2
      subst hw1; subst hw2
      have hR1 : R = (0, .inl 0, sm_w rM 30 0 1 0 rv.toInt64) := (Option.some.inj (show some ((0, .inl 0, sm_w rM 30 0 1 0 rv.toInt64) : sm_R) = some R by rw [← hR]; rfl)).symm
      have k2 := (sm_s1_ok X (i := (.i2l, [], [])) (len := 1) (pc := 6) (ls := [(0, .inr (.inr (9, 0, 0))), (1, .inr (.inr (30, 0, 1)))]) (st := [.inl rv, .inl 0, .inr (.inr (30, 0, 1))]) (by decide +kernel) (by decide +kernel) rfl okl (sm_oks_c.mpr ⟨trivial, sm_oks_c.mpr ⟨trivial, sm_oks_c.mpr ⟨oo, on⟩⟩⟩)).2 (kst rM rv.toInt64 hR1)
      exact k2 H1 locs1 la hP1 hS1 hl
  have k_2 := (sm_s1_ok X (i := (.aload_n 0, [], [])) (len := 1) (pc := 2) (ls := [(0, .inr (.inr (9, 0, 0))), (1, .inr (.inr (30, 0, 1)))]) (st := [.inl 0, .inr (.inr (30, 0, 1))]) (by decide +kernel) (by decide +kernel) rfl okl (sm_oks_c.mpr ⟨trivial, (sm_oks_c.mpr ⟨oo, on⟩)⟩)).2 kcall
  have k_1 := (sm_s1_ok X (i := (.iconst 0, [.inl (0 : Int32)], [])) (len := 1) (pc := 1) (ls := [(0, .inr (.inr (9, 0, 0))), (1, .inr (.inr (30, 0, 1)))]) (st := [.inr (.inr (30, 0, 1))]) (by decide +kernel) (by decide +kernel) rfl okl (sm_oks_c.mpr ⟨oo, on⟩)).2 k_2
  have k_0 := (sm_s1_ok X (i := (.aload_n 1, [], [])) (len := 1) (pc := 0) (ls := [(0, .inr (.inr (9, 0, 0))), (1, .inr (.inr (30, 0, 1)))]) (st := []) (by decide +kernel) (by decide +kernel) rfl okl on).2 k_1
  exact k_0 s.heap [] _ hP va_S.rf hl
set_option maxHeartbeats 4000000 in
theorem wr_go {l : Launch} {D : va_G} {tc : Nat → ClassId} {ad : Nat × Nat × Nat → Nat} {M : sm_M} {r R : sm_R} (p1 : Int32) (p2 : Int32) (hM : sm_MetX l D tc ad kTop_go [.inr (.inr (9, 0, 0)), .inl p1, .inl p2] M r) (hre : r.1 = 0 ∨ r.1 = 1 ∨ r.1 = 3) (hR : sm_wr1 (kTop_go, 1, [1, 0, 2]) (some (.inr (.inr (30, 0, 1)))) (some r) = some R) : sm_MetW l D tc ad kLaw_go [(0, 17, 20, 13), (0, 17, 24, 17)] [.inr (.inr (9, 0, 0)), .inl p1, .inl p2, .inr (.inr (30, 0, 1))] M R := by
  intro sz
  refine va_MetW (cc := cL_go) (maxL := 5) (ret := some .int) (by decide +kernel) rfl ?_
  intro p e s m args below meth c s₁ B hml hv
  obtain ⟨rfl, ⟨⟨hsz, hP, hK, hD0, hN⟩, hPT⟩, hNc⟩ := hv
  have hx := B.exec
  have hb := B.bytes
  have hret := B.returns
  have hts0 := atoms_spec (ws := Cond.codeWith (lt_y kLaw_go) (lt_b kLaw_go) (lt_n kLaw_go) (some .int) [(0, 17, 20, 13), (0, 17, 24, 17)] :: lw_g) B.pre
  have hown : s.vm.findClass RL = some m.cls := findClass_of_methodNamed B.named
  have hlocks := B.notSynchronized
  have htab := vx_table (x := yL_law) B (hts0 _ List.mem_cons_self)
  subst hsz
  have hD := sm_D_all (D := D) (sz := s.heap.size) hD0
  have hts : ∀ w ∈ lw_g, w.before ([.inr (.inr (9, 0, 0)), .inl p1, .inl p2, .inr (.inr (30, 0, 1))].map (sm_t ad)).toArray s = true := fun w hw => hts0 w (List.mem_cons_of_mem _ hw)
  have X : sm_Cx p s m ([.inr (.inr (9, 0, 0)), .inl p1, .inl p2, .inr (.inr (30, 0, 1))].map (sm_t ad)).toArray c cL_go 5 RL D tc ad (va_A (sm_W tc ad M) s.heap.size) s.heap (0, fun _ => 0) false := ⟨hx, hb, hml, hown, hts, hK, hD, hN, fun q h => Or.inr h, fun h => by cases h⟩
  have hl := lv_entry ([.inr (.inr (9, 0, 0)), .inl p1, .inl p2, .inr (.inr (30, 0, 1))].map (sm_t ad)) (n := 5) (by rw [lg_sl_len]; exact Nat.le_of_ble_eq_true rfl)
  rw [lg_entry_eq]
  rw [lv_args_ent] at hl
  have ox : sm_ok false (.inr (.inr (9, 0, 0))) := Or.inl (by decide +kernel)
  have oo : sm_ok false (.inr (.inr (30, 0, 1))) := Or.inl (by decide +kernel)
  have on : sm_oks false [] := fun v hv => by cases hv
  have okl : sm_okl false [(0, .inr (.inr (9, 0, 0))), (1, .inl p1), (2, .inl p2), (3, .inr (.inr (30, 0, 1)))] := by
    intro q hq
    simp only [List.mem_cons, List.not_mem_nil, or_false] at hq
    rcases hq with rfl | rfl | rfl | rfl
    · exact ox
    · trivial
    · trivial
    · exact oo
  -- the end
  have kend : ∀ M1, R = (0, .inl 0, M1) → sm_SW D tc ad (va_A (sm_W tc ad M) s.heap.size) s.heap 5 (sm_KW p l e (headSpec (Cond.codeWith (lt_y kLaw_go) (lt_b kLaw_go) (lt_n kLaw_go) (some .int) [(0, 17, 20, 13), (0, 17, 24, 17)] :: lw_g) (sm_rmW kLaw_go)).room s m ([.inr (.inr (9, 0, 0)), .inl p1, .inl p2, .inr (.inr (30, 0, 1))].map (sm_t ad)).toArray below meth c 1 6 (MQ below (va_Qi (S := Unit) (fun x _ => R.2.1 = .inl x) (sm_T D tc ad R.2.2) (va_A (sm_W tc ad M) s.heap.size)) ([.inr (.inr (9, 0, 0)), .inl p1, .inl p2, .inr (.inr (30, 0, 1))].map (sm_t ad)).toArray s 1 6 (va_A (sm_W tc ad M) s.heap.size))) 28 [(0, .inr (.inr (9, 0, 0))), (1, .inl p1), (2, .inl p2), (3, .inr (.inr (30, 0, 1)))] [] M1 := by
    intro M1 hR1
    subst hR1
    refine (sm_s1_ok X (i := (.iconst 0, [.inl (0 : Int32)], [])) (len := 1) (ls := [(0, .inr (.inr (9, 0, 0))), (1, .inl p1), (2, .inl p2), (3, .inr (.inr (30, 0, 1)))]) (st := []) (by decide +kernel) (by decide +kernel) rfl okl on).2 ?_
    intro H locs la hP hS hl
    exact W.iret hx hb hret (fun t ht hW => ⟨⟨0, (), rfl, rfl, by show va_P _ _ _ t.heap; rw [ht]; exact hP⟩, hS.F ht⟩) hS.2.2 (by decide +kernel)
  have kst : ∀ (M1 : sm_M) (v : Int64), R = (0, .inl 0, sm_w M1 30 0 1 0 v) → sm_SW D tc ad (va_A (sm_W tc ad M) s.heap.size) s.heap 5 (sm_KW p l e (headSpec (Cond.codeWith (lt_y kLaw_go) (lt_b kLaw_go) (lt_n kLaw_go) (some .int) [(0, 17, 20, 13), (0, 17, 24, 17)] :: lw_g) (sm_rmW kLaw_go)).room s m ([.inr (.inr (9, 0, 0)), .inl p1, .inl p2, .inr (.inr (30, 0, 1))].map (sm_t ad)).toArray below meth c 1 6 (MQ below (va_Qi (S := Unit) (fun x _ => R.2.1 = .inl x) (sm_T D tc ad R.2.2) (va_A (sm_W tc ad M) s.heap.size)) ([.inr (.inr (9, 0, 0)), .inl p1, .inl p2, .inr (.inr (30, 0, 1))].map (sm_t ad)).toArray s 1 6 (va_A (sm_W tc ad M) s.heap.size))) 16 [(0, .inr (.inr (9, 0, 0))), (1, .inl p1), (2, .inl p2), (3, .inr (.inr (30, 0, 1)))] [.inr (.inl v), .inl 0, .inr (.inr (30, 0, 1))] M1 := by
    intro M1 v hR1
    refine (sm_s1_ok X (i := (.lastore, [], [])) (len := 1) (ls := [(0, .inr (.inr (9, 0, 0))), (1, .inl p1), (2, .inl p2), (3, .inr (.inr (30, 0, 1)))]) (st := [.inr (.inl v), .inl 0, .inr (.inr (30, 0, 1))]) (ls' := [(0, .inr (.inr (9, 0, 0))), (1, .inl p1), (2, .inl p2), (3, .inr (.inr (30, 0, 1)))]) (st' := []) (M' := sm_w M1 30 0 1 0 v) (by decide +kernel) (by decide +kernel) rfl okl (sm_oks_c.mpr ⟨trivial, sm_oks_c.mpr ⟨trivial, sm_oks_c.mpr ⟨oo, on⟩⟩⟩)).2 ?_
    intro H locs la hP hS hl
    exact lv_goto (tgt := 28) hx hb (pc := 17) (off := 11) (by decide +kernel) (by decide) (kend _ hR1 H locs la hP hS hl)
  have kcall : sm_SW D tc ad (va_A (sm_W tc ad M) s.heap.size) s.heap 5 (sm_KW p l e (headSpec (Cond.codeWith (lt_y kLaw_go) (lt_b kLaw_go) (lt_n kLaw_go) (some .int) [(0, 17, 20, 13), (0, 17, 24, 17)] :: lw_g) (sm_rmW kLaw_go)).room s m ([.inr (.inr (9, 0, 0)), .inl p1, .inl p2, .inr (.inr (30, 0, 1))].map (sm_t ad)).toArray below meth c 0 0 (MQ below (va_Qi (S := Unit) (fun x _ => R.2.1 = .inl x) (sm_T D tc ad R.2.2) (va_A (sm_W tc ad M) s.heap.size)) ([.inr (.inr (9, 0, 0)), .inl p1, .inl p2, .inr (.inr (30, 0, 1))].map (sm_t ad)).toArray s 1 6 (va_A (sm_W tc ad M) s.heap.size))) 5 [(0, .inr (.inr (9, 0, 0))), (1, .inl p1), (2, .inl p2), (3, .inr (.inr (30, 0, 1)))] [.inl p2, .inl p1, .inr (.inr (9, 0, 0)), .inl 0, .inr (.inr (30, 0, 1))] M := by
    intro H locs la hP hS hl
    obtain ⟨q0, hq0, hw0⟩ := sm_W_at (tc := tc) (ad := ad) M (r := (9, 0, 0)) (by decide +kernel)
    rw [sm_ce_o] at hw0
    have hrecv := va_recv hK hP (ci := 9) rfl hw0
    have hpre := sm_preX hK hD (fun q h => Or.inr h) hN hPT hS hP ([.inr (.inr (9, 0, 0)), .inl p1, .inl p2].map (sm_t ad))
    obtain ⟨g1, g2, g3, g4, g5⟩ := sm_mb_spec (sm_mb_all kTop_go (by decide))
    have g5 : Cond.instanceMethod (lt_y kTop_go) ∈ lw_g ∧ Cond.selects (lt_y kTop_go).cls (lt_y kTop_go) (lt_y kTop_go) ∈ lw_g := by
      rcases g5 with ⟨q, -⟩ | ⟨-, q1, q2, -⟩
      · exact absurd q (by decide +kernel)
      · exact ⟨q1, q2⟩
    have hw1 : Cond.methodLink RL 53 (lt_y kTop_go) ∈ lw_g := sm_wd_in (i := 1009) (by decide +kernel)
    have hrun := vx_runV (p := p) (l := l) (e := e) (R := (headSpec (Cond.codeWith (lt_y kLaw_go) (lt_b kLaw_go) (lt_n kLaw_go) (some .int) [(0, 17, 20, 13), (0, 17, 24, 17)] :: lw_g) (sm_rmW kLaw_go)).room) (below := below) (meth := meth) (locs := locs) (cells := 0) (slots := 0) (As := ([.inl p1, .inl p2] : List sm_v).map (sm_t ad)) (rest := ([.inl 0, .inr (.inr (30, 0, 1))] : List sm_v).map (sm_t ad)) (b := ad (9, 0, 0)) (n := 2) (index := 53) (C := RX9) (g := F0 m 5 la (([.inl p2, .inl p1, .inr (.inr (9, 0, 0)), .inl 0, .inr (.inr (30, 0, 1))] : List sm_v).map (sm_t ad))) ⟨hx, hb, hml, hown, hts⟩ (hM H.size)
      ⟨callB_of 2 hts (lw_g_in (fun w hw => by rcases List.mem_cons.mp hw with rfl | hw; exact g4; exact hw)) rfl rfl rfl (hts _ g3) (hts _ hw1) ⟨g2.1, g2.2, by decide +kernel⟩ ⟨by decide +kernel, by decide +kernel⟩, hts _ g5.1, hts _ g5.2⟩
      ⟨hpre.1, hrecv, hpre.2⟩ rfl rfl hl.1 rfl (lv_room (Nat.le_of_ble_eq_true rfl)) (show decode cL_go 5 = .ok (.invokevirtual 53, 3) by decide +kernel) ⟨Nat.le_refl _, Nat.le_refl _⟩
    have hF := sm_freeA hD (fun q h => Or.inr h) hS M
    refine vx_calli (S := Unit) (SX := Unit) (a := ([.inr (.inr (9, 0, 0)), .inl p1, .inl p2].map (sm_t ad)).toArray) hrun hS (fun q _ h => hF q h) hF (fun q _ h => hF q h) (fun E ce q9 u t H1 locs1 ht hvm hpx hBX hz hk hS1 hce hcv hcl => ?_) (fun rv u t H1 locs1 ht hvm hw hB hz1 hk1 hS1 => ?_)
    · obtain ⟨⟨ex, hex1, rfl⟩, hP1⟩ := hBX
      rw [ht] at hP1
      obtain ⟨r0, rv, rM⟩ := r
      have hex1 : r0 = ex + 1 := hex1
      subst hex1
      have hR1 : R = (0, .inl (nI ([1, 0, 2].getD ex 0)), rM) := (Option.some.inj (show some ((0, .inl (nI ([1, 0, 2].getD ex 0)), rM) : sm_R) = some R by rw [← hR]; rfl)).symm
      have hre2 : ex = 0 ∨ ex = 2 := by
        rcases hre with h | h | h
        · exact absurd h (Nat.succ_ne_zero _)
        · exact Or.inl (Nat.succ.inj h)
        · exact Or.inr ((Nat.succ.inj h))
      rcases hre2 with rfl | rfl
      · refine sm_catch (ex := 0) hown hts hPT.1 hNc (by decide) [] (0, 17, 20, 13) [(0, 17, 24, 17)] htab (fun y hy => by cases hy) rfl ⟨by decide, by decide⟩ hce hcv hcl ?_
        refine lv_astore (lv' := _) (i := 4) hx hb (show decode cL_go 20 = .ok (.astore 4, 2) by decide +kernel) hl (by decide) rfl (fun la hl => ?_)
        refine lv_iconst (v := 1) hx hb (show decode cL_go 22 = .ok (.iconst 1, 1) by decide +kernel) (by decide) ?_
        exact W.iret hx hb hret (fun t ht hW => ⟨⟨1, (), rfl, by rw [hR1]; rfl, by show va_P _ _ _ t.heap; rw [ht, hR1]; exact hP1⟩, hS1.F ht⟩) hS1.2.2 (show decode cL_go 23 = .ok (.ireturn, 1) by decide +kernel)
      · refine sm_catch (ex := 2) hown hts hPT.1 hNc (by decide) [(0, 17, 20, 13)] (0, 17, 24, 17) [] htab (fun y hy => by simp only [List.mem_cons, List.not_mem_nil, or_false] at hy; rcases hy with rfl; exact ⟨0, by decide, by decide, rfl⟩) rfl ⟨by decide, by decide⟩ hce hcv hcl ?_
        refine lv_astore (lv' := _) (i := 4) hx hb (show decode cL_go 24 = .ok (.astore 4, 2) by decide +kernel) hl (by decide) rfl (fun la hl => ?_)
        refine lv_iconst (v := 2) hx hb (show decode cL_go 26 = .ok (.iconst 2, 1) by decide +kernel) (by decide) ?_
        exact W.iret hx hb hret (fun t ht hW => ⟨⟨2, (), rfl, by rw [hR1]; rfl, by show va_P _ _ _ t.heap; rw [ht, hR1]; exact hP1⟩, hS1.F ht⟩) hS1.2.2 (show decode cL_go 27 = .ok (.ireturn, 1) by decide +kernel)
    · obtain ⟨hw1, hw2⟩ := hw
      have hP1 : va_P D vwCl (sm_W tc ad r.2.2) t.heap := hB
      rw [ht] at hP1
      obtain ⟨r0, rv0, rM⟩ := r
      have hw1 : r0 = 0 := hw1
      have hw2 : rv0 = .inl rv := hw2
      subst hw1; subst hw2
      have hR1 : R = (0, .inl 0, sm_w rM 30 0 1 0 (if rv = 0 then 0 else 1)) := (Option.some.inj (show some ((0, .inl 0, sm_w rM 30 0 1 0 (if rv = 0 then 0 else 1)) : sm_R) = some R by rw [← hR]; rfl)).symm
      refine lv_if_eq (tgt := 15) hx hb (show decode cL_go 8 = .ok (.ifCond .eq 7, 3) by decide +kernel) (by decide) (fun q => ?_) (fun q => ?_)
      · rw [if_pos q] at hR1
        have k2 := (sm_s1_ok X (i := (.lconst 0, [.inr (.inl 0)], [])) (len := 1) (pc := 15) (ls := [(0, .inr (.inr (9, 0, 0))), (1, .inl p1), (2, .inl p2), (3, .inr (.inr (30, 0, 1)))]) (st := [.inl 0, .inr (.inr (30, 0, 1))]) (by decide +kernel) (by decide +kernel) rfl okl (sm_oks_c.mpr ⟨trivial, sm_oks_c.mpr ⟨oo, on⟩⟩)).2 (kst rM 0 hR1)
        exact k2 H1 locs1 la hP1 hS1 hl
      · rw [if_neg q] at hR1
        have k3 : sm_SW D tc ad (va_A (sm_W tc ad M) s.heap.size) s.heap 5 (sm_KW p l e (headSpec (Cond.codeWith (lt_y kLaw_go) (lt_b kLaw_go) (lt_n kLaw_go) (some .int) [(0, 17, 20, 13), (0, 17, 24, 17)] :: lw_g) (sm_rmW kLaw_go)).room s m ([.inr (.inr (9, 0, 0)), .inl p1, .inl p2, .inr (.inr (30, 0, 1))].map (sm_t ad)).toArray below meth c 1 6 (MQ below (va_Qi (S := Unit) (fun x _ => R.2.1 = .inl x) (sm_T D tc ad R.2.2) (va_A (sm_W tc ad M) s.heap.size)) ([.inr (.inr (9, 0, 0)), .inl p1, .inl p2, .inr (.inr (30, 0, 1))].map (sm_t ad)).toArray s 1 6 (va_A (sm_W tc ad M) s.heap.size))) 12 [(0, .inr (.inr (9, 0, 0))), (1, .inl p1), (2, .inl p2), (3, .inr (.inr (30, 0, 1)))] [.inr (.inl 1), .inl 0, .inr (.inr (30, 0, 1))] rM := fun H locs la hP hS hl => lv_goto (tgt := 16) hx hb (show decode cL_go 12 = .ok (.goto 4, 3) by decide +kernel) (by decide) (kst rM 1 hR1 H locs la hP hS hl)
        have k2 := (sm_s1_ok X (i := (.lconst 1, [.inr (.inl 1)], [])) (len := 1) (pc := 11) (ls := [(0, .inr (.inr (9, 0, 0))), (1, .inl p1), (2, .inl p2), (3, .inr (.inr (30, 0, 1)))]) (st := [.inl 0, .inr (.inr (30, 0, 1))]) (by decide +kernel) (by decide +kernel) rfl okl (sm_oks_c.mpr ⟨trivial, sm_oks_c.mpr ⟨oo, on⟩⟩)).2 k3
        exact k2 H1 locs1 la hP1 hS1 hl
  have k_4 := (sm_s1_ok X (i := (.iload_n 2, [], [])) (len := 1) (pc := 4) (ls := [(0, .inr (.inr (9, 0, 0))), (1, .inl p1), (2, .inl p2), (3, .inr (.inr (30, 0, 1)))]) (st := [.inl p1, .inr (.inr (9, 0, 0)), .inl 0, .inr (.inr (30, 0, 1))]) (by decide +kernel) (by decide +kernel) rfl okl (sm_oks_c.mpr ⟨trivial, (sm_oks_c.mpr ⟨ox, (sm_oks_c.mpr ⟨trivial, (sm_oks_c.mpr ⟨oo, on⟩)⟩)⟩)⟩)).2 kcall
  have k_3 := (sm_s1_ok X (i := (.iload_n 1, [], [])) (len := 1) (pc := 3) (ls := [(0, .inr (.inr (9, 0, 0))), (1, .inl p1), (2, .inl p2), (3, .inr (.inr (30, 0, 1)))]) (st := [.inr (.inr (9, 0, 0)), .inl 0, .inr (.inr (30, 0, 1))]) (by decide +kernel) (by decide +kernel) rfl okl (sm_oks_c.mpr ⟨ox, (sm_oks_c.mpr ⟨trivial, (sm_oks_c.mpr ⟨oo, on⟩)⟩)⟩)).2 k_4
  have k_2 := (sm_s1_ok X (i := (.aload_n 0, [], [])) (len := 1) (pc := 2) (ls := [(0, .inr (.inr (9, 0, 0))), (1, .inl p1), (2, .inl p2), (3, .inr (.inr (30, 0, 1)))]) (st := [.inl 0, .inr (.inr (30, 0, 1))]) (by decide +kernel) (by decide +kernel) rfl okl (sm_oks_c.mpr ⟨trivial, (sm_oks_c.mpr ⟨oo, on⟩)⟩)).2 k_3
  have k_1 := (sm_s1_ok X (i := (.iconst 0, [.inl (0 : Int32)], [])) (len := 1) (pc := 1) (ls := [(0, .inr (.inr (9, 0, 0))), (1, .inl p1), (2, .inl p2), (3, .inr (.inr (30, 0, 1)))]) (st := [.inr (.inr (30, 0, 1))]) (by decide +kernel) (by decide +kernel) rfl okl (sm_oks_c.mpr ⟨oo, on⟩)).2 k_2
  have k_0 := (sm_s1_ok X (i := (.aload_n 3, [], [])) (len := 1) (pc := 0) (ls := [(0, .inr (.inr (9, 0, 0))), (1, .inl p1), (2, .inl p2), (3, .inr (.inr (30, 0, 1)))]) (st := []) (by decide +kernel) (by decide +kernel) rfl okl on).2 k_1
  exact k_0 s.heap [] _ hP va_S.rf hl
set_option maxHeartbeats 4000000 in
theorem wr_run {l : Launch} {D : va_G} {tc : Nat → ClassId} {ad : Nat × Nat × Nat → Nat} {M : sm_M} {r R : sm_R} (p1 : Int32) (p2 : Int32) (hM : sm_MetX l D tc ad kTop_run [.inr (.inr (9, 0, 0)), .inl p1, .inl p2] M r) (hre : r.1 = 0 ∨ r.1 = 2 ∨ r.1 = 3) (hR : sm_wr1 (kTop_run, 0, [0, 1, 2]) (some (.inr (.inr (30, 0, 1)))) (some r) = some R) : sm_MetW l D tc ad kLaw_run [(0, 10, 13, 15), (0, 10, 17, 17)] [.inr (.inr (9, 0, 0)), .inl p1, .inl p2, .inr (.inr (30, 0, 1))] M R := by
  intro sz
  refine va_MetW (cc := cL_run) (maxL := 5) (ret := some .int) (by decide +kernel) rfl ?_
  intro p e s m args below meth c s₁ B hml hv
  obtain ⟨rfl, ⟨⟨hsz, hP, hK, hD0, hN⟩, hPT⟩, hNc⟩ := hv
  have hx := B.exec
  have hb := B.bytes
  have hret := B.returns
  have hts0 := atoms_spec (ws := Cond.codeWith (lt_y kLaw_run) (lt_b kLaw_run) (lt_n kLaw_run) (some .int) [(0, 10, 13, 15), (0, 10, 17, 17)] :: lw_g) B.pre
  have hown : s.vm.findClass RL = some m.cls := findClass_of_methodNamed B.named
  have hlocks := B.notSynchronized
  have htab := vx_table (x := yL_law) B (hts0 _ List.mem_cons_self)
  subst hsz
  have hD := sm_D_all (D := D) (sz := s.heap.size) hD0
  have hts : ∀ w ∈ lw_g, w.before ([.inr (.inr (9, 0, 0)), .inl p1, .inl p2, .inr (.inr (30, 0, 1))].map (sm_t ad)).toArray s = true := fun w hw => hts0 w (List.mem_cons_of_mem _ hw)
  have X : sm_Cx p s m ([.inr (.inr (9, 0, 0)), .inl p1, .inl p2, .inr (.inr (30, 0, 1))].map (sm_t ad)).toArray c cL_run 5 RL D tc ad (va_A (sm_W tc ad M) s.heap.size) s.heap (0, fun _ => 0) false := ⟨hx, hb, hml, hown, hts, hK, hD, hN, fun q h => Or.inr h, fun h => by cases h⟩
  have hl := lv_entry ([.inr (.inr (9, 0, 0)), .inl p1, .inl p2, .inr (.inr (30, 0, 1))].map (sm_t ad)) (n := 5) (by rw [lg_sl_len]; exact Nat.le_of_ble_eq_true rfl)
  rw [lg_entry_eq]
  rw [lv_args_ent] at hl
  have ox : sm_ok false (.inr (.inr (9, 0, 0))) := Or.inl (by decide +kernel)
  have oo : sm_ok false (.inr (.inr (30, 0, 1))) := Or.inl (by decide +kernel)
  have on : sm_oks false [] := fun v hv => by cases hv
  have okl : sm_okl false [(0, .inr (.inr (9, 0, 0))), (1, .inl p1), (2, .inl p2), (3, .inr (.inr (30, 0, 1)))] := by
    intro q hq
    simp only [List.mem_cons, List.not_mem_nil, or_false] at hq
    rcases hq with rfl | rfl | rfl | rfl
    · exact ox
    · trivial
    · trivial
    · exact oo
  -- the end
  have kend : ∀ M1, R = (0, .inl 0, M1) → sm_SW D tc ad (va_A (sm_W tc ad M) s.heap.size) s.heap 5 (sm_KW p l e (headSpec (Cond.codeWith (lt_y kLaw_run) (lt_b kLaw_run) (lt_n kLaw_run) (some .int) [(0, 10, 13, 15), (0, 10, 17, 17)] :: lw_g) (sm_rmW kLaw_run)).room s m ([.inr (.inr (9, 0, 0)), .inl p1, .inl p2, .inr (.inr (30, 0, 1))].map (sm_t ad)).toArray below meth c 1 6 (MQ below (va_Qi (S := Unit) (fun x _ => R.2.1 = .inl x) (sm_T D tc ad R.2.2) (va_A (sm_W tc ad M) s.heap.size)) ([.inr (.inr (9, 0, 0)), .inl p1, .inl p2, .inr (.inr (30, 0, 1))].map (sm_t ad)).toArray s 1 6 (va_A (sm_W tc ad M) s.heap.size))) 21 [(0, .inr (.inr (9, 0, 0))), (1, .inl p1), (2, .inl p2), (3, .inr (.inr (30, 0, 1)))] [] M1 := by
    intro M1 hR1
    subst hR1
    refine (sm_s1_ok X (i := (.iconst 0, [.inl (0 : Int32)], [])) (len := 1) (ls := [(0, .inr (.inr (9, 0, 0))), (1, .inl p1), (2, .inl p2), (3, .inr (.inr (30, 0, 1)))]) (st := []) (by decide +kernel) (by decide +kernel) rfl okl on).2 ?_
    intro H locs la hP hS hl
    exact W.iret hx hb hret (fun t ht hW => ⟨⟨0, (), rfl, rfl, by show va_P _ _ _ t.heap; rw [ht]; exact hP⟩, hS.F ht⟩) hS.2.2 (by decide +kernel)
  have kst : ∀ (M1 : sm_M) (v : Int64), R = (0, .inl 0, sm_w M1 30 0 1 0 v) → sm_SW D tc ad (va_A (sm_W tc ad M) s.heap.size) s.heap 5 (sm_KW p l e (headSpec (Cond.codeWith (lt_y kLaw_run) (lt_b kLaw_run) (lt_n kLaw_run) (some .int) [(0, 10, 13, 15), (0, 10, 17, 17)] :: lw_g) (sm_rmW kLaw_run)).room s m ([.inr (.inr (9, 0, 0)), .inl p1, .inl p2, .inr (.inr (30, 0, 1))].map (sm_t ad)).toArray below meth c 1 6 (MQ below (va_Qi (S := Unit) (fun x _ => R.2.1 = .inl x) (sm_T D tc ad R.2.2) (va_A (sm_W tc ad M) s.heap.size)) ([.inr (.inr (9, 0, 0)), .inl p1, .inl p2, .inr (.inr (30, 0, 1))].map (sm_t ad)).toArray s 1 6 (va_A (sm_W tc ad M) s.heap.size))) 9 [(0, .inr (.inr (9, 0, 0))), (1, .inl p1), (2, .inl p2), (3, .inr (.inr (30, 0, 1)))] [.inr (.inl v), .inl 0, .inr (.inr (30, 0, 1))] M1 := by
    intro M1 v hR1
    refine (sm_s1_ok X (i := (.lastore, [], [])) (len := 1) (ls := [(0, .inr (.inr (9, 0, 0))), (1, .inl p1), (2, .inl p2), (3, .inr (.inr (30, 0, 1)))]) (st := [.inr (.inl v), .inl 0, .inr (.inr (30, 0, 1))]) (ls' := [(0, .inr (.inr (9, 0, 0))), (1, .inl p1), (2, .inl p2), (3, .inr (.inr (30, 0, 1)))]) (st' := []) (M' := sm_w M1 30 0 1 0 v) (by decide +kernel) (by decide +kernel) rfl okl (sm_oks_c.mpr ⟨trivial, sm_oks_c.mpr ⟨trivial, sm_oks_c.mpr ⟨oo, on⟩⟩⟩)).2 ?_
    intro H locs la hP hS hl
    exact lv_goto (tgt := 21) hx hb (pc := 10) (off := 11) (by decide +kernel) (by decide) (kend _ hR1 H locs la hP hS hl)
  have kcall : sm_SW D tc ad (va_A (sm_W tc ad M) s.heap.size) s.heap 5 (sm_KW p l e (headSpec (Cond.codeWith (lt_y kLaw_run) (lt_b kLaw_run) (lt_n kLaw_run) (some .int) [(0, 10, 13, 15), (0, 10, 17, 17)] :: lw_g) (sm_rmW kLaw_run)).room s m ([.inr (.inr (9, 0, 0)), .inl p1, .inl p2, .inr (.inr (30, 0, 1))].map (sm_t ad)).toArray below meth c 0 0 (MQ below (va_Qi (S := Unit) (fun x _ => R.2.1 = .inl x) (sm_T D tc ad R.2.2) (va_A (sm_W tc ad M) s.heap.size)) ([.inr (.inr (9, 0, 0)), .inl p1, .inl p2, .inr (.inr (30, 0, 1))].map (sm_t ad)).toArray s 1 6 (va_A (sm_W tc ad M) s.heap.size))) 5 [(0, .inr (.inr (9, 0, 0))), (1, .inl p1), (2, .inl p2), (3, .inr (.inr (30, 0, 1)))] [.inl p2, .inl p1, .inr (.inr (9, 0, 0)), .inl 0, .inr (.inr (30, 0, 1))] M := by
    intro H locs la hP hS hl
    obtain ⟨q0, hq0, hw0⟩ := sm_W_at (tc := tc) (ad := ad) M (r := (9, 0, 0)) (by decide +kernel)
    rw [sm_ce_o] at hw0
    have hrecv := va_recv hK hP (ci := 9) rfl hw0
    have hpre := sm_preX hK hD (fun q h => Or.inr h) hN hPT hS hP ([.inr (.inr (9, 0, 0)), .inl p1, .inl p2].map (sm_t ad))
    obtain ⟨g1, g2, g3, g4, g5⟩ := sm_mb_spec (sm_mb_all kTop_run (by decide))
    have g5 : Cond.instanceMethod (lt_y kTop_run) ∈ lw_g ∧ Cond.selects (lt_y kTop_run).cls (lt_y kTop_run) (lt_y kTop_run) ∈ lw_g := by
      rcases g5 with ⟨q, -⟩ | ⟨-, q1, q2, -⟩
      · exact absurd q (by decide +kernel)
      · exact ⟨q1, q2⟩
    have hw1 : Cond.methodLink RL 57 (lt_y kTop_run) ∈ lw_g := sm_wd_in (i := 1269) (by decide +kernel)
    have hrun := vx_runV (p := p) (l := l) (e := e) (R := (headSpec (Cond.codeWith (lt_y kLaw_run) (lt_b kLaw_run) (lt_n kLaw_run) (some .int) [(0, 10, 13, 15), (0, 10, 17, 17)] :: lw_g) (sm_rmW kLaw_run)).room) (below := below) (meth := meth) (locs := locs) (cells := 0) (slots := 0) (As := ([.inl p1, .inl p2] : List sm_v).map (sm_t ad)) (rest := ([.inl 0, .inr (.inr (30, 0, 1))] : List sm_v).map (sm_t ad)) (b := ad (9, 0, 0)) (n := 2) (index := 57) (C := RX9) (g := F0 m 5 la (([.inl p2, .inl p1, .inr (.inr (9, 0, 0)), .inl 0, .inr (.inr (30, 0, 1))] : List sm_v).map (sm_t ad))) ⟨hx, hb, hml, hown, hts⟩ (hM H.size)
      ⟨callB_of 2 hts (lw_g_in (fun w hw => by rcases List.mem_cons.mp hw with rfl | hw; exact g4; exact hw)) rfl rfl rfl (hts _ g3) (hts _ hw1) ⟨g2.1, g2.2, by decide +kernel⟩ ⟨by decide +kernel, by decide +kernel⟩, hts _ g5.1, hts _ g5.2⟩
      ⟨hpre.1, hrecv, hpre.2⟩ rfl rfl hl.1 rfl (lv_room (Nat.le_of_ble_eq_true rfl)) (show decode cL_run 5 = .ok (.invokevirtual 57, 3) by decide +kernel) ⟨Nat.le_refl _, Nat.le_refl _⟩
    have hF := sm_freeA hD (fun q h => Or.inr h) hS M
    refine vx_calli (S := Unit) (SX := Unit) (a := ([.inr (.inr (9, 0, 0)), .inl p1, .inl p2].map (sm_t ad)).toArray) hrun hS (fun q _ h => hF q h) hF (fun q _ h => hF q h) (fun E ce q9 u t H1 locs1 ht hvm hpx hBX hz hk hS1 hce hcv hcl => ?_) (fun rv u t H1 locs1 ht hvm hw hB hz1 hk1 hS1 => ?_)
    · obtain ⟨⟨ex, hex1, rfl⟩, hP1⟩ := hBX
      rw [ht] at hP1
      obtain ⟨r0, rv, rM⟩ := r
      have hex1 : r0 = ex + 1 := hex1
      subst hex1
      have hR1 : R = (0, .inl (nI ([0, 1, 2].getD ex 0)), rM) := (Option.some.inj (show some ((0, .inl (nI ([0, 1, 2].getD ex 0)), rM) : sm_R) = some R by rw [← hR]; rfl)).symm
      have hre2 : ex = 1 ∨ ex = 2 := by
        rcases hre with h | h | h
        · exact absurd h (Nat.succ_ne_zero _)
        · exact Or.inl (Nat.succ.inj h)
        · exact Or.inr ((Nat.succ.inj h))
      rcases hre2 with rfl | rfl
      · refine sm_catch (ex := 1) hown hts hPT.1 hNc (by decide) [] (0, 10, 13, 15) [(0, 10, 17, 17)] htab (fun y hy => by cases hy) rfl ⟨by decide, by decide⟩ hce hcv hcl ?_
        refine lv_astore (lv' := _) (i := 4) hx hb (show decode cL_run 13 = .ok (.astore 4, 2) by decide +kernel) hl (by decide) rfl (fun la hl => ?_)
        refine lv_iconst (v := 1) hx hb (show decode cL_run 15 = .ok (.iconst 1, 1) by decide +kernel) (by decide) ?_
        exact W.iret hx hb hret (fun t ht hW => ⟨⟨1, (), rfl, by rw [hR1]; rfl, by show va_P _ _ _ t.heap; rw [ht, hR1]; exact hP1⟩, hS1.F ht⟩) hS1.2.2 (show decode cL_run 16 = .ok (.ireturn, 1) by decide +kernel)
      · refine sm_catch (ex := 2) hown hts hPT.1 hNc (by decide) [(0, 10, 13, 15)] (0, 10, 17, 17) [] htab (fun y hy => by simp only [List.mem_cons, List.not_mem_nil, or_false] at hy; rcases hy with rfl; exact ⟨1, by decide, by decide, rfl⟩) rfl ⟨by decide, by decide⟩ hce hcv hcl ?_
        refine lv_astore (lv' := _) (i := 4) hx hb (show decode cL_run 17 = .ok (.astore 4, 2) by decide +kernel) hl (by decide) rfl (fun la hl => ?_)
        refine lv_iconst (v := 2) hx hb (show decode cL_run 19 = .ok (.iconst 2, 1) by decide +kernel) (by decide) ?_
        exact W.iret hx hb hret (fun t ht hW => ⟨⟨2, (), rfl, by rw [hR1]; rfl, by show va_P _ _ _ t.heap; rw [ht, hR1]; exact hP1⟩, hS1.F ht⟩) hS1.2.2 (show decode cL_run 20 = .ok (.ireturn, 1) by decide +kernel)
    · obtain ⟨hw1, hw2⟩ := hw
      have hP1 : va_P D vwCl (sm_W tc ad r.2.2) t.heap := hB
      rw [ht] at hP1
      obtain ⟨r0, rv0, rM⟩ := r
      have hw1 : r0 = 0 := hw1
      have hw2 : rv0 = .inl rv := hw2
      subst hw1; subst hw2
      have hR1 : R = (0, .inl 0, sm_w rM 30 0 1 0 rv.toInt64) := (Option.some.inj (show some ((0, .inl 0, sm_w rM 30 0 1 0 rv.toInt64) : sm_R) = some R by rw [← hR]; rfl)).symm
      have k2 := (sm_s1_ok X (i := (.i2l, [], [])) (len := 1) (pc := 8) (ls := [(0, .inr (.inr (9, 0, 0))), (1, .inl p1), (2, .inl p2), (3, .inr (.inr (30, 0, 1)))]) (st := [.inl rv, .inl 0, .inr (.inr (30, 0, 1))]) (by decide +kernel) (by decide +kernel) rfl okl (sm_oks_c.mpr ⟨trivial, sm_oks_c.mpr ⟨trivial, sm_oks_c.mpr ⟨oo, on⟩⟩⟩)).2 (kst rM rv.toInt64 hR1)
      exact k2 H1 locs1 la hP1 hS1 hl
  have k_4 := (sm_s1_ok X (i := (.iload_n 2, [], [])) (len := 1) (pc := 4) (ls := [(0, .inr (.inr (9, 0, 0))), (1, .inl p1), (2, .inl p2), (3, .inr (.inr (30, 0, 1)))]) (st := [.inl p1, .inr (.inr (9, 0, 0)), .inl 0, .inr (.inr (30, 0, 1))]) (by decide +kernel) (by decide +kernel) rfl okl (sm_oks_c.mpr ⟨trivial, (sm_oks_c.mpr ⟨ox, (sm_oks_c.mpr ⟨trivial, (sm_oks_c.mpr ⟨oo, on⟩)⟩)⟩)⟩)).2 kcall
  have k_3 := (sm_s1_ok X (i := (.iload_n 1, [], [])) (len := 1) (pc := 3) (ls := [(0, .inr (.inr (9, 0, 0))), (1, .inl p1), (2, .inl p2), (3, .inr (.inr (30, 0, 1)))]) (st := [.inr (.inr (9, 0, 0)), .inl 0, .inr (.inr (30, 0, 1))]) (by decide +kernel) (by decide +kernel) rfl okl (sm_oks_c.mpr ⟨ox, (sm_oks_c.mpr ⟨trivial, (sm_oks_c.mpr ⟨oo, on⟩)⟩)⟩)).2 k_4
  have k_2 := (sm_s1_ok X (i := (.aload_n 0, [], [])) (len := 1) (pc := 2) (ls := [(0, .inr (.inr (9, 0, 0))), (1, .inl p1), (2, .inl p2), (3, .inr (.inr (30, 0, 1)))]) (st := [.inl 0, .inr (.inr (30, 0, 1))]) (by decide +kernel) (by decide +kernel) rfl okl (sm_oks_c.mpr ⟨trivial, (sm_oks_c.mpr ⟨oo, on⟩)⟩)).2 k_3
  have k_1 := (sm_s1_ok X (i := (.iconst 0, [.inl (0 : Int32)], [])) (len := 1) (pc := 1) (ls := [(0, .inr (.inr (9, 0, 0))), (1, .inl p1), (2, .inl p2), (3, .inr (.inr (30, 0, 1)))]) (st := [.inr (.inr (30, 0, 1))]) (by decide +kernel) (by decide +kernel) rfl okl (sm_oks_c.mpr ⟨oo, on⟩)).2 k_2
  have k_0 := (sm_s1_ok X (i := (.aload_n 3, [], [])) (len := 1) (pc := 0) (ls := [(0, .inr (.inr (9, 0, 0))), (1, .inl p1), (2, .inl p2), (3, .inr (.inr (30, 0, 1)))]) (st := []) (by decide +kernel) (by decide +kernel) rfl okl on).2 k_1
  exact k_0 s.heap [] _ hP va_S.rf hl
set_option maxHeartbeats 4000000 in
theorem wr_state {l : Launch} {D : va_G} {tc : Nat → ClassId} {ad : Nat × Nat × Nat → Nat} {M : sm_M} {r R : sm_R} (p1 : Int32) (hM : sm_MetX l D tc ad kTop_state [.inr (.inr (9, 0, 0)), .inl p1] M r) (hre : r.1 = 0 ∨ r.1 = 1 ∨ r.1 = 3) (hR : sm_wr1 (kTop_state, 0, [1, 0, 2]) (some (.inr (.inr (30, 0, 1)))) (some r) = some R) : sm_MetW l D tc ad kLaw_state [(0, 9, 12, 13), (0, 9, 15, 17)] [.inr (.inr (9, 0, 0)), .inl p1, .inr (.inr (30, 0, 1))] M R := by
  intro sz
  refine va_MetW (cc := cL_state) (maxL := 4) (ret := some .int) (by decide +kernel) rfl ?_
  intro p e s m args below meth c s₁ B hml hv
  obtain ⟨rfl, ⟨⟨hsz, hP, hK, hD0, hN⟩, hPT⟩, hNc⟩ := hv
  have hx := B.exec
  have hb := B.bytes
  have hret := B.returns
  have hts0 := atoms_spec (ws := Cond.codeWith (lt_y kLaw_state) (lt_b kLaw_state) (lt_n kLaw_state) (some .int) [(0, 9, 12, 13), (0, 9, 15, 17)] :: lw_g) B.pre
  have hown : s.vm.findClass RL = some m.cls := findClass_of_methodNamed B.named
  have hlocks := B.notSynchronized
  have htab := vx_table (x := yL_law) B (hts0 _ List.mem_cons_self)
  subst hsz
  have hD := sm_D_all (D := D) (sz := s.heap.size) hD0
  have hts : ∀ w ∈ lw_g, w.before ([.inr (.inr (9, 0, 0)), .inl p1, .inr (.inr (30, 0, 1))].map (sm_t ad)).toArray s = true := fun w hw => hts0 w (List.mem_cons_of_mem _ hw)
  have X : sm_Cx p s m ([.inr (.inr (9, 0, 0)), .inl p1, .inr (.inr (30, 0, 1))].map (sm_t ad)).toArray c cL_state 4 RL D tc ad (va_A (sm_W tc ad M) s.heap.size) s.heap (0, fun _ => 0) false := ⟨hx, hb, hml, hown, hts, hK, hD, hN, fun q h => Or.inr h, fun h => by cases h⟩
  have hl := lv_entry ([.inr (.inr (9, 0, 0)), .inl p1, .inr (.inr (30, 0, 1))].map (sm_t ad)) (n := 4) (by rw [lg_sl_len]; exact Nat.le_of_ble_eq_true rfl)
  rw [lg_entry_eq]
  rw [lv_args_ent] at hl
  have ox : sm_ok false (.inr (.inr (9, 0, 0))) := Or.inl (by decide +kernel)
  have oo : sm_ok false (.inr (.inr (30, 0, 1))) := Or.inl (by decide +kernel)
  have on : sm_oks false [] := fun v hv => by cases hv
  have okl : sm_okl false [(0, .inr (.inr (9, 0, 0))), (1, .inl p1), (2, .inr (.inr (30, 0, 1)))] := by
    intro q hq
    simp only [List.mem_cons, List.not_mem_nil, or_false] at hq
    rcases hq with rfl | rfl | rfl
    · exact ox
    · trivial
    · exact oo
  -- the end
  have kend : ∀ M1, R = (0, .inl 0, M1) → sm_SW D tc ad (va_A (sm_W tc ad M) s.heap.size) s.heap 4 (sm_KW p l e (headSpec (Cond.codeWith (lt_y kLaw_state) (lt_b kLaw_state) (lt_n kLaw_state) (some .int) [(0, 9, 12, 13), (0, 9, 15, 17)] :: lw_g) (sm_rmW kLaw_state)).room s m ([.inr (.inr (9, 0, 0)), .inl p1, .inr (.inr (30, 0, 1))].map (sm_t ad)).toArray below meth c 1 6 (MQ below (va_Qi (S := Unit) (fun x _ => R.2.1 = .inl x) (sm_T D tc ad R.2.2) (va_A (sm_W tc ad M) s.heap.size)) ([.inr (.inr (9, 0, 0)), .inl p1, .inr (.inr (30, 0, 1))].map (sm_t ad)).toArray s 1 6 (va_A (sm_W tc ad M) s.heap.size))) 18 [(0, .inr (.inr (9, 0, 0))), (1, .inl p1), (2, .inr (.inr (30, 0, 1)))] [] M1 := by
    intro M1 hR1
    subst hR1
    refine (sm_s1_ok X (i := (.iconst 0, [.inl (0 : Int32)], [])) (len := 1) (ls := [(0, .inr (.inr (9, 0, 0))), (1, .inl p1), (2, .inr (.inr (30, 0, 1)))]) (st := []) (by decide +kernel) (by decide +kernel) rfl okl on).2 ?_
    intro H locs la hP hS hl
    exact W.iret hx hb hret (fun t ht hW => ⟨⟨0, (), rfl, rfl, by show va_P _ _ _ t.heap; rw [ht]; exact hP⟩, hS.F ht⟩) hS.2.2 (by decide +kernel)
  have kst : ∀ (M1 : sm_M) (v : Int64), R = (0, .inl 0, sm_w M1 30 0 1 0 v) → sm_SW D tc ad (va_A (sm_W tc ad M) s.heap.size) s.heap 4 (sm_KW p l e (headSpec (Cond.codeWith (lt_y kLaw_state) (lt_b kLaw_state) (lt_n kLaw_state) (some .int) [(0, 9, 12, 13), (0, 9, 15, 17)] :: lw_g) (sm_rmW kLaw_state)).room s m ([.inr (.inr (9, 0, 0)), .inl p1, .inr (.inr (30, 0, 1))].map (sm_t ad)).toArray below meth c 1 6 (MQ below (va_Qi (S := Unit) (fun x _ => R.2.1 = .inl x) (sm_T D tc ad R.2.2) (va_A (sm_W tc ad M) s.heap.size)) ([.inr (.inr (9, 0, 0)), .inl p1, .inr (.inr (30, 0, 1))].map (sm_t ad)).toArray s 1 6 (va_A (sm_W tc ad M) s.heap.size))) 8 [(0, .inr (.inr (9, 0, 0))), (1, .inl p1), (2, .inr (.inr (30, 0, 1)))] [.inr (.inl v), .inl 0, .inr (.inr (30, 0, 1))] M1 := by
    intro M1 v hR1
    refine (sm_s1_ok X (i := (.lastore, [], [])) (len := 1) (ls := [(0, .inr (.inr (9, 0, 0))), (1, .inl p1), (2, .inr (.inr (30, 0, 1)))]) (st := [.inr (.inl v), .inl 0, .inr (.inr (30, 0, 1))]) (ls' := [(0, .inr (.inr (9, 0, 0))), (1, .inl p1), (2, .inr (.inr (30, 0, 1)))]) (st' := []) (M' := sm_w M1 30 0 1 0 v) (by decide +kernel) (by decide +kernel) rfl okl (sm_oks_c.mpr ⟨trivial, sm_oks_c.mpr ⟨trivial, sm_oks_c.mpr ⟨oo, on⟩⟩⟩)).2 ?_
    intro H locs la hP hS hl
    exact lv_goto (tgt := 18) hx hb (pc := 9) (off := 9) (by decide +kernel) (by decide) (kend _ hR1 H locs la hP hS hl)
  have kcall : sm_SW D tc ad (va_A (sm_W tc ad M) s.heap.size) s.heap 4 (sm_KW p l e (headSpec (Cond.codeWith (lt_y kLaw_state) (lt_b kLaw_state) (lt_n kLaw_state) (some .int) [(0, 9, 12, 13), (0, 9, 15, 17)] :: lw_g) (sm_rmW kLaw_state)).room s m ([.inr (.inr (9, 0, 0)), .inl p1, .inr (.inr (30, 0, 1))].map (sm_t ad)).toArray below meth c 0 0 (MQ below (va_Qi (S := Unit) (fun x _ => R.2.1 = .inl x) (sm_T D tc ad R.2.2) (va_A (sm_W tc ad M) s.heap.size)) ([.inr (.inr (9, 0, 0)), .inl p1, .inr (.inr (30, 0, 1))].map (sm_t ad)).toArray s 1 6 (va_A (sm_W tc ad M) s.heap.size))) 4 [(0, .inr (.inr (9, 0, 0))), (1, .inl p1), (2, .inr (.inr (30, 0, 1)))] [.inl p1, .inr (.inr (9, 0, 0)), .inl 0, .inr (.inr (30, 0, 1))] M := by
    intro H locs la hP hS hl
    obtain ⟨q0, hq0, hw0⟩ := sm_W_at (tc := tc) (ad := ad) M (r := (9, 0, 0)) (by decide +kernel)
    rw [sm_ce_o] at hw0
    have hrecv := va_recv hK hP (ci := 9) rfl hw0
    have hpre := sm_preX hK hD (fun q h => Or.inr h) hN hPT hS hP ([.inr (.inr (9, 0, 0)), .inl p1].map (sm_t ad))
    obtain ⟨g1, g2, g3, g4, g5⟩ := sm_mb_spec (sm_mb_all kTop_state (by decide))
    have g5 : Cond.instanceMethod (lt_y kTop_state) ∈ lw_g ∧ Cond.selects (lt_y kTop_state).cls (lt_y kTop_state) (lt_y kTop_state) ∈ lw_g := by
      rcases g5 with ⟨q, -⟩ | ⟨-, q1, q2, -⟩
      · exact absurd q (by decide +kernel)
      · exact ⟨q1, q2⟩
    have hw1 : Cond.methodLink RL 60 (lt_y kTop_state) ∈ lw_g := sm_wd_in (i := 1296) (by decide +kernel)
    have hrun := vx_runV (p := p) (l := l) (e := e) (R := (headSpec (Cond.codeWith (lt_y kLaw_state) (lt_b kLaw_state) (lt_n kLaw_state) (some .int) [(0, 9, 12, 13), (0, 9, 15, 17)] :: lw_g) (sm_rmW kLaw_state)).room) (below := below) (meth := meth) (locs := locs) (cells := 0) (slots := 0) (As := ([.inl p1] : List sm_v).map (sm_t ad)) (rest := ([.inl 0, .inr (.inr (30, 0, 1))] : List sm_v).map (sm_t ad)) (b := ad (9, 0, 0)) (n := 1) (index := 60) (C := RX9) (g := F0 m 4 la (([.inl p1, .inr (.inr (9, 0, 0)), .inl 0, .inr (.inr (30, 0, 1))] : List sm_v).map (sm_t ad))) ⟨hx, hb, hml, hown, hts⟩ (hM H.size)
      ⟨callB_of 1 hts (lw_g_in (fun w hw => by rcases List.mem_cons.mp hw with rfl | hw; exact g4; exact hw)) rfl rfl rfl (hts _ g3) (hts _ hw1) ⟨g2.1, g2.2, by decide +kernel⟩ ⟨by decide +kernel, by decide +kernel⟩, hts _ g5.1, hts _ g5.2⟩
      ⟨hpre.1, hrecv, hpre.2⟩ rfl rfl hl.1 rfl (lv_room (Nat.le_of_ble_eq_true rfl)) (show decode cL_state 4 = .ok (.invokevirtual 60, 3) by decide +kernel) ⟨Nat.le_refl _, Nat.le_refl _⟩
    have hF := sm_freeA hD (fun q h => Or.inr h) hS M
    refine vx_calli (S := Unit) (SX := Unit) (a := ([.inr (.inr (9, 0, 0)), .inl p1].map (sm_t ad)).toArray) hrun hS (fun q _ h => hF q h) hF (fun q _ h => hF q h) (fun E ce q9 u t H1 locs1 ht hvm hpx hBX hz hk hS1 hce hcv hcl => ?_) (fun rv u t H1 locs1 ht hvm hw hB hz1 hk1 hS1 => ?_)
    · obtain ⟨⟨ex, hex1, rfl⟩, hP1⟩ := hBX
      rw [ht] at hP1
      obtain ⟨r0, rv, rM⟩ := r
      have hex1 : r0 = ex + 1 := hex1
      subst hex1
      have hR1 : R = (0, .inl (nI ([1, 0, 2].getD ex 0)), rM) := (Option.some.inj (show some ((0, .inl (nI ([1, 0, 2].getD ex 0)), rM) : sm_R) = some R by rw [← hR]; rfl)).symm
      have hre2 : ex = 0 ∨ ex = 2 := by
        rcases hre with h | h | h
        · exact absurd h (Nat.succ_ne_zero _)
        · exact Or.inl (Nat.succ.inj h)
        · exact Or.inr ((Nat.succ.inj h))
      rcases hre2 with rfl | rfl
      · refine sm_catch (ex := 0) hown hts hPT.1 hNc (by decide) [] (0, 9, 12, 13) [(0, 9, 15, 17)] htab (fun y hy => by cases hy) rfl ⟨by decide, by decide⟩ hce hcv hcl ?_
        refine lv_astore_n (lv' := _) (i := 3) hx hb (show decode cL_state 12 = .ok (.astore_n 3, 1) by decide +kernel) rfl hl (by decide) rfl (fun la hl => ?_)
        refine lv_iconst (v := 1) hx hb (show decode cL_state 13 = .ok (.iconst 1, 1) by decide +kernel) (by decide) ?_
        exact W.iret hx hb hret (fun t ht hW => ⟨⟨1, (), rfl, by rw [hR1]; rfl, by show va_P _ _ _ t.heap; rw [ht, hR1]; exact hP1⟩, hS1.F ht⟩) hS1.2.2 (show decode cL_state 14 = .ok (.ireturn, 1) by decide +kernel)
      · refine sm_catch (ex := 2) hown hts hPT.1 hNc (by decide) [(0, 9, 12, 13)] (0, 9, 15, 17) [] htab (fun y hy => by simp only [List.mem_cons, List.not_mem_nil, or_false] at hy; rcases hy with rfl; exact ⟨0, by decide, by decide, rfl⟩) rfl ⟨by decide, by decide⟩ hce hcv hcl ?_
        refine lv_astore_n (lv' := _) (i := 3) hx hb (show decode cL_state 15 = .ok (.astore_n 3, 1) by decide +kernel) rfl hl (by decide) rfl (fun la hl => ?_)
        refine lv_iconst (v := 2) hx hb (show decode cL_state 16 = .ok (.iconst 2, 1) by decide +kernel) (by decide) ?_
        exact W.iret hx hb hret (fun t ht hW => ⟨⟨2, (), rfl, by rw [hR1]; rfl, by show va_P _ _ _ t.heap; rw [ht, hR1]; exact hP1⟩, hS1.F ht⟩) hS1.2.2 (show decode cL_state 17 = .ok (.ireturn, 1) by decide +kernel)
    · obtain ⟨hw1, hw2⟩ := hw
      have hP1 : va_P D vwCl (sm_W tc ad r.2.2) t.heap := hB
      rw [ht] at hP1
      obtain ⟨r0, rv0, rM⟩ := r
      have hw1 : r0 = 0 := hw1
      have hw2 : rv0 = .inl rv := hw2
      subst hw1; subst hw2
      have hR1 : R = (0, .inl 0, sm_w rM 30 0 1 0 rv.toInt64) := (Option.some.inj (show some ((0, .inl 0, sm_w rM 30 0 1 0 rv.toInt64) : sm_R) = some R by rw [← hR]; rfl)).symm
      have k2 := (sm_s1_ok X (i := (.i2l, [], [])) (len := 1) (pc := 7) (ls := [(0, .inr (.inr (9, 0, 0))), (1, .inl p1), (2, .inr (.inr (30, 0, 1)))]) (st := [.inl rv, .inl 0, .inr (.inr (30, 0, 1))]) (by decide +kernel) (by decide +kernel) rfl okl (sm_oks_c.mpr ⟨trivial, sm_oks_c.mpr ⟨trivial, sm_oks_c.mpr ⟨oo, on⟩⟩⟩)).2 (kst rM rv.toInt64 hR1)
      exact k2 H1 locs1 la hP1 hS1 hl
  have k_3 := (sm_s1_ok X (i := (.iload_n 1, [], [])) (len := 1) (pc := 3) (ls := [(0, .inr (.inr (9, 0, 0))), (1, .inl p1), (2, .inr (.inr (30, 0, 1)))]) (st := [.inr (.inr (9, 0, 0)), .inl 0, .inr (.inr (30, 0, 1))]) (by decide +kernel) (by decide +kernel) rfl okl (sm_oks_c.mpr ⟨ox, (sm_oks_c.mpr ⟨trivial, (sm_oks_c.mpr ⟨oo, on⟩)⟩)⟩)).2 kcall
  have k_2 := (sm_s1_ok X (i := (.aload_n 0, [], [])) (len := 1) (pc := 2) (ls := [(0, .inr (.inr (9, 0, 0))), (1, .inl p1), (2, .inr (.inr (30, 0, 1)))]) (st := [.inl 0, .inr (.inr (30, 0, 1))]) (by decide +kernel) (by decide +kernel) rfl okl (sm_oks_c.mpr ⟨trivial, (sm_oks_c.mpr ⟨oo, on⟩)⟩)).2 k_3
  have k_1 := (sm_s1_ok X (i := (.iconst 0, [.inl (0 : Int32)], [])) (len := 1) (pc := 1) (ls := [(0, .inr (.inr (9, 0, 0))), (1, .inl p1), (2, .inr (.inr (30, 0, 1)))]) (st := [.inr (.inr (30, 0, 1))]) (by decide +kernel) (by decide +kernel) rfl okl (sm_oks_c.mpr ⟨oo, on⟩)).2 k_2
  have k_0 := (sm_s1_ok X (i := (.aload_n 2, [], [])) (len := 1) (pc := 0) (ls := [(0, .inr (.inr (9, 0, 0))), (1, .inl p1), (2, .inr (.inr (30, 0, 1)))]) (st := []) (by decide +kernel) (by decide +kernel) rfl okl on).2 k_1
  exact k_0 s.heap [] _ hP va_S.rf hl
set_option maxHeartbeats 4000000 in
theorem wr_fault {l : Launch} {D : va_G} {tc : Nat → ClassId} {ad : Nat × Nat × Nat → Nat} {M : sm_M} {r R : sm_R} (p1 : Int32) (hM : sm_MetX l D tc ad kTop_fault [.inr (.inr (9, 0, 0)), .inl p1] M r) (hre : r.1 = 0 ∨ r.1 = 1 ∨ r.1 = 3) (hR : sm_wr1 (kTop_fault, 0, [1, 0, 2]) (some (.inr (.inr (30, 0, 1)))) (some r) = some R) : sm_MetW l D tc ad kLaw_fault [(0, 9, 12, 13), (0, 9, 15, 17)] [.inr (.inr (9, 0, 0)), .inl p1, .inr (.inr (30, 0, 1))] M R := by
  intro sz
  refine va_MetW (cc := cL_fault) (maxL := 4) (ret := some .int) (by decide +kernel) rfl ?_
  intro p e s m args below meth c s₁ B hml hv
  obtain ⟨rfl, ⟨⟨hsz, hP, hK, hD0, hN⟩, hPT⟩, hNc⟩ := hv
  have hx := B.exec
  have hb := B.bytes
  have hret := B.returns
  have hts0 := atoms_spec (ws := Cond.codeWith (lt_y kLaw_fault) (lt_b kLaw_fault) (lt_n kLaw_fault) (some .int) [(0, 9, 12, 13), (0, 9, 15, 17)] :: lw_g) B.pre
  have hown : s.vm.findClass RL = some m.cls := findClass_of_methodNamed B.named
  have hlocks := B.notSynchronized
  have htab := vx_table (x := yL_law) B (hts0 _ List.mem_cons_self)
  subst hsz
  have hD := sm_D_all (D := D) (sz := s.heap.size) hD0
  have hts : ∀ w ∈ lw_g, w.before ([.inr (.inr (9, 0, 0)), .inl p1, .inr (.inr (30, 0, 1))].map (sm_t ad)).toArray s = true := fun w hw => hts0 w (List.mem_cons_of_mem _ hw)
  have X : sm_Cx p s m ([.inr (.inr (9, 0, 0)), .inl p1, .inr (.inr (30, 0, 1))].map (sm_t ad)).toArray c cL_fault 4 RL D tc ad (va_A (sm_W tc ad M) s.heap.size) s.heap (0, fun _ => 0) false := ⟨hx, hb, hml, hown, hts, hK, hD, hN, fun q h => Or.inr h, fun h => by cases h⟩
  have hl := lv_entry ([.inr (.inr (9, 0, 0)), .inl p1, .inr (.inr (30, 0, 1))].map (sm_t ad)) (n := 4) (by rw [lg_sl_len]; exact Nat.le_of_ble_eq_true rfl)
  rw [lg_entry_eq]
  rw [lv_args_ent] at hl
  have ox : sm_ok false (.inr (.inr (9, 0, 0))) := Or.inl (by decide +kernel)
  have oo : sm_ok false (.inr (.inr (30, 0, 1))) := Or.inl (by decide +kernel)
  have on : sm_oks false [] := fun v hv => by cases hv
  have okl : sm_okl false [(0, .inr (.inr (9, 0, 0))), (1, .inl p1), (2, .inr (.inr (30, 0, 1)))] := by
    intro q hq
    simp only [List.mem_cons, List.not_mem_nil, or_false] at hq
    rcases hq with rfl | rfl | rfl
    · exact ox
    · trivial
    · exact oo
  -- the end
  have kend : ∀ M1, R = (0, .inl 0, M1) → sm_SW D tc ad (va_A (sm_W tc ad M) s.heap.size) s.heap 4 (sm_KW p l e (headSpec (Cond.codeWith (lt_y kLaw_fault) (lt_b kLaw_fault) (lt_n kLaw_fault) (some .int) [(0, 9, 12, 13), (0, 9, 15, 17)] :: lw_g) (sm_rmW kLaw_fault)).room s m ([.inr (.inr (9, 0, 0)), .inl p1, .inr (.inr (30, 0, 1))].map (sm_t ad)).toArray below meth c 1 6 (MQ below (va_Qi (S := Unit) (fun x _ => R.2.1 = .inl x) (sm_T D tc ad R.2.2) (va_A (sm_W tc ad M) s.heap.size)) ([.inr (.inr (9, 0, 0)), .inl p1, .inr (.inr (30, 0, 1))].map (sm_t ad)).toArray s 1 6 (va_A (sm_W tc ad M) s.heap.size))) 18 [(0, .inr (.inr (9, 0, 0))), (1, .inl p1), (2, .inr (.inr (30, 0, 1)))] [] M1 := by
    intro M1 hR1
    subst hR1
    refine (sm_s1_ok X (i := (.iconst 0, [.inl (0 : Int32)], [])) (len := 1) (ls := [(0, .inr (.inr (9, 0, 0))), (1, .inl p1), (2, .inr (.inr (30, 0, 1)))]) (st := []) (by decide +kernel) (by decide +kernel) rfl okl on).2 ?_
    intro H locs la hP hS hl
    exact W.iret hx hb hret (fun t ht hW => ⟨⟨0, (), rfl, rfl, by show va_P _ _ _ t.heap; rw [ht]; exact hP⟩, hS.F ht⟩) hS.2.2 (by decide +kernel)
  have kst : ∀ (M1 : sm_M) (v : Int64), R = (0, .inl 0, sm_w M1 30 0 1 0 v) → sm_SW D tc ad (va_A (sm_W tc ad M) s.heap.size) s.heap 4 (sm_KW p l e (headSpec (Cond.codeWith (lt_y kLaw_fault) (lt_b kLaw_fault) (lt_n kLaw_fault) (some .int) [(0, 9, 12, 13), (0, 9, 15, 17)] :: lw_g) (sm_rmW kLaw_fault)).room s m ([.inr (.inr (9, 0, 0)), .inl p1, .inr (.inr (30, 0, 1))].map (sm_t ad)).toArray below meth c 1 6 (MQ below (va_Qi (S := Unit) (fun x _ => R.2.1 = .inl x) (sm_T D tc ad R.2.2) (va_A (sm_W tc ad M) s.heap.size)) ([.inr (.inr (9, 0, 0)), .inl p1, .inr (.inr (30, 0, 1))].map (sm_t ad)).toArray s 1 6 (va_A (sm_W tc ad M) s.heap.size))) 8 [(0, .inr (.inr (9, 0, 0))), (1, .inl p1), (2, .inr (.inr (30, 0, 1)))] [.inr (.inl v), .inl 0, .inr (.inr (30, 0, 1))] M1 := by
    intro M1 v hR1
    refine (sm_s1_ok X (i := (.lastore, [], [])) (len := 1) (ls := [(0, .inr (.inr (9, 0, 0))), (1, .inl p1), (2, .inr (.inr (30, 0, 1)))]) (st := [.inr (.inl v), .inl 0, .inr (.inr (30, 0, 1))]) (ls' := [(0, .inr (.inr (9, 0, 0))), (1, .inl p1), (2, .inr (.inr (30, 0, 1)))]) (st' := []) (M' := sm_w M1 30 0 1 0 v) (by decide +kernel) (by decide +kernel) rfl okl (sm_oks_c.mpr ⟨trivial, sm_oks_c.mpr ⟨trivial, sm_oks_c.mpr ⟨oo, on⟩⟩⟩)).2 ?_
    intro H locs la hP hS hl
    exact lv_goto (tgt := 18) hx hb (pc := 9) (off := 9) (by decide +kernel) (by decide) (kend _ hR1 H locs la hP hS hl)
  have kcall : sm_SW D tc ad (va_A (sm_W tc ad M) s.heap.size) s.heap 4 (sm_KW p l e (headSpec (Cond.codeWith (lt_y kLaw_fault) (lt_b kLaw_fault) (lt_n kLaw_fault) (some .int) [(0, 9, 12, 13), (0, 9, 15, 17)] :: lw_g) (sm_rmW kLaw_fault)).room s m ([.inr (.inr (9, 0, 0)), .inl p1, .inr (.inr (30, 0, 1))].map (sm_t ad)).toArray below meth c 0 0 (MQ below (va_Qi (S := Unit) (fun x _ => R.2.1 = .inl x) (sm_T D tc ad R.2.2) (va_A (sm_W tc ad M) s.heap.size)) ([.inr (.inr (9, 0, 0)), .inl p1, .inr (.inr (30, 0, 1))].map (sm_t ad)).toArray s 1 6 (va_A (sm_W tc ad M) s.heap.size))) 4 [(0, .inr (.inr (9, 0, 0))), (1, .inl p1), (2, .inr (.inr (30, 0, 1)))] [.inl p1, .inr (.inr (9, 0, 0)), .inl 0, .inr (.inr (30, 0, 1))] M := by
    intro H locs la hP hS hl
    obtain ⟨q0, hq0, hw0⟩ := sm_W_at (tc := tc) (ad := ad) M (r := (9, 0, 0)) (by decide +kernel)
    rw [sm_ce_o] at hw0
    have hrecv := va_recv hK hP (ci := 9) rfl hw0
    have hpre := sm_preX hK hD (fun q h => Or.inr h) hN hPT hS hP ([.inr (.inr (9, 0, 0)), .inl p1].map (sm_t ad))
    obtain ⟨g1, g2, g3, g4, g5⟩ := sm_mb_spec (sm_mb_all kTop_fault (by decide))
    have g5 : Cond.instanceMethod (lt_y kTop_fault) ∈ lw_g ∧ Cond.selects (lt_y kTop_fault).cls (lt_y kTop_fault) (lt_y kTop_fault) ∈ lw_g := by
      rcases g5 with ⟨q, -⟩ | ⟨-, q1, q2, -⟩
      · exact absurd q (by decide +kernel)
      · exact ⟨q1, q2⟩
    have hw1 : Cond.methodLink RL 63 (lt_y kTop_fault) ∈ lw_g := sm_wd_in (i := 1303) (by decide +kernel)
    have hrun := vx_runV (p := p) (l := l) (e := e) (R := (headSpec (Cond.codeWith (lt_y kLaw_fault) (lt_b kLaw_fault) (lt_n kLaw_fault) (some .int) [(0, 9, 12, 13), (0, 9, 15, 17)] :: lw_g) (sm_rmW kLaw_fault)).room) (below := below) (meth := meth) (locs := locs) (cells := 0) (slots := 0) (As := ([.inl p1] : List sm_v).map (sm_t ad)) (rest := ([.inl 0, .inr (.inr (30, 0, 1))] : List sm_v).map (sm_t ad)) (b := ad (9, 0, 0)) (n := 1) (index := 63) (C := RX9) (g := F0 m 4 la (([.inl p1, .inr (.inr (9, 0, 0)), .inl 0, .inr (.inr (30, 0, 1))] : List sm_v).map (sm_t ad))) ⟨hx, hb, hml, hown, hts⟩ (hM H.size)
      ⟨callB_of 1 hts (lw_g_in (fun w hw => by rcases List.mem_cons.mp hw with rfl | hw; exact g4; exact hw)) rfl rfl rfl (hts _ g3) (hts _ hw1) ⟨g2.1, g2.2, by decide +kernel⟩ ⟨by decide +kernel, by decide +kernel⟩, hts _ g5.1, hts _ g5.2⟩
      ⟨hpre.1, hrecv, hpre.2⟩ rfl rfl hl.1 rfl (lv_room (Nat.le_of_ble_eq_true rfl)) (show decode cL_fault 4 = .ok (.invokevirtual 63, 3) by decide +kernel) ⟨Nat.le_refl _, Nat.le_refl _⟩
    have hF := sm_freeA hD (fun q h => Or.inr h) hS M
    refine vx_calli (S := Unit) (SX := Unit) (a := ([.inr (.inr (9, 0, 0)), .inl p1].map (sm_t ad)).toArray) hrun hS (fun q _ h => hF q h) hF (fun q _ h => hF q h) (fun E ce q9 u t H1 locs1 ht hvm hpx hBX hz hk hS1 hce hcv hcl => ?_) (fun rv u t H1 locs1 ht hvm hw hB hz1 hk1 hS1 => ?_)
    · obtain ⟨⟨ex, hex1, rfl⟩, hP1⟩ := hBX
      rw [ht] at hP1
      obtain ⟨r0, rv, rM⟩ := r
      have hex1 : r0 = ex + 1 := hex1
      subst hex1
      have hR1 : R = (0, .inl (nI ([1, 0, 2].getD ex 0)), rM) := (Option.some.inj (show some ((0, .inl (nI ([1, 0, 2].getD ex 0)), rM) : sm_R) = some R by rw [← hR]; rfl)).symm
      have hre2 : ex = 0 ∨ ex = 2 := by
        rcases hre with h | h | h
        · exact absurd h (Nat.succ_ne_zero _)
        · exact Or.inl (Nat.succ.inj h)
        · exact Or.inr ((Nat.succ.inj h))
      rcases hre2 with rfl | rfl
      · refine sm_catch (ex := 0) hown hts hPT.1 hNc (by decide) [] (0, 9, 12, 13) [(0, 9, 15, 17)] htab (fun y hy => by cases hy) rfl ⟨by decide, by decide⟩ hce hcv hcl ?_
        refine lv_astore_n (lv' := _) (i := 3) hx hb (show decode cL_fault 12 = .ok (.astore_n 3, 1) by decide +kernel) rfl hl (by decide) rfl (fun la hl => ?_)
        refine lv_iconst (v := 1) hx hb (show decode cL_fault 13 = .ok (.iconst 1, 1) by decide +kernel) (by decide) ?_
        exact W.iret hx hb hret (fun t ht hW => ⟨⟨1, (), rfl, by rw [hR1]; rfl, by show va_P _ _ _ t.heap; rw [ht, hR1]; exact hP1⟩, hS1.F ht⟩) hS1.2.2 (show decode cL_fault 14 = .ok (.ireturn, 1) by decide +kernel)
      · refine sm_catch (ex := 2) hown hts hPT.1 hNc (by decide) [(0, 9, 12, 13)] (0, 9, 15, 17) [] htab (fun y hy => by simp only [List.mem_cons, List.not_mem_nil, or_false] at hy; rcases hy with rfl; exact ⟨0, by decide, by decide, rfl⟩) rfl ⟨by decide, by decide⟩ hce hcv hcl ?_
        refine lv_astore_n (lv' := _) (i := 3) hx hb (show decode cL_fault 15 = .ok (.astore_n 3, 1) by decide +kernel) rfl hl (by decide) rfl (fun la hl => ?_)
        refine lv_iconst (v := 2) hx hb (show decode cL_fault 16 = .ok (.iconst 2, 1) by decide +kernel) (by decide) ?_
        exact W.iret hx hb hret (fun t ht hW => ⟨⟨2, (), rfl, by rw [hR1]; rfl, by show va_P _ _ _ t.heap; rw [ht, hR1]; exact hP1⟩, hS1.F ht⟩) hS1.2.2 (show decode cL_fault 17 = .ok (.ireturn, 1) by decide +kernel)
    · obtain ⟨hw1, hw2⟩ := hw
      have hP1 : va_P D vwCl (sm_W tc ad r.2.2) t.heap := hB
      rw [ht] at hP1
      obtain ⟨r0, rv0, rM⟩ := r
      have hw1 : r0 = 0 := hw1
      have hw2 : rv0 = .inl rv := hw2
      subst hw1; subst hw2
      have hR1 : R = (0, .inl 0, sm_w rM 30 0 1 0 rv.toInt64) := (Option.some.inj (show some ((0, .inl 0, sm_w rM 30 0 1 0 rv.toInt64) : sm_R) = some R by rw [← hR]; rfl)).symm
      have k2 := (sm_s1_ok X (i := (.i2l, [], [])) (len := 1) (pc := 7) (ls := [(0, .inr (.inr (9, 0, 0))), (1, .inl p1), (2, .inr (.inr (30, 0, 1)))]) (st := [.inl rv, .inl 0, .inr (.inr (30, 0, 1))]) (by decide +kernel) (by decide +kernel) rfl okl (sm_oks_c.mpr ⟨trivial, sm_oks_c.mpr ⟨trivial, sm_oks_c.mpr ⟨oo, on⟩⟩⟩)).2 (kst rM rv.toInt64 hR1)
      exact k2 H1 locs1 la hP1 hS1 hl
  have k_3 := (sm_s1_ok X (i := (.iload_n 1, [], [])) (len := 1) (pc := 3) (ls := [(0, .inr (.inr (9, 0, 0))), (1, .inl p1), (2, .inr (.inr (30, 0, 1)))]) (st := [.inr (.inr (9, 0, 0)), .inl 0, .inr (.inr (30, 0, 1))]) (by decide +kernel) (by decide +kernel) rfl okl (sm_oks_c.mpr ⟨ox, (sm_oks_c.mpr ⟨trivial, (sm_oks_c.mpr ⟨oo, on⟩)⟩)⟩)).2 kcall
  have k_2 := (sm_s1_ok X (i := (.aload_n 0, [], [])) (len := 1) (pc := 2) (ls := [(0, .inr (.inr (9, 0, 0))), (1, .inl p1), (2, .inr (.inr (30, 0, 1)))]) (st := [.inl 0, .inr (.inr (30, 0, 1))]) (by decide +kernel) (by decide +kernel) rfl okl (sm_oks_c.mpr ⟨trivial, (sm_oks_c.mpr ⟨oo, on⟩)⟩)).2 k_3
  have k_1 := (sm_s1_ok X (i := (.iconst 0, [.inl (0 : Int32)], [])) (len := 1) (pc := 1) (ls := [(0, .inr (.inr (9, 0, 0))), (1, .inl p1), (2, .inr (.inr (30, 0, 1)))]) (st := [.inr (.inr (30, 0, 1))]) (by decide +kernel) (by decide +kernel) rfl okl (sm_oks_c.mpr ⟨oo, on⟩)).2 k_2
  have k_0 := (sm_s1_ok X (i := (.aload_n 2, [], [])) (len := 1) (pc := 0) (ls := [(0, .inr (.inr (9, 0, 0))), (1, .inl p1), (2, .inr (.inr (30, 0, 1)))]) (st := []) (by decide +kernel) (by decide +kernel) rfl okl on).2 k_1
  exact k_0 s.heap [] _ hP va_S.rf hl
set_option maxHeartbeats 4000000 in
theorem wr_place {l : Launch} {D : va_G} {tc : Nat → ClassId} {ad : Nat × Nat × Nat → Nat} {M : sm_M} {r R : sm_R} (p1 : Int32) (hM : sm_MetX l D tc ad kTop_place [.inr (.inr (9, 0, 0)), .inl p1] M r) (hre : r.1 = 0 ∨ r.1 = 1 ∨ r.1 = 3) (hR : sm_wr1 (kTop_place, 0, [1, 0, 2]) (some (.inr (.inr (30, 0, 1)))) (some r) = some R) : sm_MetW l D tc ad kLaw_place [(0, 9, 12, 13), (0, 9, 15, 17)] [.inr (.inr (9, 0, 0)), .inl p1, .inr (.inr (30, 0, 1))] M R := by
  intro sz
  refine va_MetW (cc := cL_place) (maxL := 4) (ret := some .int) (by decide +kernel) rfl ?_
  intro p e s m args below meth c s₁ B hml hv
  obtain ⟨rfl, ⟨⟨hsz, hP, hK, hD0, hN⟩, hPT⟩, hNc⟩ := hv
  have hx := B.exec
  have hb := B.bytes
  have hret := B.returns
  have hts0 := atoms_spec (ws := Cond.codeWith (lt_y kLaw_place) (lt_b kLaw_place) (lt_n kLaw_place) (some .int) [(0, 9, 12, 13), (0, 9, 15, 17)] :: lw_g) B.pre
  have hown : s.vm.findClass RL = some m.cls := findClass_of_methodNamed B.named
  have hlocks := B.notSynchronized
  have htab := vx_table (x := yL_law) B (hts0 _ List.mem_cons_self)
  subst hsz
  have hD := sm_D_all (D := D) (sz := s.heap.size) hD0
  have hts : ∀ w ∈ lw_g, w.before ([.inr (.inr (9, 0, 0)), .inl p1, .inr (.inr (30, 0, 1))].map (sm_t ad)).toArray s = true := fun w hw => hts0 w (List.mem_cons_of_mem _ hw)
  have X : sm_Cx p s m ([.inr (.inr (9, 0, 0)), .inl p1, .inr (.inr (30, 0, 1))].map (sm_t ad)).toArray c cL_place 4 RL D tc ad (va_A (sm_W tc ad M) s.heap.size) s.heap (0, fun _ => 0) false := ⟨hx, hb, hml, hown, hts, hK, hD, hN, fun q h => Or.inr h, fun h => by cases h⟩
  have hl := lv_entry ([.inr (.inr (9, 0, 0)), .inl p1, .inr (.inr (30, 0, 1))].map (sm_t ad)) (n := 4) (by rw [lg_sl_len]; exact Nat.le_of_ble_eq_true rfl)
  rw [lg_entry_eq]
  rw [lv_args_ent] at hl
  have ox : sm_ok false (.inr (.inr (9, 0, 0))) := Or.inl (by decide +kernel)
  have oo : sm_ok false (.inr (.inr (30, 0, 1))) := Or.inl (by decide +kernel)
  have on : sm_oks false [] := fun v hv => by cases hv
  have okl : sm_okl false [(0, .inr (.inr (9, 0, 0))), (1, .inl p1), (2, .inr (.inr (30, 0, 1)))] := by
    intro q hq
    simp only [List.mem_cons, List.not_mem_nil, or_false] at hq
    rcases hq with rfl | rfl | rfl
    · exact ox
    · trivial
    · exact oo
  -- the end
  have kend : ∀ M1, R = (0, .inl 0, M1) → sm_SW D tc ad (va_A (sm_W tc ad M) s.heap.size) s.heap 4 (sm_KW p l e (headSpec (Cond.codeWith (lt_y kLaw_place) (lt_b kLaw_place) (lt_n kLaw_place) (some .int) [(0, 9, 12, 13), (0, 9, 15, 17)] :: lw_g) (sm_rmW kLaw_place)).room s m ([.inr (.inr (9, 0, 0)), .inl p1, .inr (.inr (30, 0, 1))].map (sm_t ad)).toArray below meth c 1 6 (MQ below (va_Qi (S := Unit) (fun x _ => R.2.1 = .inl x) (sm_T D tc ad R.2.2) (va_A (sm_W tc ad M) s.heap.size)) ([.inr (.inr (9, 0, 0)), .inl p1, .inr (.inr (30, 0, 1))].map (sm_t ad)).toArray s 1 6 (va_A (sm_W tc ad M) s.heap.size))) 18 [(0, .inr (.inr (9, 0, 0))), (1, .inl p1), (2, .inr (.inr (30, 0, 1)))] [] M1 := by
    intro M1 hR1
    subst hR1
    refine (sm_s1_ok X (i := (.iconst 0, [.inl (0 : Int32)], [])) (len := 1) (ls := [(0, .inr (.inr (9, 0, 0))), (1, .inl p1), (2, .inr (.inr (30, 0, 1)))]) (st := []) (by decide +kernel) (by decide +kernel) rfl okl on).2 ?_
    intro H locs la hP hS hl
    exact W.iret hx hb hret (fun t ht hW => ⟨⟨0, (), rfl, rfl, by show va_P _ _ _ t.heap; rw [ht]; exact hP⟩, hS.F ht⟩) hS.2.2 (by decide +kernel)
  have kst : ∀ (M1 : sm_M) (v : Int64), R = (0, .inl 0, sm_w M1 30 0 1 0 v) → sm_SW D tc ad (va_A (sm_W tc ad M) s.heap.size) s.heap 4 (sm_KW p l e (headSpec (Cond.codeWith (lt_y kLaw_place) (lt_b kLaw_place) (lt_n kLaw_place) (some .int) [(0, 9, 12, 13), (0, 9, 15, 17)] :: lw_g) (sm_rmW kLaw_place)).room s m ([.inr (.inr (9, 0, 0)), .inl p1, .inr (.inr (30, 0, 1))].map (sm_t ad)).toArray below meth c 1 6 (MQ below (va_Qi (S := Unit) (fun x _ => R.2.1 = .inl x) (sm_T D tc ad R.2.2) (va_A (sm_W tc ad M) s.heap.size)) ([.inr (.inr (9, 0, 0)), .inl p1, .inr (.inr (30, 0, 1))].map (sm_t ad)).toArray s 1 6 (va_A (sm_W tc ad M) s.heap.size))) 8 [(0, .inr (.inr (9, 0, 0))), (1, .inl p1), (2, .inr (.inr (30, 0, 1)))] [.inr (.inl v), .inl 0, .inr (.inr (30, 0, 1))] M1 := by
    intro M1 v hR1
    refine (sm_s1_ok X (i := (.lastore, [], [])) (len := 1) (ls := [(0, .inr (.inr (9, 0, 0))), (1, .inl p1), (2, .inr (.inr (30, 0, 1)))]) (st := [.inr (.inl v), .inl 0, .inr (.inr (30, 0, 1))]) (ls' := [(0, .inr (.inr (9, 0, 0))), (1, .inl p1), (2, .inr (.inr (30, 0, 1)))]) (st' := []) (M' := sm_w M1 30 0 1 0 v) (by decide +kernel) (by decide +kernel) rfl okl (sm_oks_c.mpr ⟨trivial, sm_oks_c.mpr ⟨trivial, sm_oks_c.mpr ⟨oo, on⟩⟩⟩)).2 ?_
    intro H locs la hP hS hl
    exact lv_goto (tgt := 18) hx hb (pc := 9) (off := 9) (by decide +kernel) (by decide) (kend _ hR1 H locs la hP hS hl)
  have kcall : sm_SW D tc ad (va_A (sm_W tc ad M) s.heap.size) s.heap 4 (sm_KW p l e (headSpec (Cond.codeWith (lt_y kLaw_place) (lt_b kLaw_place) (lt_n kLaw_place) (some .int) [(0, 9, 12, 13), (0, 9, 15, 17)] :: lw_g) (sm_rmW kLaw_place)).room s m ([.inr (.inr (9, 0, 0)), .inl p1, .inr (.inr (30, 0, 1))].map (sm_t ad)).toArray below meth c 0 0 (MQ below (va_Qi (S := Unit) (fun x _ => R.2.1 = .inl x) (sm_T D tc ad R.2.2) (va_A (sm_W tc ad M) s.heap.size)) ([.inr (.inr (9, 0, 0)), .inl p1, .inr (.inr (30, 0, 1))].map (sm_t ad)).toArray s 1 6 (va_A (sm_W tc ad M) s.heap.size))) 4 [(0, .inr (.inr (9, 0, 0))), (1, .inl p1), (2, .inr (.inr (30, 0, 1)))] [.inl p1, .inr (.inr (9, 0, 0)), .inl 0, .inr (.inr (30, 0, 1))] M := by
    intro H locs la hP hS hl
    obtain ⟨q0, hq0, hw0⟩ := sm_W_at (tc := tc) (ad := ad) M (r := (9, 0, 0)) (by decide +kernel)
    rw [sm_ce_o] at hw0
    have hrecv := va_recv hK hP (ci := 9) rfl hw0
    have hpre := sm_preX hK hD (fun q h => Or.inr h) hN hPT hS hP ([.inr (.inr (9, 0, 0)), .inl p1].map (sm_t ad))
    obtain ⟨g1, g2, g3, g4, g5⟩ := sm_mb_spec (sm_mb_all kTop_place (by decide))
    have g5 : Cond.instanceMethod (lt_y kTop_place) ∈ lw_g ∧ Cond.selects (lt_y kTop_place).cls (lt_y kTop_place) (lt_y kTop_place) ∈ lw_g := by
      rcases g5 with ⟨q, -⟩ | ⟨-, q1, q2, -⟩
      · exact absurd q (by decide +kernel)
      · exact ⟨q1, q2⟩
    have hw1 : Cond.methodLink RL 66 (lt_y kTop_place) ∈ lw_g := sm_wd_in (i := 1314) (by decide +kernel)
    have hrun := vx_runV (p := p) (l := l) (e := e) (R := (headSpec (Cond.codeWith (lt_y kLaw_place) (lt_b kLaw_place) (lt_n kLaw_place) (some .int) [(0, 9, 12, 13), (0, 9, 15, 17)] :: lw_g) (sm_rmW kLaw_place)).room) (below := below) (meth := meth) (locs := locs) (cells := 0) (slots := 0) (As := ([.inl p1] : List sm_v).map (sm_t ad)) (rest := ([.inl 0, .inr (.inr (30, 0, 1))] : List sm_v).map (sm_t ad)) (b := ad (9, 0, 0)) (n := 1) (index := 66) (C := RX9) (g := F0 m 4 la (([.inl p1, .inr (.inr (9, 0, 0)), .inl 0, .inr (.inr (30, 0, 1))] : List sm_v).map (sm_t ad))) ⟨hx, hb, hml, hown, hts⟩ (hM H.size)
      ⟨callB_of 1 hts (lw_g_in (fun w hw => by rcases List.mem_cons.mp hw with rfl | hw; exact g4; exact hw)) rfl rfl rfl (hts _ g3) (hts _ hw1) ⟨g2.1, g2.2, by decide +kernel⟩ ⟨by decide +kernel, by decide +kernel⟩, hts _ g5.1, hts _ g5.2⟩
      ⟨hpre.1, hrecv, hpre.2⟩ rfl rfl hl.1 rfl (lv_room (Nat.le_of_ble_eq_true rfl)) (show decode cL_place 4 = .ok (.invokevirtual 66, 3) by decide +kernel) ⟨Nat.le_refl _, Nat.le_refl _⟩
    have hF := sm_freeA hD (fun q h => Or.inr h) hS M
    refine vx_calli (S := Unit) (SX := Unit) (a := ([.inr (.inr (9, 0, 0)), .inl p1].map (sm_t ad)).toArray) hrun hS (fun q _ h => hF q h) hF (fun q _ h => hF q h) (fun E ce q9 u t H1 locs1 ht hvm hpx hBX hz hk hS1 hce hcv hcl => ?_) (fun rv u t H1 locs1 ht hvm hw hB hz1 hk1 hS1 => ?_)
    · obtain ⟨⟨ex, hex1, rfl⟩, hP1⟩ := hBX
      rw [ht] at hP1
      obtain ⟨r0, rv, rM⟩ := r
      have hex1 : r0 = ex + 1 := hex1
      subst hex1
      have hR1 : R = (0, .inl (nI ([1, 0, 2].getD ex 0)), rM) := (Option.some.inj (show some ((0, .inl (nI ([1, 0, 2].getD ex 0)), rM) : sm_R) = some R by rw [← hR]; rfl)).symm
      have hre2 : ex = 0 ∨ ex = 2 := by
        rcases hre with h | h | h
        · exact absurd h (Nat.succ_ne_zero _)
        · exact Or.inl (Nat.succ.inj h)
        · exact Or.inr ((Nat.succ.inj h))
      rcases hre2 with rfl | rfl
      · refine sm_catch (ex := 0) hown hts hPT.1 hNc (by decide) [] (0, 9, 12, 13) [(0, 9, 15, 17)] htab (fun y hy => by cases hy) rfl ⟨by decide, by decide⟩ hce hcv hcl ?_
        refine lv_astore_n (lv' := _) (i := 3) hx hb (show decode cL_place 12 = .ok (.astore_n 3, 1) by decide +kernel) rfl hl (by decide) rfl (fun la hl => ?_)
        refine lv_iconst (v := 1) hx hb (show decode cL_place 13 = .ok (.iconst 1, 1) by decide +kernel) (by decide) ?_
        exact W.iret hx hb hret (fun t ht hW => ⟨⟨1, (), rfl, by rw [hR1]; rfl, by show va_P _ _ _ t.heap; rw [ht, hR1]; exact hP1⟩, hS1.F ht⟩) hS1.2.2 (show decode cL_place 14 = .ok (.ireturn, 1) by decide +kernel)
      · refine sm_catch (ex := 2) hown hts hPT.1 hNc (by decide) [(0, 9, 12, 13)] (0, 9, 15, 17) [] htab (fun y hy => by simp only [List.mem_cons, List.not_mem_nil, or_false] at hy; rcases hy with rfl; exact ⟨0, by decide, by decide, rfl⟩) rfl ⟨by decide, by decide⟩ hce hcv hcl ?_
        refine lv_astore_n (lv' := _) (i := 3) hx hb (show decode cL_place 15 = .ok (.astore_n 3, 1) by decide +kernel) rfl hl (by decide) rfl (fun la hl => ?_)
        refine lv_iconst (v := 2) hx hb (show decode cL_place 16 = .ok (.iconst 2, 1) by decide +kernel) (by decide) ?_
        exact W.iret hx hb hret (fun t ht hW => ⟨⟨2, (), rfl, by rw [hR1]; rfl, by show va_P _ _ _ t.heap; rw [ht, hR1]; exact hP1⟩, hS1.F ht⟩) hS1.2.2 (show decode cL_place 17 = .ok (.ireturn, 1) by decide +kernel)
    · obtain ⟨hw1, hw2⟩ := hw
      have hP1 : va_P D vwCl (sm_W tc ad r.2.2) t.heap := hB
      rw [ht] at hP1
      obtain ⟨r0, rv0, rM⟩ := r
      have hw1 : r0 = 0 := hw1
      have hw2 : rv0 = .inl rv := hw2
      subst hw1; subst hw2
      have hR1 : R = (0, .inl 0, sm_w rM 30 0 1 0 rv.toInt64) := (Option.some.inj (show some ((0, .inl 0, sm_w rM 30 0 1 0 rv.toInt64) : sm_R) = some R by rw [← hR]; rfl)).symm
      have k2 := (sm_s1_ok X (i := (.i2l, [], [])) (len := 1) (pc := 7) (ls := [(0, .inr (.inr (9, 0, 0))), (1, .inl p1), (2, .inr (.inr (30, 0, 1)))]) (st := [.inl rv, .inl 0, .inr (.inr (30, 0, 1))]) (by decide +kernel) (by decide +kernel) rfl okl (sm_oks_c.mpr ⟨trivial, sm_oks_c.mpr ⟨trivial, sm_oks_c.mpr ⟨oo, on⟩⟩⟩)).2 (kst rM rv.toInt64 hR1)
      exact k2 H1 locs1 la hP1 hS1 hl
  have k_3 := (sm_s1_ok X (i := (.iload_n 1, [], [])) (len := 1) (pc := 3) (ls := [(0, .inr (.inr (9, 0, 0))), (1, .inl p1), (2, .inr (.inr (30, 0, 1)))]) (st := [.inr (.inr (9, 0, 0)), .inl 0, .inr (.inr (30, 0, 1))]) (by decide +kernel) (by decide +kernel) rfl okl (sm_oks_c.mpr ⟨ox, (sm_oks_c.mpr ⟨trivial, (sm_oks_c.mpr ⟨oo, on⟩)⟩)⟩)).2 kcall
  have k_2 := (sm_s1_ok X (i := (.aload_n 0, [], [])) (len := 1) (pc := 2) (ls := [(0, .inr (.inr (9, 0, 0))), (1, .inl p1), (2, .inr (.inr (30, 0, 1)))]) (st := [.inl 0, .inr (.inr (30, 0, 1))]) (by decide +kernel) (by decide +kernel) rfl okl (sm_oks_c.mpr ⟨trivial, (sm_oks_c.mpr ⟨oo, on⟩)⟩)).2 k_3
  have k_1 := (sm_s1_ok X (i := (.iconst 0, [.inl (0 : Int32)], [])) (len := 1) (pc := 1) (ls := [(0, .inr (.inr (9, 0, 0))), (1, .inl p1), (2, .inr (.inr (30, 0, 1)))]) (st := [.inr (.inr (30, 0, 1))]) (by decide +kernel) (by decide +kernel) rfl okl (sm_oks_c.mpr ⟨oo, on⟩)).2 k_2
  have k_0 := (sm_s1_ok X (i := (.aload_n 2, [], [])) (len := 1) (pc := 0) (ls := [(0, .inr (.inr (9, 0, 0))), (1, .inl p1), (2, .inr (.inr (30, 0, 1)))]) (st := []) (by decide +kernel) (by decide +kernel) rfl okl on).2 k_1
  exact k_0 s.heap [] _ hP va_S.rf hl
set_option maxHeartbeats 4000000 in
theorem wr_value {l : Launch} {D : va_G} {tc : Nat → ClassId} {ad : Nat × Nat × Nat → Nat} {M : sm_M} {r R : sm_R} (p1 : Int32) (p2 : Int32) (hM : sm_MetX l D tc ad kTop_value [.inr (.inr (9, 0, 0)), .inl p1, .inl p2] M r) (hre : r.1 = 0 ∨ r.1 = 1 ∨ r.1 = 3) (hR : sm_wr1 (kTop_value, 0, [1, 0, 2]) (some (.inr (.inr (30, 0, 1)))) (some r) = some R) : sm_MetW l D tc ad kLaw_value [(0, 10, 13, 13), (0, 10, 17, 17)] [.inr (.inr (9, 0, 0)), .inl p1, .inl p2, .inr (.inr (30, 0, 1))] M R := by
  intro sz
  refine va_MetW (cc := cL_value) (maxL := 5) (ret := some .int) (by decide +kernel) rfl ?_
  intro p e s m args below meth c s₁ B hml hv
  obtain ⟨rfl, ⟨⟨hsz, hP, hK, hD0, hN⟩, hPT⟩, hNc⟩ := hv
  have hx := B.exec
  have hb := B.bytes
  have hret := B.returns
  have hts0 := atoms_spec (ws := Cond.codeWith (lt_y kLaw_value) (lt_b kLaw_value) (lt_n kLaw_value) (some .int) [(0, 10, 13, 13), (0, 10, 17, 17)] :: lw_g) B.pre
  have hown : s.vm.findClass RL = some m.cls := findClass_of_methodNamed B.named
  have hlocks := B.notSynchronized
  have htab := vx_table (x := yL_law) B (hts0 _ List.mem_cons_self)
  subst hsz
  have hD := sm_D_all (D := D) (sz := s.heap.size) hD0
  have hts : ∀ w ∈ lw_g, w.before ([.inr (.inr (9, 0, 0)), .inl p1, .inl p2, .inr (.inr (30, 0, 1))].map (sm_t ad)).toArray s = true := fun w hw => hts0 w (List.mem_cons_of_mem _ hw)
  have X : sm_Cx p s m ([.inr (.inr (9, 0, 0)), .inl p1, .inl p2, .inr (.inr (30, 0, 1))].map (sm_t ad)).toArray c cL_value 5 RL D tc ad (va_A (sm_W tc ad M) s.heap.size) s.heap (0, fun _ => 0) false := ⟨hx, hb, hml, hown, hts, hK, hD, hN, fun q h => Or.inr h, fun h => by cases h⟩
  have hl := lv_entry ([.inr (.inr (9, 0, 0)), .inl p1, .inl p2, .inr (.inr (30, 0, 1))].map (sm_t ad)) (n := 5) (by rw [lg_sl_len]; exact Nat.le_of_ble_eq_true rfl)
  rw [lg_entry_eq]
  rw [lv_args_ent] at hl
  have ox : sm_ok false (.inr (.inr (9, 0, 0))) := Or.inl (by decide +kernel)
  have oo : sm_ok false (.inr (.inr (30, 0, 1))) := Or.inl (by decide +kernel)
  have on : sm_oks false [] := fun v hv => by cases hv
  have okl : sm_okl false [(0, .inr (.inr (9, 0, 0))), (1, .inl p1), (2, .inl p2), (3, .inr (.inr (30, 0, 1)))] := by
    intro q hq
    simp only [List.mem_cons, List.not_mem_nil, or_false] at hq
    rcases hq with rfl | rfl | rfl | rfl
    · exact ox
    · trivial
    · trivial
    · exact oo
  -- the end
  have kend : ∀ M1, R = (0, .inl 0, M1) → sm_SW D tc ad (va_A (sm_W tc ad M) s.heap.size) s.heap 5 (sm_KW p l e (headSpec (Cond.codeWith (lt_y kLaw_value) (lt_b kLaw_value) (lt_n kLaw_value) (some .int) [(0, 10, 13, 13), (0, 10, 17, 17)] :: lw_g) (sm_rmW kLaw_value)).room s m ([.inr (.inr (9, 0, 0)), .inl p1, .inl p2, .inr (.inr (30, 0, 1))].map (sm_t ad)).toArray below meth c 1 6 (MQ below (va_Qi (S := Unit) (fun x _ => R.2.1 = .inl x) (sm_T D tc ad R.2.2) (va_A (sm_W tc ad M) s.heap.size)) ([.inr (.inr (9, 0, 0)), .inl p1, .inl p2, .inr (.inr (30, 0, 1))].map (sm_t ad)).toArray s 1 6 (va_A (sm_W tc ad M) s.heap.size))) 21 [(0, .inr (.inr (9, 0, 0))), (1, .inl p1), (2, .inl p2), (3, .inr (.inr (30, 0, 1)))] [] M1 := by
    intro M1 hR1
    subst hR1
    refine (sm_s1_ok X (i := (.iconst 0, [.inl (0 : Int32)], [])) (len := 1) (ls := [(0, .inr (.inr (9, 0, 0))), (1, .inl p1), (2, .inl p2), (3, .inr (.inr (30, 0, 1)))]) (st := []) (by decide +kernel) (by decide +kernel) rfl okl on).2 ?_
    intro H locs la hP hS hl
    exact W.iret hx hb hret (fun t ht hW => ⟨⟨0, (), rfl, rfl, by show va_P _ _ _ t.heap; rw [ht]; exact hP⟩, hS.F ht⟩) hS.2.2 (by decide +kernel)
  have kst : ∀ (M1 : sm_M) (v : Int64), R = (0, .inl 0, sm_w M1 30 0 1 0 v) → sm_SW D tc ad (va_A (sm_W tc ad M) s.heap.size) s.heap 5 (sm_KW p l e (headSpec (Cond.codeWith (lt_y kLaw_value) (lt_b kLaw_value) (lt_n kLaw_value) (some .int) [(0, 10, 13, 13), (0, 10, 17, 17)] :: lw_g) (sm_rmW kLaw_value)).room s m ([.inr (.inr (9, 0, 0)), .inl p1, .inl p2, .inr (.inr (30, 0, 1))].map (sm_t ad)).toArray below meth c 1 6 (MQ below (va_Qi (S := Unit) (fun x _ => R.2.1 = .inl x) (sm_T D tc ad R.2.2) (va_A (sm_W tc ad M) s.heap.size)) ([.inr (.inr (9, 0, 0)), .inl p1, .inl p2, .inr (.inr (30, 0, 1))].map (sm_t ad)).toArray s 1 6 (va_A (sm_W tc ad M) s.heap.size))) 9 [(0, .inr (.inr (9, 0, 0))), (1, .inl p1), (2, .inl p2), (3, .inr (.inr (30, 0, 1)))] [.inr (.inl v), .inl 0, .inr (.inr (30, 0, 1))] M1 := by
    intro M1 v hR1
    refine (sm_s1_ok X (i := (.lastore, [], [])) (len := 1) (ls := [(0, .inr (.inr (9, 0, 0))), (1, .inl p1), (2, .inl p2), (3, .inr (.inr (30, 0, 1)))]) (st := [.inr (.inl v), .inl 0, .inr (.inr (30, 0, 1))]) (ls' := [(0, .inr (.inr (9, 0, 0))), (1, .inl p1), (2, .inl p2), (3, .inr (.inr (30, 0, 1)))]) (st' := []) (M' := sm_w M1 30 0 1 0 v) (by decide +kernel) (by decide +kernel) rfl okl (sm_oks_c.mpr ⟨trivial, sm_oks_c.mpr ⟨trivial, sm_oks_c.mpr ⟨oo, on⟩⟩⟩)).2 ?_
    intro H locs la hP hS hl
    exact lv_goto (tgt := 21) hx hb (pc := 10) (off := 11) (by decide +kernel) (by decide) (kend _ hR1 H locs la hP hS hl)
  have kcall : sm_SW D tc ad (va_A (sm_W tc ad M) s.heap.size) s.heap 5 (sm_KW p l e (headSpec (Cond.codeWith (lt_y kLaw_value) (lt_b kLaw_value) (lt_n kLaw_value) (some .int) [(0, 10, 13, 13), (0, 10, 17, 17)] :: lw_g) (sm_rmW kLaw_value)).room s m ([.inr (.inr (9, 0, 0)), .inl p1, .inl p2, .inr (.inr (30, 0, 1))].map (sm_t ad)).toArray below meth c 0 0 (MQ below (va_Qi (S := Unit) (fun x _ => R.2.1 = .inl x) (sm_T D tc ad R.2.2) (va_A (sm_W tc ad M) s.heap.size)) ([.inr (.inr (9, 0, 0)), .inl p1, .inl p2, .inr (.inr (30, 0, 1))].map (sm_t ad)).toArray s 1 6 (va_A (sm_W tc ad M) s.heap.size))) 5 [(0, .inr (.inr (9, 0, 0))), (1, .inl p1), (2, .inl p2), (3, .inr (.inr (30, 0, 1)))] [.inl p2, .inl p1, .inr (.inr (9, 0, 0)), .inl 0, .inr (.inr (30, 0, 1))] M := by
    intro H locs la hP hS hl
    obtain ⟨q0, hq0, hw0⟩ := sm_W_at (tc := tc) (ad := ad) M (r := (9, 0, 0)) (by decide +kernel)
    rw [sm_ce_o] at hw0
    have hrecv := va_recv hK hP (ci := 9) rfl hw0
    have hpre := sm_preX hK hD (fun q h => Or.inr h) hN hPT hS hP ([.inr (.inr (9, 0, 0)), .inl p1, .inl p2].map (sm_t ad))
    obtain ⟨g1, g2, g3, g4, g5⟩ := sm_mb_spec (sm_mb_all kTop_value (by decide))
    have g5 : Cond.instanceMethod (lt_y kTop_value) ∈ lw_g ∧ Cond.selects (lt_y kTop_value).cls (lt_y kTop_value) (lt_y kTop_value) ∈ lw_g := by
      rcases g5 with ⟨q, -⟩ | ⟨-, q1, q2, -⟩
      · exact absurd q (by decide +kernel)
      · exact ⟨q1, q2⟩
    have hw1 : Cond.methodLink RL 69 (lt_y kTop_value) ∈ lw_g := sm_wd_in (i := 1322) (by decide +kernel)
    have hrun := vx_runV (p := p) (l := l) (e := e) (R := (headSpec (Cond.codeWith (lt_y kLaw_value) (lt_b kLaw_value) (lt_n kLaw_value) (some .int) [(0, 10, 13, 13), (0, 10, 17, 17)] :: lw_g) (sm_rmW kLaw_value)).room) (below := below) (meth := meth) (locs := locs) (cells := 0) (slots := 0) (As := ([.inl p1, .inl p2] : List sm_v).map (sm_t ad)) (rest := ([.inl 0, .inr (.inr (30, 0, 1))] : List sm_v).map (sm_t ad)) (b := ad (9, 0, 0)) (n := 2) (index := 69) (C := RX9) (g := F0 m 5 la (([.inl p2, .inl p1, .inr (.inr (9, 0, 0)), .inl 0, .inr (.inr (30, 0, 1))] : List sm_v).map (sm_t ad))) ⟨hx, hb, hml, hown, hts⟩ (hM H.size)
      ⟨callB_of 2 hts (lw_g_in (fun w hw => by rcases List.mem_cons.mp hw with rfl | hw; exact g4; exact hw)) rfl rfl rfl (hts _ g3) (hts _ hw1) ⟨g2.1, g2.2, by decide +kernel⟩ ⟨by decide +kernel, by decide +kernel⟩, hts _ g5.1, hts _ g5.2⟩
      ⟨hpre.1, hrecv, hpre.2⟩ rfl rfl hl.1 rfl (lv_room (Nat.le_of_ble_eq_true rfl)) (show decode cL_value 5 = .ok (.invokevirtual 69, 3) by decide +kernel) ⟨Nat.le_refl _, Nat.le_refl _⟩
    have hF := sm_freeA hD (fun q h => Or.inr h) hS M
    refine vx_calli (S := Unit) (SX := Unit) (a := ([.inr (.inr (9, 0, 0)), .inl p1, .inl p2].map (sm_t ad)).toArray) hrun hS (fun q _ h => hF q h) hF (fun q _ h => hF q h) (fun E ce q9 u t H1 locs1 ht hvm hpx hBX hz hk hS1 hce hcv hcl => ?_) (fun rv u t H1 locs1 ht hvm hw hB hz1 hk1 hS1 => ?_)
    · obtain ⟨⟨ex, hex1, rfl⟩, hP1⟩ := hBX
      rw [ht] at hP1
      obtain ⟨r0, rv, rM⟩ := r
      have hex1 : r0 = ex + 1 := hex1
      subst hex1
      have hR1 : R = (0, .inl (nI ([1, 0, 2].getD ex 0)), rM) := (Option.some.inj (show some ((0, .inl (nI ([1, 0, 2].getD ex 0)), rM) : sm_R) = some R by rw [← hR]; rfl)).symm
      have hre2 : ex = 0 ∨ ex = 2 := by
        rcases hre with h | h | h
        · exact absurd h (Nat.succ_ne_zero _)
        · exact Or.inl (Nat.succ.inj h)
        · exact Or.inr ((Nat.succ.inj h))
      rcases hre2 with rfl | rfl
      · refine sm_catch (ex := 0) hown hts hPT.1 hNc (by decide) [] (0, 10, 13, 13) [(0, 10, 17, 17)] htab (fun y hy => by cases hy) rfl ⟨by decide, by decide⟩ hce hcv hcl ?_
        refine lv_astore (lv' := _) (i := 4) hx hb (show decode cL_value 13 = .ok (.astore 4, 2) by decide +kernel) hl (by decide) rfl (fun la hl => ?_)
        refine lv_iconst (v := 1) hx hb (show decode cL_value 15 = .ok (.iconst 1, 1) by decide +kernel) (by decide) ?_
        exact W.iret hx hb hret (fun t ht hW => ⟨⟨1, (), rfl, by rw [hR1]; rfl, by show va_P _ _ _ t.heap; rw [ht, hR1]; exact hP1⟩, hS1.F ht⟩) hS1.2.2 (show decode cL_value 16 = .ok (.ireturn, 1) by decide +kernel)
      · refine sm_catch (ex := 2) hown hts hPT.1 hNc (by decide) [(0, 10, 13, 13)] (0, 10, 17, 17) [] htab (fun y hy => by simp only [List.mem_cons, List.not_mem_nil, or_false] at hy; rcases hy with rfl; exact ⟨0, by decide, by decide, rfl⟩) rfl ⟨by decide, by decide⟩ hce hcv hcl ?_
        refine lv_astore (lv' := _) (i := 4) hx hb (show decode cL_value 17 = .ok (.astore 4, 2) by decide +kernel) hl (by decide) rfl (fun la hl => ?_)
        refine lv_iconst (v := 2) hx hb (show decode cL_value 19 = .ok (.iconst 2, 1) by decide +kernel) (by decide) ?_
        exact W.iret hx hb hret (fun t ht hW => ⟨⟨2, (), rfl, by rw [hR1]; rfl, by show va_P _ _ _ t.heap; rw [ht, hR1]; exact hP1⟩, hS1.F ht⟩) hS1.2.2 (show decode cL_value 20 = .ok (.ireturn, 1) by decide +kernel)
    · obtain ⟨hw1, hw2⟩ := hw
      have hP1 : va_P D vwCl (sm_W tc ad r.2.2) t.heap := hB
      rw [ht] at hP1
      obtain ⟨r0, rv0, rM⟩ := r
      have hw1 : r0 = 0 := hw1
      have hw2 : rv0 = .inl rv := hw2
      subst hw1; subst hw2
      have hR1 : R = (0, .inl 0, sm_w rM 30 0 1 0 rv.toInt64) := (Option.some.inj (show some ((0, .inl 0, sm_w rM 30 0 1 0 rv.toInt64) : sm_R) = some R by rw [← hR]; rfl)).symm
      have k2 := (sm_s1_ok X (i := (.i2l, [], [])) (len := 1) (pc := 8) (ls := [(0, .inr (.inr (9, 0, 0))), (1, .inl p1), (2, .inl p2), (3, .inr (.inr (30, 0, 1)))]) (st := [.inl rv, .inl 0, .inr (.inr (30, 0, 1))]) (by decide +kernel) (by decide +kernel) rfl okl (sm_oks_c.mpr ⟨trivial, sm_oks_c.mpr ⟨trivial, sm_oks_c.mpr ⟨oo, on⟩⟩⟩)).2 (kst rM rv.toInt64 hR1)
      exact k2 H1 locs1 la hP1 hS1 hl
  have k_4 := (sm_s1_ok X (i := (.iload_n 2, [], [])) (len := 1) (pc := 4) (ls := [(0, .inr (.inr (9, 0, 0))), (1, .inl p1), (2, .inl p2), (3, .inr (.inr (30, 0, 1)))]) (st := [.inl p1, .inr (.inr (9, 0, 0)), .inl 0, .inr (.inr (30, 0, 1))]) (by decide +kernel) (by decide +kernel) rfl okl (sm_oks_c.mpr ⟨trivial, (sm_oks_c.mpr ⟨ox, (sm_oks_c.mpr ⟨trivial, (sm_oks_c.mpr ⟨oo, on⟩)⟩)⟩)⟩)).2 kcall
  have k_3 := (sm_s1_ok X (i := (.iload_n 1, [], [])) (len := 1) (pc := 3) (ls := [(0, .inr (.inr (9, 0, 0))), (1, .inl p1), (2, .inl p2), (3, .inr (.inr (30, 0, 1)))]) (st := [.inr (.inr (9, 0, 0)), .inl 0, .inr (.inr (30, 0, 1))]) (by decide +kernel) (by decide +kernel) rfl okl (sm_oks_c.mpr ⟨ox, (sm_oks_c.mpr ⟨trivial, (sm_oks_c.mpr ⟨oo, on⟩)⟩)⟩)).2 k_4
  have k_2 := (sm_s1_ok X (i := (.aload_n 0, [], [])) (len := 1) (pc := 2) (ls := [(0, .inr (.inr (9, 0, 0))), (1, .inl p1), (2, .inl p2), (3, .inr (.inr (30, 0, 1)))]) (st := [.inl 0, .inr (.inr (30, 0, 1))]) (by decide +kernel) (by decide +kernel) rfl okl (sm_oks_c.mpr ⟨trivial, (sm_oks_c.mpr ⟨oo, on⟩)⟩)).2 k_3
  have k_1 := (sm_s1_ok X (i := (.iconst 0, [.inl (0 : Int32)], [])) (len := 1) (pc := 1) (ls := [(0, .inr (.inr (9, 0, 0))), (1, .inl p1), (2, .inl p2), (3, .inr (.inr (30, 0, 1)))]) (st := [.inr (.inr (30, 0, 1))]) (by decide +kernel) (by decide +kernel) rfl okl (sm_oks_c.mpr ⟨oo, on⟩)).2 k_2
  have k_0 := (sm_s1_ok X (i := (.aload_n 3, [], [])) (len := 1) (pc := 0) (ls := [(0, .inr (.inr (9, 0, 0))), (1, .inl p1), (2, .inl p2), (3, .inr (.inr (30, 0, 1)))]) (st := []) (by decide +kernel) (by decide +kernel) rfl okl on).2 k_1
  exact k_0 s.heap [] _ hP va_S.rf hl
set_option maxHeartbeats 4000000 in
theorem wr_waiting {l : Launch} {D : va_G} {tc : Nat → ClassId} {ad : Nat × Nat × Nat → Nat} {M : sm_M} {r R : sm_R} (p1 : Int32) (p2 : Int32) (hM : sm_MetX l D tc ad kTop_waiting [.inr (.inr (9, 0, 0)), .inl p1, .inl p2] M r) (hre : r.1 = 0 ∨ r.1 = 1 ∨ r.1 = 3) (hR : sm_wr1 (kTop_waiting, 0, [1, 0, 2]) (some (.inr (.inr (30, 0, 1)))) (some r) = some R) : sm_MetW l D tc ad kLaw_waiting [(0, 10, 13, 13), (0, 10, 17, 17)] [.inr (.inr (9, 0, 0)), .inl p1, .inl p2, .inr (.inr (30, 0, 1))] M R := by
  intro sz
  refine va_MetW (cc := cL_waiting) (maxL := 5) (ret := some .int) (by decide +kernel) rfl ?_
  intro p e s m args below meth c s₁ B hml hv
  obtain ⟨rfl, ⟨⟨hsz, hP, hK, hD0, hN⟩, hPT⟩, hNc⟩ := hv
  have hx := B.exec
  have hb := B.bytes
  have hret := B.returns
  have hts0 := atoms_spec (ws := Cond.codeWith (lt_y kLaw_waiting) (lt_b kLaw_waiting) (lt_n kLaw_waiting) (some .int) [(0, 10, 13, 13), (0, 10, 17, 17)] :: lw_g) B.pre
  have hown : s.vm.findClass RL = some m.cls := findClass_of_methodNamed B.named
  have hlocks := B.notSynchronized
  have htab := vx_table (x := yL_law) B (hts0 _ List.mem_cons_self)
  subst hsz
  have hD := sm_D_all (D := D) (sz := s.heap.size) hD0
  have hts : ∀ w ∈ lw_g, w.before ([.inr (.inr (9, 0, 0)), .inl p1, .inl p2, .inr (.inr (30, 0, 1))].map (sm_t ad)).toArray s = true := fun w hw => hts0 w (List.mem_cons_of_mem _ hw)
  have X : sm_Cx p s m ([.inr (.inr (9, 0, 0)), .inl p1, .inl p2, .inr (.inr (30, 0, 1))].map (sm_t ad)).toArray c cL_waiting 5 RL D tc ad (va_A (sm_W tc ad M) s.heap.size) s.heap (0, fun _ => 0) false := ⟨hx, hb, hml, hown, hts, hK, hD, hN, fun q h => Or.inr h, fun h => by cases h⟩
  have hl := lv_entry ([.inr (.inr (9, 0, 0)), .inl p1, .inl p2, .inr (.inr (30, 0, 1))].map (sm_t ad)) (n := 5) (by rw [lg_sl_len]; exact Nat.le_of_ble_eq_true rfl)
  rw [lg_entry_eq]
  rw [lv_args_ent] at hl
  have ox : sm_ok false (.inr (.inr (9, 0, 0))) := Or.inl (by decide +kernel)
  have oo : sm_ok false (.inr (.inr (30, 0, 1))) := Or.inl (by decide +kernel)
  have on : sm_oks false [] := fun v hv => by cases hv
  have okl : sm_okl false [(0, .inr (.inr (9, 0, 0))), (1, .inl p1), (2, .inl p2), (3, .inr (.inr (30, 0, 1)))] := by
    intro q hq
    simp only [List.mem_cons, List.not_mem_nil, or_false] at hq
    rcases hq with rfl | rfl | rfl | rfl
    · exact ox
    · trivial
    · trivial
    · exact oo
  -- the end
  have kend : ∀ M1, R = (0, .inl 0, M1) → sm_SW D tc ad (va_A (sm_W tc ad M) s.heap.size) s.heap 5 (sm_KW p l e (headSpec (Cond.codeWith (lt_y kLaw_waiting) (lt_b kLaw_waiting) (lt_n kLaw_waiting) (some .int) [(0, 10, 13, 13), (0, 10, 17, 17)] :: lw_g) (sm_rmW kLaw_waiting)).room s m ([.inr (.inr (9, 0, 0)), .inl p1, .inl p2, .inr (.inr (30, 0, 1))].map (sm_t ad)).toArray below meth c 1 6 (MQ below (va_Qi (S := Unit) (fun x _ => R.2.1 = .inl x) (sm_T D tc ad R.2.2) (va_A (sm_W tc ad M) s.heap.size)) ([.inr (.inr (9, 0, 0)), .inl p1, .inl p2, .inr (.inr (30, 0, 1))].map (sm_t ad)).toArray s 1 6 (va_A (sm_W tc ad M) s.heap.size))) 21 [(0, .inr (.inr (9, 0, 0))), (1, .inl p1), (2, .inl p2), (3, .inr (.inr (30, 0, 1)))] [] M1 := by
    intro M1 hR1
    subst hR1
    refine (sm_s1_ok X (i := (.iconst 0, [.inl (0 : Int32)], [])) (len := 1) (ls := [(0, .inr (.inr (9, 0, 0))), (1, .inl p1), (2, .inl p2), (3, .inr (.inr (30, 0, 1)))]) (st := []) (by decide +kernel) (by decide +kernel) rfl okl on).2 ?_
    intro H locs la hP hS hl
    exact W.iret hx hb hret (fun t ht hW => ⟨⟨0, (), rfl, rfl, by show va_P _ _ _ t.heap; rw [ht]; exact hP⟩, hS.F ht⟩) hS.2.2 (by decide +kernel)
  have kst : ∀ (M1 : sm_M) (v : Int64), R = (0, .inl 0, sm_w M1 30 0 1 0 v) → sm_SW D tc ad (va_A (sm_W tc ad M) s.heap.size) s.heap 5 (sm_KW p l e (headSpec (Cond.codeWith (lt_y kLaw_waiting) (lt_b kLaw_waiting) (lt_n kLaw_waiting) (some .int) [(0, 10, 13, 13), (0, 10, 17, 17)] :: lw_g) (sm_rmW kLaw_waiting)).room s m ([.inr (.inr (9, 0, 0)), .inl p1, .inl p2, .inr (.inr (30, 0, 1))].map (sm_t ad)).toArray below meth c 1 6 (MQ below (va_Qi (S := Unit) (fun x _ => R.2.1 = .inl x) (sm_T D tc ad R.2.2) (va_A (sm_W tc ad M) s.heap.size)) ([.inr (.inr (9, 0, 0)), .inl p1, .inl p2, .inr (.inr (30, 0, 1))].map (sm_t ad)).toArray s 1 6 (va_A (sm_W tc ad M) s.heap.size))) 9 [(0, .inr (.inr (9, 0, 0))), (1, .inl p1), (2, .inl p2), (3, .inr (.inr (30, 0, 1)))] [.inr (.inl v), .inl 0, .inr (.inr (30, 0, 1))] M1 := by
    intro M1 v hR1
    refine (sm_s1_ok X (i := (.lastore, [], [])) (len := 1) (ls := [(0, .inr (.inr (9, 0, 0))), (1, .inl p1), (2, .inl p2), (3, .inr (.inr (30, 0, 1)))]) (st := [.inr (.inl v), .inl 0, .inr (.inr (30, 0, 1))]) (ls' := [(0, .inr (.inr (9, 0, 0))), (1, .inl p1), (2, .inl p2), (3, .inr (.inr (30, 0, 1)))]) (st' := []) (M' := sm_w M1 30 0 1 0 v) (by decide +kernel) (by decide +kernel) rfl okl (sm_oks_c.mpr ⟨trivial, sm_oks_c.mpr ⟨trivial, sm_oks_c.mpr ⟨oo, on⟩⟩⟩)).2 ?_
    intro H locs la hP hS hl
    exact lv_goto (tgt := 21) hx hb (pc := 10) (off := 11) (by decide +kernel) (by decide) (kend _ hR1 H locs la hP hS hl)
  have kcall : sm_SW D tc ad (va_A (sm_W tc ad M) s.heap.size) s.heap 5 (sm_KW p l e (headSpec (Cond.codeWith (lt_y kLaw_waiting) (lt_b kLaw_waiting) (lt_n kLaw_waiting) (some .int) [(0, 10, 13, 13), (0, 10, 17, 17)] :: lw_g) (sm_rmW kLaw_waiting)).room s m ([.inr (.inr (9, 0, 0)), .inl p1, .inl p2, .inr (.inr (30, 0, 1))].map (sm_t ad)).toArray below meth c 0 0 (MQ below (va_Qi (S := Unit) (fun x _ => R.2.1 = .inl x) (sm_T D tc ad R.2.2) (va_A (sm_W tc ad M) s.heap.size)) ([.inr (.inr (9, 0, 0)), .inl p1, .inl p2, .inr (.inr (30, 0, 1))].map (sm_t ad)).toArray s 1 6 (va_A (sm_W tc ad M) s.heap.size))) 5 [(0, .inr (.inr (9, 0, 0))), (1, .inl p1), (2, .inl p2), (3, .inr (.inr (30, 0, 1)))] [.inl p2, .inl p1, .inr (.inr (9, 0, 0)), .inl 0, .inr (.inr (30, 0, 1))] M := by
    intro H locs la hP hS hl
    obtain ⟨q0, hq0, hw0⟩ := sm_W_at (tc := tc) (ad := ad) M (r := (9, 0, 0)) (by decide +kernel)
    rw [sm_ce_o] at hw0
    have hrecv := va_recv hK hP (ci := 9) rfl hw0
    have hpre := sm_preX hK hD (fun q h => Or.inr h) hN hPT hS hP ([.inr (.inr (9, 0, 0)), .inl p1, .inl p2].map (sm_t ad))
    obtain ⟨g1, g2, g3, g4, g5⟩ := sm_mb_spec (sm_mb_all kTop_waiting (by decide))
    have g5 : Cond.instanceMethod (lt_y kTop_waiting) ∈ lw_g ∧ Cond.selects (lt_y kTop_waiting).cls (lt_y kTop_waiting) (lt_y kTop_waiting) ∈ lw_g := by
      rcases g5 with ⟨q, -⟩ | ⟨-, q1, q2, -⟩
      · exact absurd q (by decide +kernel)
      · exact ⟨q1, q2⟩
    have hw1 : Cond.methodLink RL 72 (lt_y kTop_waiting) ∈ lw_g := sm_wd_in (i := 1331) (by decide +kernel)
    have hrun := vx_runV (p := p) (l := l) (e := e) (R := (headSpec (Cond.codeWith (lt_y kLaw_waiting) (lt_b kLaw_waiting) (lt_n kLaw_waiting) (some .int) [(0, 10, 13, 13), (0, 10, 17, 17)] :: lw_g) (sm_rmW kLaw_waiting)).room) (below := below) (meth := meth) (locs := locs) (cells := 0) (slots := 0) (As := ([.inl p1, .inl p2] : List sm_v).map (sm_t ad)) (rest := ([.inl 0, .inr (.inr (30, 0, 1))] : List sm_v).map (sm_t ad)) (b := ad (9, 0, 0)) (n := 2) (index := 72) (C := RX9) (g := F0 m 5 la (([.inl p2, .inl p1, .inr (.inr (9, 0, 0)), .inl 0, .inr (.inr (30, 0, 1))] : List sm_v).map (sm_t ad))) ⟨hx, hb, hml, hown, hts⟩ (hM H.size)
      ⟨callB_of 2 hts (lw_g_in (fun w hw => by rcases List.mem_cons.mp hw with rfl | hw; exact g4; exact hw)) rfl rfl rfl (hts _ g3) (hts _ hw1) ⟨g2.1, g2.2, by decide +kernel⟩ ⟨by decide +kernel, by decide +kernel⟩, hts _ g5.1, hts _ g5.2⟩
      ⟨hpre.1, hrecv, hpre.2⟩ rfl rfl hl.1 rfl (lv_room (Nat.le_of_ble_eq_true rfl)) (show decode cL_waiting 5 = .ok (.invokevirtual 72, 3) by decide +kernel) ⟨Nat.le_refl _, Nat.le_refl _⟩
    have hF := sm_freeA hD (fun q h => Or.inr h) hS M
    refine vx_calli (S := Unit) (SX := Unit) (a := ([.inr (.inr (9, 0, 0)), .inl p1, .inl p2].map (sm_t ad)).toArray) hrun hS (fun q _ h => hF q h) hF (fun q _ h => hF q h) (fun E ce q9 u t H1 locs1 ht hvm hpx hBX hz hk hS1 hce hcv hcl => ?_) (fun rv u t H1 locs1 ht hvm hw hB hz1 hk1 hS1 => ?_)
    · obtain ⟨⟨ex, hex1, rfl⟩, hP1⟩ := hBX
      rw [ht] at hP1
      obtain ⟨r0, rv, rM⟩ := r
      have hex1 : r0 = ex + 1 := hex1
      subst hex1
      have hR1 : R = (0, .inl (nI ([1, 0, 2].getD ex 0)), rM) := (Option.some.inj (show some ((0, .inl (nI ([1, 0, 2].getD ex 0)), rM) : sm_R) = some R by rw [← hR]; rfl)).symm
      have hre2 : ex = 0 ∨ ex = 2 := by
        rcases hre with h | h | h
        · exact absurd h (Nat.succ_ne_zero _)
        · exact Or.inl (Nat.succ.inj h)
        · exact Or.inr ((Nat.succ.inj h))
      rcases hre2 with rfl | rfl
      · refine sm_catch (ex := 0) hown hts hPT.1 hNc (by decide) [] (0, 10, 13, 13) [(0, 10, 17, 17)] htab (fun y hy => by cases hy) rfl ⟨by decide, by decide⟩ hce hcv hcl ?_
        refine lv_astore (lv' := _) (i := 4) hx hb (show decode cL_waiting 13 = .ok (.astore 4, 2) by decide +kernel) hl (by decide) rfl (fun la hl => ?_)
        refine lv_iconst (v := 1) hx hb (show decode cL_waiting 15 = .ok (.iconst 1, 1) by decide +kernel) (by decide) ?_
        exact W.iret hx hb hret (fun t ht hW => ⟨⟨1, (), rfl, by rw [hR1]; rfl, by show va_P _ _ _ t.heap; rw [ht, hR1]; exact hP1⟩, hS1.F ht⟩) hS1.2.2 (show decode cL_waiting 16 = .ok (.ireturn, 1) by decide +kernel)
      · refine sm_catch (ex := 2) hown hts hPT.1 hNc (by decide) [(0, 10, 13, 13)] (0, 10, 17, 17) [] htab (fun y hy => by simp only [List.mem_cons, List.not_mem_nil, or_false] at hy; rcases hy with rfl; exact ⟨0, by decide, by decide, rfl⟩) rfl ⟨by decide, by decide⟩ hce hcv hcl ?_
        refine lv_astore (lv' := _) (i := 4) hx hb (show decode cL_waiting 17 = .ok (.astore 4, 2) by decide +kernel) hl (by decide) rfl (fun la hl => ?_)
        refine lv_iconst (v := 2) hx hb (show decode cL_waiting 19 = .ok (.iconst 2, 1) by decide +kernel) (by decide) ?_
        exact W.iret hx hb hret (fun t ht hW => ⟨⟨2, (), rfl, by rw [hR1]; rfl, by show va_P _ _ _ t.heap; rw [ht, hR1]; exact hP1⟩, hS1.F ht⟩) hS1.2.2 (show decode cL_waiting 20 = .ok (.ireturn, 1) by decide +kernel)
    · obtain ⟨hw1, hw2⟩ := hw
      have hP1 : va_P D vwCl (sm_W tc ad r.2.2) t.heap := hB
      rw [ht] at hP1
      obtain ⟨r0, rv0, rM⟩ := r
      have hw1 : r0 = 0 := hw1
      have hw2 : rv0 = .inl rv := hw2
      subst hw1; subst hw2
      have hR1 : R = (0, .inl 0, sm_w rM 30 0 1 0 rv.toInt64) := (Option.some.inj (show some ((0, .inl 0, sm_w rM 30 0 1 0 rv.toInt64) : sm_R) = some R by rw [← hR]; rfl)).symm
      have k2 := (sm_s1_ok X (i := (.i2l, [], [])) (len := 1) (pc := 8) (ls := [(0, .inr (.inr (9, 0, 0))), (1, .inl p1), (2, .inl p2), (3, .inr (.inr (30, 0, 1)))]) (st := [.inl rv, .inl 0, .inr (.inr (30, 0, 1))]) (by decide +kernel) (by decide +kernel) rfl okl (sm_oks_c.mpr ⟨trivial, sm_oks_c.mpr ⟨trivial, sm_oks_c.mpr ⟨oo, on⟩⟩⟩)).2 (kst rM rv.toInt64 hR1)
      exact k2 H1 locs1 la hP1 hS1 hl
  have k_4 := (sm_s1_ok X (i := (.iload_n 2, [], [])) (len := 1) (pc := 4) (ls := [(0, .inr (.inr (9, 0, 0))), (1, .inl p1), (2, .inl p2), (3, .inr (.inr (30, 0, 1)))]) (st := [.inl p1, .inr (.inr (9, 0, 0)), .inl 0, .inr (.inr (30, 0, 1))]) (by decide +kernel) (by decide +kernel) rfl okl (sm_oks_c.mpr ⟨trivial, (sm_oks_c.mpr ⟨ox, (sm_oks_c.mpr ⟨trivial, (sm_oks_c.mpr ⟨oo, on⟩)⟩)⟩)⟩)).2 kcall
  have k_3 := (sm_s1_ok X (i := (.iload_n 1, [], [])) (len := 1) (pc := 3) (ls := [(0, .inr (.inr (9, 0, 0))), (1, .inl p1), (2, .inl p2), (3, .inr (.inr (30, 0, 1)))]) (st := [.inr (.inr (9, 0, 0)), .inl 0, .inr (.inr (30, 0, 1))]) (by decide +kernel) (by decide +kernel) rfl okl (sm_oks_c.mpr ⟨ox, (sm_oks_c.mpr ⟨trivial, (sm_oks_c.mpr ⟨oo, on⟩)⟩)⟩)).2 k_4
  have k_2 := (sm_s1_ok X (i := (.aload_n 0, [], [])) (len := 1) (pc := 2) (ls := [(0, .inr (.inr (9, 0, 0))), (1, .inl p1), (2, .inl p2), (3, .inr (.inr (30, 0, 1)))]) (st := [.inl 0, .inr (.inr (30, 0, 1))]) (by decide +kernel) (by decide +kernel) rfl okl (sm_oks_c.mpr ⟨trivial, (sm_oks_c.mpr ⟨oo, on⟩)⟩)).2 k_3
  have k_1 := (sm_s1_ok X (i := (.iconst 0, [.inl (0 : Int32)], [])) (len := 1) (pc := 1) (ls := [(0, .inr (.inr (9, 0, 0))), (1, .inl p1), (2, .inl p2), (3, .inr (.inr (30, 0, 1)))]) (st := [.inr (.inr (30, 0, 1))]) (by decide +kernel) (by decide +kernel) rfl okl (sm_oks_c.mpr ⟨oo, on⟩)).2 k_2
  have k_0 := (sm_s1_ok X (i := (.aload_n 3, [], [])) (len := 1) (pc := 0) (ls := [(0, .inr (.inr (9, 0, 0))), (1, .inl p1), (2, .inl p2), (3, .inr (.inr (30, 0, 1)))]) (st := []) (by decide +kernel) (by decide +kernel) rfl okl on).2 k_1
  exact k_0 s.heap [] _ hP va_S.rf hl
set_option maxHeartbeats 4000000 in
theorem wr_dropped {l : Launch} {D : va_G} {tc : Nat → ClassId} {ad : Nat × Nat × Nat → Nat} {M : sm_M} {r R : sm_R} (p1 : Int32) (hM : sm_MetX l D tc ad kTop_dropped [.inr (.inr (9, 0, 0)), .inl p1] M r) (hre : r.1 = 0 ∨ r.1 = 1) (hR : sm_wr1 (kTop_dropped, 0, [1, 0, 0]) (some (.inr (.inr (30, 0, 1)))) (some r) = some R) : sm_MetW l D tc ad kLaw_dropped [(0, 9, 12, 13)] [.inr (.inr (9, 0, 0)), .inl p1, .inr (.inr (30, 0, 1))] M R := by
  intro sz
  refine va_MetW (cc := cL_dropped) (maxL := 4) (ret := some .int) (by decide +kernel) rfl ?_
  intro p e s m args below meth c s₁ B hml hv
  obtain ⟨rfl, ⟨⟨hsz, hP, hK, hD0, hN⟩, hPT⟩, hNc⟩ := hv
  have hx := B.exec
  have hb := B.bytes
  have hret := B.returns
  have hts0 := atoms_spec (ws := Cond.codeWith (lt_y kLaw_dropped) (lt_b kLaw_dropped) (lt_n kLaw_dropped) (some .int) [(0, 9, 12, 13)] :: lw_g) B.pre
  have hown : s.vm.findClass RL = some m.cls := findClass_of_methodNamed B.named
  have hlocks := B.notSynchronized
  have htab := vx_table (x := yL_law) B (hts0 _ List.mem_cons_self)
  subst hsz
  have hD := sm_D_all (D := D) (sz := s.heap.size) hD0
  have hts : ∀ w ∈ lw_g, w.before ([.inr (.inr (9, 0, 0)), .inl p1, .inr (.inr (30, 0, 1))].map (sm_t ad)).toArray s = true := fun w hw => hts0 w (List.mem_cons_of_mem _ hw)
  have X : sm_Cx p s m ([.inr (.inr (9, 0, 0)), .inl p1, .inr (.inr (30, 0, 1))].map (sm_t ad)).toArray c cL_dropped 4 RL D tc ad (va_A (sm_W tc ad M) s.heap.size) s.heap (0, fun _ => 0) false := ⟨hx, hb, hml, hown, hts, hK, hD, hN, fun q h => Or.inr h, fun h => by cases h⟩
  have hl := lv_entry ([.inr (.inr (9, 0, 0)), .inl p1, .inr (.inr (30, 0, 1))].map (sm_t ad)) (n := 4) (by rw [lg_sl_len]; exact Nat.le_of_ble_eq_true rfl)
  rw [lg_entry_eq]
  rw [lv_args_ent] at hl
  have ox : sm_ok false (.inr (.inr (9, 0, 0))) := Or.inl (by decide +kernel)
  have oo : sm_ok false (.inr (.inr (30, 0, 1))) := Or.inl (by decide +kernel)
  have on : sm_oks false [] := fun v hv => by cases hv
  have okl : sm_okl false [(0, .inr (.inr (9, 0, 0))), (1, .inl p1), (2, .inr (.inr (30, 0, 1)))] := by
    intro q hq
    simp only [List.mem_cons, List.not_mem_nil, or_false] at hq
    rcases hq with rfl | rfl | rfl
    · exact ox
    · trivial
    · exact oo
  -- the end
  have kend : ∀ M1, R = (0, .inl 0, M1) → sm_SW D tc ad (va_A (sm_W tc ad M) s.heap.size) s.heap 4 (sm_KW p l e (headSpec (Cond.codeWith (lt_y kLaw_dropped) (lt_b kLaw_dropped) (lt_n kLaw_dropped) (some .int) [(0, 9, 12, 13)] :: lw_g) (sm_rmW kLaw_dropped)).room s m ([.inr (.inr (9, 0, 0)), .inl p1, .inr (.inr (30, 0, 1))].map (sm_t ad)).toArray below meth c 1 6 (MQ below (va_Qi (S := Unit) (fun x _ => R.2.1 = .inl x) (sm_T D tc ad R.2.2) (va_A (sm_W tc ad M) s.heap.size)) ([.inr (.inr (9, 0, 0)), .inl p1, .inr (.inr (30, 0, 1))].map (sm_t ad)).toArray s 1 6 (va_A (sm_W tc ad M) s.heap.size))) 15 [(0, .inr (.inr (9, 0, 0))), (1, .inl p1), (2, .inr (.inr (30, 0, 1)))] [] M1 := by
    intro M1 hR1
    subst hR1
    refine (sm_s1_ok X (i := (.iconst 0, [.inl (0 : Int32)], [])) (len := 1) (ls := [(0, .inr (.inr (9, 0, 0))), (1, .inl p1), (2, .inr (.inr (30, 0, 1)))]) (st := []) (by decide +kernel) (by decide +kernel) rfl okl on).2 ?_
    intro H locs la hP hS hl
    exact W.iret hx hb hret (fun t ht hW => ⟨⟨0, (), rfl, rfl, by show va_P _ _ _ t.heap; rw [ht]; exact hP⟩, hS.F ht⟩) hS.2.2 (by decide +kernel)
  have kst : ∀ (M1 : sm_M) (v : Int64), R = (0, .inl 0, sm_w M1 30 0 1 0 v) → sm_SW D tc ad (va_A (sm_W tc ad M) s.heap.size) s.heap 4 (sm_KW p l e (headSpec (Cond.codeWith (lt_y kLaw_dropped) (lt_b kLaw_dropped) (lt_n kLaw_dropped) (some .int) [(0, 9, 12, 13)] :: lw_g) (sm_rmW kLaw_dropped)).room s m ([.inr (.inr (9, 0, 0)), .inl p1, .inr (.inr (30, 0, 1))].map (sm_t ad)).toArray below meth c 1 6 (MQ below (va_Qi (S := Unit) (fun x _ => R.2.1 = .inl x) (sm_T D tc ad R.2.2) (va_A (sm_W tc ad M) s.heap.size)) ([.inr (.inr (9, 0, 0)), .inl p1, .inr (.inr (30, 0, 1))].map (sm_t ad)).toArray s 1 6 (va_A (sm_W tc ad M) s.heap.size))) 8 [(0, .inr (.inr (9, 0, 0))), (1, .inl p1), (2, .inr (.inr (30, 0, 1)))] [.inr (.inl v), .inl 0, .inr (.inr (30, 0, 1))] M1 := by
    intro M1 v hR1
    refine (sm_s1_ok X (i := (.lastore, [], [])) (len := 1) (ls := [(0, .inr (.inr (9, 0, 0))), (1, .inl p1), (2, .inr (.inr (30, 0, 1)))]) (st := [.inr (.inl v), .inl 0, .inr (.inr (30, 0, 1))]) (ls' := [(0, .inr (.inr (9, 0, 0))), (1, .inl p1), (2, .inr (.inr (30, 0, 1)))]) (st' := []) (M' := sm_w M1 30 0 1 0 v) (by decide +kernel) (by decide +kernel) rfl okl (sm_oks_c.mpr ⟨trivial, sm_oks_c.mpr ⟨trivial, sm_oks_c.mpr ⟨oo, on⟩⟩⟩)).2 ?_
    intro H locs la hP hS hl
    exact lv_goto (tgt := 15) hx hb (pc := 9) (off := 6) (by decide +kernel) (by decide) (kend _ hR1 H locs la hP hS hl)
  have kcall : sm_SW D tc ad (va_A (sm_W tc ad M) s.heap.size) s.heap 4 (sm_KW p l e (headSpec (Cond.codeWith (lt_y kLaw_dropped) (lt_b kLaw_dropped) (lt_n kLaw_dropped) (some .int) [(0, 9, 12, 13)] :: lw_g) (sm_rmW kLaw_dropped)).room s m ([.inr (.inr (9, 0, 0)), .inl p1, .inr (.inr (30, 0, 1))].map (sm_t ad)).toArray below meth c 0 0 (MQ below (va_Qi (S := Unit) (fun x _ => R.2.1 = .inl x) (sm_T D tc ad R.2.2) (va_A (sm_W tc ad M) s.heap.size)) ([.inr (.inr (9, 0, 0)), .inl p1, .inr (.inr (30, 0, 1))].map (sm_t ad)).toArray s 1 6 (va_A (sm_W tc ad M) s.heap.size))) 4 [(0, .inr (.inr (9, 0, 0))), (1, .inl p1), (2, .inr (.inr (30, 0, 1)))] [.inl p1, .inr (.inr (9, 0, 0)), .inl 0, .inr (.inr (30, 0, 1))] M := by
    intro H locs la hP hS hl
    obtain ⟨q0, hq0, hw0⟩ := sm_W_at (tc := tc) (ad := ad) M (r := (9, 0, 0)) (by decide +kernel)
    rw [sm_ce_o] at hw0
    have hrecv := va_recv hK hP (ci := 9) rfl hw0
    have hpre := sm_preX hK hD (fun q h => Or.inr h) hN hPT hS hP ([.inr (.inr (9, 0, 0)), .inl p1].map (sm_t ad))
    obtain ⟨g1, g2, g3, g4, g5⟩ := sm_mb_spec (sm_mb_all kTop_dropped (by decide))
    have g5 : Cond.instanceMethod (lt_y kTop_dropped) ∈ lw_g ∧ Cond.selects (lt_y kTop_dropped).cls (lt_y kTop_dropped) (lt_y kTop_dropped) ∈ lw_g := by
      rcases g5 with ⟨q, -⟩ | ⟨-, q1, q2, -⟩
      · exact absurd q (by decide +kernel)
      · exact ⟨q1, q2⟩
    have hw1 : Cond.methodLink RL 75 (lt_y kTop_dropped) ∈ lw_g := sm_wd_in (i := 1340) (by decide +kernel)
    have hrun := vx_runV (p := p) (l := l) (e := e) (R := (headSpec (Cond.codeWith (lt_y kLaw_dropped) (lt_b kLaw_dropped) (lt_n kLaw_dropped) (some .int) [(0, 9, 12, 13)] :: lw_g) (sm_rmW kLaw_dropped)).room) (below := below) (meth := meth) (locs := locs) (cells := 0) (slots := 0) (As := ([.inl p1] : List sm_v).map (sm_t ad)) (rest := ([.inl 0, .inr (.inr (30, 0, 1))] : List sm_v).map (sm_t ad)) (b := ad (9, 0, 0)) (n := 1) (index := 75) (C := RX9) (g := F0 m 4 la (([.inl p1, .inr (.inr (9, 0, 0)), .inl 0, .inr (.inr (30, 0, 1))] : List sm_v).map (sm_t ad))) ⟨hx, hb, hml, hown, hts⟩ (hM H.size)
      ⟨callB_of 1 hts (lw_g_in (fun w hw => by rcases List.mem_cons.mp hw with rfl | hw; exact g4; exact hw)) rfl rfl rfl (hts _ g3) (hts _ hw1) ⟨g2.1, g2.2, by decide +kernel⟩ ⟨by decide +kernel, by decide +kernel⟩, hts _ g5.1, hts _ g5.2⟩
      ⟨hpre.1, hrecv, hpre.2⟩ rfl rfl hl.1 rfl (lv_room (Nat.le_of_ble_eq_true rfl)) (show decode cL_dropped 4 = .ok (.invokevirtual 75, 3) by decide +kernel) ⟨Nat.le_refl _, Nat.le_refl _⟩
    have hF := sm_freeA hD (fun q h => Or.inr h) hS M
    refine vx_calli (S := Unit) (SX := Unit) (a := ([.inr (.inr (9, 0, 0)), .inl p1].map (sm_t ad)).toArray) hrun hS (fun q _ h => hF q h) hF (fun q _ h => hF q h) (fun E ce q9 u t H1 locs1 ht hvm hpx hBX hz hk hS1 hce hcv hcl => ?_) (fun rv u t H1 locs1 ht hvm hw hB hz1 hk1 hS1 => ?_)
    · obtain ⟨⟨ex, hex1, rfl⟩, hP1⟩ := hBX
      rw [ht] at hP1
      obtain ⟨r0, rv, rM⟩ := r
      have hex1 : r0 = ex + 1 := hex1
      subst hex1
      have hR1 : R = (0, .inl (nI ([1, 0, 0].getD ex 0)), rM) := (Option.some.inj (show some ((0, .inl (nI ([1, 0, 0].getD ex 0)), rM) : sm_R) = some R by rw [← hR]; rfl)).symm
      have hre2 : ex = 0 := by
        rcases hre with h | h
        · exact absurd h (Nat.succ_ne_zero _)
        · exact Nat.succ.inj h
      rcases hre2 with rfl
      · refine sm_catch (ex := 0) hown hts hPT.1 hNc (by decide) [] (0, 9, 12, 13) [] htab (fun y hy => by cases hy) rfl ⟨by decide, by decide⟩ hce hcv hcl ?_
        refine lv_astore_n (lv' := _) (i := 3) hx hb (show decode cL_dropped 12 = .ok (.astore_n 3, 1) by decide +kernel) rfl hl (by decide) rfl (fun la hl => ?_)
        refine lv_iconst (v := 1) hx hb (show decode cL_dropped 13 = .ok (.iconst 1, 1) by decide +kernel) (by decide) ?_
        exact W.iret hx hb hret (fun t ht hW => ⟨⟨1, (), rfl, by rw [hR1]; rfl, by show va_P _ _ _ t.heap; rw [ht, hR1]; exact hP1⟩, hS1.F ht⟩) hS1.2.2 (show decode cL_dropped 14 = .ok (.ireturn, 1) by decide +kernel)
    · obtain ⟨hw1, hw2⟩ := hw
      have hP1 : va_P D vwCl (sm_W tc ad r.2.2) t.heap := hB
      rw [ht] at hP1
      obtain ⟨r0, rv0, rM⟩ := r
      have hw1 : r0 = 0 := hw1
      have hw2 : rv0 = .inl rv := hw2
      subst hw1; subst hw2
      have hR1 : R = (0, .inl 0, sm_w rM 30 0 1 0 rv.toInt64) := (Option.some.inj (show some ((0, .inl 0, sm_w rM 30 0 1 0 rv.toInt64) : sm_R) = some R by rw [← hR]; rfl)).symm
      have k2 := (sm_s1_ok X (i := (.i2l, [], [])) (len := 1) (pc := 7) (ls := [(0, .inr (.inr (9, 0, 0))), (1, .inl p1), (2, .inr (.inr (30, 0, 1)))]) (st := [.inl rv, .inl 0, .inr (.inr (30, 0, 1))]) (by decide +kernel) (by decide +kernel) rfl okl (sm_oks_c.mpr ⟨trivial, sm_oks_c.mpr ⟨trivial, sm_oks_c.mpr ⟨oo, on⟩⟩⟩)).2 (kst rM rv.toInt64 hR1)
      exact k2 H1 locs1 la hP1 hS1 hl
  have k_3 := (sm_s1_ok X (i := (.iload_n 1, [], [])) (len := 1) (pc := 3) (ls := [(0, .inr (.inr (9, 0, 0))), (1, .inl p1), (2, .inr (.inr (30, 0, 1)))]) (st := [.inr (.inr (9, 0, 0)), .inl 0, .inr (.inr (30, 0, 1))]) (by decide +kernel) (by decide +kernel) rfl okl (sm_oks_c.mpr ⟨ox, (sm_oks_c.mpr ⟨trivial, (sm_oks_c.mpr ⟨oo, on⟩)⟩)⟩)).2 kcall
  have k_2 := (sm_s1_ok X (i := (.aload_n 0, [], [])) (len := 1) (pc := 2) (ls := [(0, .inr (.inr (9, 0, 0))), (1, .inl p1), (2, .inr (.inr (30, 0, 1)))]) (st := [.inl 0, .inr (.inr (30, 0, 1))]) (by decide +kernel) (by decide +kernel) rfl okl (sm_oks_c.mpr ⟨trivial, (sm_oks_c.mpr ⟨oo, on⟩)⟩)).2 k_3
  have k_1 := (sm_s1_ok X (i := (.iconst 0, [.inl (0 : Int32)], [])) (len := 1) (pc := 1) (ls := [(0, .inr (.inr (9, 0, 0))), (1, .inl p1), (2, .inr (.inr (30, 0, 1)))]) (st := [.inr (.inr (30, 0, 1))]) (by decide +kernel) (by decide +kernel) rfl okl (sm_oks_c.mpr ⟨oo, on⟩)).2 k_2
  have k_0 := (sm_s1_ok X (i := (.aload_n 2, [], [])) (len := 1) (pc := 0) (ls := [(0, .inr (.inr (9, 0, 0))), (1, .inl p1), (2, .inr (.inr (30, 0, 1)))]) (st := []) (by decide +kernel) (by decide +kernel) rfl okl on).2 k_1
  exact k_0 s.heap [] _ hP va_S.rf hl
