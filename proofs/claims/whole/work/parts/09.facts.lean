/-! WHAT THE TABLES MUST KEEP, as tests that the kernel runs -/
def lw_g : List Cond := lw_tbl.filter goodWord
def sm_wd (i : Nat) (w : Cond) : Bool := goodWord w && (match lw_tbl[i]? with
  | some w' => decide (w' = w)
  | none => false)
theorem sm_wd_in {i : Nat} {w : Cond} (h : sm_wd i w = true) : w ∈ lw_g := by
  unfold sm_wd at h
  rw [Bool.and_eq_true] at h
  obtain ⟨h1, h2⟩ := h
  cases hg : lw_tbl[i]? with
  | none => rw [hg] at h2; cases h2
  | some w' =>
    rw [hg] at h2
    have e : w' = w := of_decide_eq_true h2
    subst e
    exact List.mem_filter.mpr ⟨List.mem_of_getElem? hg, h1⟩
def sm_tys (tc : Nat → ClassId) : List (ClassId × FieldType) := [(tc 0, .int), (tc 1, .boolean), (tc 2, .long), (tc 3, .object RX0), (tc 5, .object RX2), (tc 7, .object RX4), (tc 11, .object RX8)]
/-- the words of the calls of Lineartide.within by the classes inside -/
def sm_nw : List Cond := [.methodLinkNest "Lineartide$Protocol" 21 yX9_within "Lineartide", .methodLinkNest "Lineartide$Channels" 44 yX9_within "Lineartide", .methodLinkNest "Lineartide$Code" 21 yX9_within "Lineartide", .methodLinkNest "Lineartide$Flow" 124 yX9_within "Lineartide", .methodLinkNest "Lineartide$Body" 50 yX9_within "Lineartide", .methodLinkNest "Lineartide$Messages" 27 yX9_within "Lineartide", .methodLinkNest "Lineartide$Ledger" 25 yX9_within "Lineartide"]
def sm_fi (xs : List sm_v) (v : Int32) : Bool := match xs with
  | [.inl x] => decide (v = x)
  | _ => false
def sm_fl2 (xs : List sm_v) (v : Int64) : Bool := match xs with
  | [.inr (.inl x)] => decide (v = x)
  | _ => false
def sm_fk (own : String) (ix : Nat) (xs : List sm_v) (os : List Nat) : Bool := match xs, os with
  | [.inl x], w :: _ => sm_wd w (.constant own ix x)
  | _, _ => false
def sm_fk2 (own : String) (ix : Nat) (xs : List sm_v) (os : List Nat) : Bool := match xs, os with
  | [.inr (.inl x)], w :: _ => sm_wd w (.constantLong own ix x)
  | _, _ => false
def sm_fg (own : String) (ix : Nat) (os : List Nat) : Bool := match os with
  | c :: k :: kd :: c2 :: s :: w :: _ => (match vwCl[c]? with
      | some (C, T, N) => Nat.blt k N && decide ((T k).1 = C) && decide (lt_fk c k = (kd, c2, s)) && sm_wd w (.fieldLink own ix C (T k).2.1 (T k).2.2.1)
      | none => false)
  | _ => false
def sm_zt : Nat → FieldType
  | 0 => .int
  | _ => .boolean
def sm_fp (own : String) (ix : Nat) (os : List Nat) : Bool := match os with
  | c :: k :: z :: w :: _ => (match vwCl[c]? with
      | some (C, T, N) => Nat.blt k N && decide ((T k).1 = C) && decide (lt_fk c k = (0, 0, 0)) && !(T k).2.2.2 && decide (parseFieldDescriptor (T k).2.2.1 = some (sm_zt z)) && sm_wd w (.fieldLink own ix C (T k).2.1 (T k).2.2.1)
      | none => false)
  | _ => false
/-- of a simple step: its length, its numbers, its places -/
def sm_fb (own : String) (nL : Nat) (len : Nat) (i : sm_I) : Bool := match i.1 with
  | .iconst n => Nat.beq len 1 && sm_fi i.2.1 (Int32.ofInt n)
  | .bipush n => Nat.beq len 2 && sm_fi i.2.1 (Int8.ofInt n).toInt32
  | .sipush n => Nat.beq len 3 && sm_fi i.2.1 (Int16.ofInt n).toInt32
  | .ldc ix => Nat.beq len 2 && sm_fk own ix i.2.1 i.2.2
  | .ldc_w ix => Nat.beq len 3 && sm_fk own ix i.2.1 i.2.2
  | .lconst n => Nat.beq len 1 && sm_fl2 i.2.1 (Int64.ofNat n.val)
  | .ldc2_w ix => Nat.beq len 3 && sm_fk2 own ix i.2.1 i.2.2
  | .iload_n _ => Nat.beq len 1
  | .iload _ => Nat.beq len 2
  | .lload_n _ => Nat.beq len 1
  | .lload _ => Nat.beq len 2
  | .aload_n _ => Nat.beq len 1
  | .aload _ => Nat.beq len 2
  | .istore_n k => Nat.beq len 1 && Nat.blt k.val nL
  | .istore k => Nat.beq len 2 && Nat.blt k nL
  | .lstore_n k => Nat.beq len 1 && Nat.blt (k.val + 1) nL
  | .lstore k => Nat.beq len 2 && Nat.blt (k + 1) nL
  | .astore_n k => Nat.beq len 1 && Nat.blt k.val nL
  | .astore k => Nat.beq len 2 && Nat.blt k nL
  | .iinc k n => Nat.beq len 3 && sm_fi i.2.1 (Int32.ofInt n) && Nat.blt k nL
  | .getfield ix => Nat.beq len 3 && sm_fg own ix i.2.2
  | .putfield ix => Nat.beq len 3 && sm_fp own ix i.2.2
  | _ => Nat.beq len 1
/-- of a method -/
def sm_mb (m : Nat) : Bool := plainName (lt_y m).cls && decide ((lt_y m).cls ≠ "java/lang/invoke/MethodHandle" ∧ (lt_y m).cls ≠ "java/lang/invoke/VarHandle") && sm_wd (lt_pl m).2.2.2.1 (.initialized (lt_y m).cls) && sm_wd (lt_pl m).2.2.2.2 (.code (lt_y m) (lt_b m) (lt_n m) (lt_r m)) &&
  (match (lt_pl m).1 with
   | true => sm_wd (lt_pl m).2.1 (.static (lt_y m)) && decide ((parseMethodDescriptor (lt_y m).desc).map (fun d => d.parameters.length) = some (lt_na m))
   | false => sm_wd (lt_pl m).2.1 (.instanceMethod (lt_y m)) && sm_wd (lt_pl m).2.2.1 (.selects (lt_y m).cls (lt_y m) (lt_y m)) && decide ((parseMethodDescriptor (lt_y m).desc).map (fun d => d.parameters.length + 1) = some (lt_na m)))
/-- of a call: its words, its room (fr frames, lo words of locals) -/
def sm_fc (own : String) (fr lo : Nat) (i : sm_I) : Bool := match i.1, i.2.2 with
  | .invokevirtual ix, 0 :: m :: n :: rk :: rc :: w :: t :: _ => (match vwCl[t]? with | some q => decide (q.1 = (lt_y m).cls) | none => false) && Nat.blt m 263 && sm_wd w (.methodLink own ix (lt_y m)) && !(lt_pl m).1 && Nat.beq (lt_na m) n && decide (lt_rk m = (rk, rc)) && Nat.ble ((lt_fl m).1 + 1) fr && Nat.ble (8 + (lt_n m + 11) + (lt_fl m).2) lo
  | .invokestatic ix, 0 :: m :: n :: rk :: rc :: w :: _ => Nat.blt m 263 && (sm_wd w (.methodLink own ix (lt_y m)) || decide (Cond.methodLinkNest own ix (lt_y m) "Lineartide" ∈ sm_nw)) && (lt_pl m).1 && Nat.beq (lt_na m) n && decide (lt_rk m = (rk, rc)) && Nat.ble ((lt_fl m).1 + 1) fr && Nat.ble (8 + (lt_n m + 11) + (lt_fl m).2) lo
  | .invokestatic ix, 1 :: w :: _ => sm_wd w (.methodLink own ix Lib.Math.min.name) && Nat.ble 1 fr && Nat.ble 21 lo
  | .invokestatic ix, 2 :: w :: _ => sm_wd w (.methodLink own ix Lib.Math.max.name) && Nat.ble 1 fr && Nat.ble 21 lo
  | .invokestatic ix, 3 :: w :: _ => sm_wd w (.methodLink own ix arraycopyName) && Nat.ble 1 fr && Nat.ble (8 + (nativeFrameWords "java/lang/System" "arraycopy" 5 + 11)) lo
  | .invokestatic ix, 4 :: w :: _ => sm_wd w (.methodLink own ix ⟨"java/util/Arrays", "fill", "([II)V"⟩) && Nat.ble 1 fr && Nat.ble (8 + (4 + 11)) lo
  | _, _ => false
def sm_ft (pcs : Nat → Nat) (pc : Nat) (off : Int) (t : Nat) : Bool := decide ((pc : Int) + off = (pcs t : Int))
def sm_fs (pcs : Nat → Nat) (pc : Nat) (lo : Int) : List sm_v → List Int → List Nat → Bool
  | [], [], [] => true
  | .inl k :: ks, o :: os, t :: ts => decide (k.toInt = lo) && sm_ft pcs pc o t && sm_fs pcs pc (lo + 1) ks os ts
  | _, _, _ => false
/-- the exceptions: 0 IndexOutOfBounds, 1 IllegalArgument, 2 IllegalState: the places of class and constructor in Lineartide's pool -/
def lt_xk : Nat → Nat × Nat
  | 0 => (61, 65)
  | 1 => (72, 76)
  | _ => (85, 89)
def lt_xn : Nat → String
  | 0 => "java/lang/IndexOutOfBoundsException"
  | 1 => "java/lang/IllegalArgumentException"
  | _ => "java/lang/IllegalStateException"
def lt_strs : List (Nat × String) := [(63, "there is no such protocol"), (74, "what, a or b is out of range"), (87, "the protocol has 8 steps, or a channel has it"), (94, "there is no such protocol or process"), (96, "both processes are the same"), (102, "there are 3 channels, or the protocol is not whole"), (111, "there is no such process"), (114, "what, a or b is out of range, or a and b are the same"), (117, "the process has 16 ops"), (124, "the process has no ops"), (139, "the error is not BORROWED"), (147, "there is no such process, op or name"), (157, "there is no such process, op or channel"), (162, "there is no such process or op"), (168, "a process has an error"), (188, "there is no run, or the process is not RUNNING"), (194, "steps is out of range"), (196, "there is no run"), (207, "there is no such process or name"), (212, "there is no such process, or channel is out of range"), (229, "there is no such place")]
def lt_tx (k : Nat) : Option String := (lt_strs.find? (fun q => Nat.beq q.1 k)).map (fun q => q.2)
def sm_ftr (cc : ByteArray) (pc ix len : Nat) (os : List Nat) : Bool := match os with
  | e :: is :: ic :: _ => Nat.beq len 3 && decide (decode cc (pc + 3) = .ok (.dup, 1)) && decide (decode cc (pc + 4) = .ok (.ldc is, 2)) && decide (decode cc (pc + 6) = .ok (.invokespecial ic, 3)) && decide (decode cc (pc + 9) = .ok (.athrow, 1)) && decide (lt_xk e = (ix, ic)) && (lt_tx is).isSome
  | _ => false
/-- a block against the method's bytes, from pc on; z: the method's answer is a boolean -/
def sm_fit (own : String) (nL fr lo : Nat) (ret : Option FieldType) (cc : ByteArray) (pcs : Nat → Nat) : Nat → List sm_I → Bool
  | _, [] => true
  | pc, i :: is => match i.1 with
    | .nop => (match i.2.2 with
        | t :: _ => Nat.beq (pcs t) pc
        | _ => false)
    | _ => (match decode cc pc with
        | .ok (j, len) => decide (j = i.1) && (match i.1 with
          | .goto off => (match i.2.2 with
              | t :: _ => Nat.beq len 3 && sm_ft pcs pc off t
              | _ => false)
          | .if_icmp _ off => (match i.2.2 with
              | t :: f :: _ => Nat.beq len 3 && sm_ft pcs pc off t && Nat.beq (pcs f) (pc + 3)
              | _ => false)
          | .ifCond _ off => (match i.2.2 with
              | t :: f :: _ => Nat.beq len 3 && sm_ft pcs pc off t && Nat.beq (pcs f) (pc + 3)
              | _ => false)
          | .tableswitch d l h offs => (match i.2.2 with
              | t :: ts => sm_ft pcs pc d t && decide (h = l + (offs.size : Int) - 1) && sm_fs pcs pc l i.2.1 offs.toList ts
              | _ => false)
          | .invokestatic _ => Nat.beq len 3 && sm_fc own fr lo i && sm_fit own nL fr lo ret cc pcs (pc + 3) is
          | .invokevirtual _ => Nat.beq len 3 && sm_fc own fr lo i && sm_fit own nL fr lo ret cc pcs (pc + 3) is
          | .ireturn => Nat.beq len 1 && (match i.2.2 with
              | [0] => decide (ret = some .int)
              | [1] => decide (ret = some .boolean)
              | _ => false)
          | .lreturn => Nat.beq len 1 && decide (ret = some .long)
          | .areturn => Nat.beq len 1 && (match ret with
              | some (.object _) => true
              | _ => false)
          | .return_ => Nat.beq len 1 && decide (ret = none)
          | .new ix => sm_ftr cc pc ix len i.2.2
          | _ => sm_fb own nL len i && sm_fit own nL fr lo ret cc pcs (pc + len) is)
        | _ => false)
def sm_FitM (m : Nat) : Prop := ∀ b, sm_fit (lt_R m) (lt_n m) (lt_fl m).1 (lt_fl m).2 (lt_r m) (lt_b m) (lt_pc m) (lt_pc m b) (lt_cd m b) = true
