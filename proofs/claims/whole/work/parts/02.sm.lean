/-! THE SMALL MACHINE: what the methods do, over numbered cells: (class, number, 0) is an object, (class, number, k + 1) the array in its field k -/
abbrev sm_v : Type := Int32 ⊕ Int64 ⊕ (Nat × Nat × Nat)
abbrev sm_M : Type := (Nat → Nat → Nat → Nat → Int32) × (Nat → Nat → Nat → Nat → Int64)
abbrev sm_R : Type := Nat × sm_v × sm_M
abbrev sm_I : Type := Instr × List sm_v × List Nat
abbrev sm_L : Type := List (Nat × sm_v)
abbrev sm_S : Type := sm_L × List sm_v × sm_M
def sm_ib (i : Int32) (n : Nat) : Bool := !(decide (i < 0)) && decide (i.toNatClampNeg < n)
def sm_u (M : sm_M) (c p j i : Nat) (x : Int32) : sm_M := (fun c' p' j' i' => if c' = c ∧ p' = p ∧ j' = j ∧ i' = i then x else M.1 c' p' j' i', M.2)
def sm_w (M : sm_M) (c p j i : Nat) (x : Int64) : sm_M := (M.1, fun c' p' j' i' => if c' = c ∧ p' = p ∧ j' = j ∧ i' = i then x else M.2 c' p' j' i')
def sm_cp (M : sm_M) (c0 p0 j0 c1 p1 j1 sp dp n : Nat) : sm_M := (fun c p j => if c = c1 ∧ p = p1 ∧ j = j1 then va_cpy (M.1 c0 p0 j0) (M.1 c1 p1 j1) sp dp n else M.1 c p j, M.2)
def sm_fl (M : sm_M) (c1 p1 j1 : Nat) (x : Int32) : sm_M := (fun c p j => if c = c1 ∧ p = p1 ∧ j = j1 then fun _ => x else M.1 c p j, M.2)
def sm_cat : sm_v → Nat
  | .inl _ => 1
  | .inr (.inl _) => 2
  | .inr (.inr _) => 1
def sm_lk (k : Nat) : sm_L → Option sm_v
  | [] => none
  | q :: l => bif Nat.beq q.1 k then some q.2 else sm_lk k l
def sm_st1 (k : Nat) (v : sm_v) (l : sm_L) : sm_L := (k, v) :: l.filter (fun q => !(q.1 == k) && !(q.1 + 1 == k && sm_cat q.2 == 2))
def sm_st2 (k : Nat) (v : sm_v) (l : sm_L) : sm_L := (k, v) :: l.filter (fun q => !(q.1 == k) && (!(q.1 == k + 1) && !(q.1 + 1 == k && sm_cat q.2 == 2)))
-- the simple steps
def sm_pi (xs : List sm_v) (ls : sm_L) (st : List sm_v) (M : sm_M) : Option sm_S := match xs with
  | [.inl v] => some (ls, .inl v :: st, M)
  | _ => none
def sm_pl (xs : List sm_v) (ls : sm_L) (st : List sm_v) (M : sm_M) : Option sm_S := match xs with
  | [.inr (.inl v)] => some (ls, .inr (.inl v) :: st, M)
  | _ => none
def sm_li (k : Nat) (ls : sm_L) (st : List sm_v) (M : sm_M) : Option sm_S := match sm_lk k ls with
  | some (.inl v) => some (ls, .inl v :: st, M)
  | _ => none
def sm_ll (k : Nat) (ls : sm_L) (st : List sm_v) (M : sm_M) : Option sm_S := match sm_lk k ls with
  | some (.inr (.inl v)) => some (ls, .inr (.inl v) :: st, M)
  | _ => none
def sm_la (k : Nat) (ls : sm_L) (st : List sm_v) (M : sm_M) : Option sm_S := match sm_lk k ls with
  | some (.inr (.inr v)) => some (ls, .inr (.inr v) :: st, M)
  | _ => none
def sm_si (k : Nat) (ls : sm_L) (st : List sm_v) (M : sm_M) : Option sm_S := match st with
  | .inl v :: st => some (sm_st1 k (.inl v) ls, st, M)
  | _ => none
def sm_sl (k : Nat) (ls : sm_L) (st : List sm_v) (M : sm_M) : Option sm_S := match st with
  | .inr (.inl v) :: st => some (sm_st2 k (.inr (.inl v)) ls, st, M)
  | _ => none
def sm_sa (k : Nat) (ls : sm_L) (st : List sm_v) (M : sm_M) : Option sm_S := match st with
  | .inr (.inr v) :: st => some (sm_st1 k (.inr (.inr v)) ls, st, M)
  | _ => none
def sm_ic (k : Nat) (xs : List sm_v) (ls : sm_L) (st : List sm_v) (M : sm_M) : Option sm_S := match xs, sm_lk k ls with
  | [.inl d], some (.inl v) => some (sm_st1 k (.inl (v + d)) ls, st, M)
  | _, _ => none
def sm_b (f : Int32 → Int32 → Int32) (ls : sm_L) (st : List sm_v) (M : sm_M) : Option sm_S := match st with
  | .inl y :: .inl x :: st => some (ls, .inl (f x y) :: st, M)
  | _ => none
def sm_bd (f : Int32 → Int32 → Int32) (ls : sm_L) (st : List sm_v) (M : sm_M) : Option sm_S := match st with
  | .inl y :: .inl x :: st => if y = 0 then none else some (ls, .inl (f x y) :: st, M)
  | _ => none
def sm_bl (f : Int64 → Int64 → Int64) (ls : sm_L) (st : List sm_v) (M : sm_M) : Option sm_S := match st with
  | .inr (.inl y) :: .inr (.inl x) :: st => some (ls, .inr (.inl (f x y)) :: st, M)
  | _ => none
def sm_bs (f : Int64 → Int32 → Int64) (ls : sm_L) (st : List sm_v) (M : sm_M) : Option sm_S := match st with
  | .inl y :: .inr (.inl x) :: st => some (ls, .inr (.inl (f x y)) :: st, M)
  | _ => none
def sm_cmp (ls : sm_L) (st : List sm_v) (M : sm_M) : Option sm_S := match st with
  | .inr (.inl y) :: .inr (.inl x) :: st => some (ls, .inl (lg_cmp x y) :: st, M)
  | _ => none
def sm_i2l (ls : sm_L) (st : List sm_v) (M : sm_M) : Option sm_S := match st with
  | .inl x :: st => some (ls, .inr (.inl x.toInt64) :: st, M)
  | _ => none
def sm_l2i (ls : sm_L) (st : List sm_v) (M : sm_M) : Option sm_S := match st with
  | .inr (.inl x) :: st => some (ls, .inl x.toInt32 :: st, M)
  | _ => none
def sm_dup (ls : sm_L) (st : List sm_v) (M : sm_M) : Option sm_S := match st with
  | .inl x :: st => some (ls, .inl x :: .inl x :: st, M)
  | .inr (.inr x) :: st => some (ls, .inr (.inr x) :: .inr (.inr x) :: st, M)
  | _ => none
def sm_dup2 (ls : sm_L) (st : List sm_v) (M : sm_M) : Option sm_S := match st with
  | .inl x :: .inl y :: st => some (ls, .inl x :: .inl y :: .inl x :: .inl y :: st, M)
  | .inl x :: .inr (.inr y) :: st => some (ls, .inl x :: .inr (.inr y) :: .inl x :: .inr (.inr y) :: st, M)
  | _ => none
def sm_pop (ls : sm_L) (st : List sm_v) (M : sm_M) : Option sm_S := match st with
  | .inl _ :: st => some (ls, st, M)
  | .inr (.inr _) :: st => some (ls, st, M)
  | _ => none
def sm_gv (M : sm_M) (c p k c2 s : Nat) : Nat → sm_v
  | 0 => .inl (M.1 c p 0 k)
  | 1 => .inr (.inr (c, p, k + 1))
  | 2 => .inr (.inr (c2, (match s with | 1 => p | _ => 0), 0))
  | _ => .inr (.inr (c2, 0, s))
/-- a field: os = class, field, kind (0 a number, 1 its own array, 2 an object of the class c2, of the same number if s is 1, 3 the array s of the object 0 of c2), place of the word -/
def sm_gf (os : List Nat) (ls : sm_L) (st : List sm_v) (M : sm_M) : Option sm_S := match os, st with
  | c :: k :: kd :: c2 :: s :: _, .inr (.inr (c', p, 0)) :: st => bif Nat.beq c' c then some (ls, sm_gv M c p k c2 s kd :: st, M) else none
  | _, _ => none
/-- a number is put: os = class, field, 1 for a boolean -/
def sm_pf (os : List Nat) (ls : sm_L) (st : List sm_v) (M : sm_M) : Option sm_S := match os, st with
  | c :: k :: z :: _, .inl x :: .inr (.inr (c', p, 0)) :: st => bif Nat.beq c' c then (match z with
      | 0 => some (ls, st, sm_u M c p 0 k x)
      | _ => if x = 0 then some (ls, st, sm_u M c p 0 k 0) else if x = 1 then some (ls, st, sm_u M c p 0 k 1) else none) else none
  | _, _ => none
def sm_ial (al : Nat → Nat → Nat × Nat) (sc : Nat × (Nat → Int32)) (z : Nat) (ls : sm_L) (st : List sm_v) (M : sm_M) : Option sm_S := match st with
  | .inl i :: .inr (.inr (c, p, j)) :: st => (match al c j with
      | (kd, n) => bif Nat.beq kd z then (if sm_ib i n = true then some (ls, .inl (M.1 c p j i.toNatClampNeg) :: st, M) else none)
        else bif Nat.beq kd (100 + z) then (if sm_ib i sc.1 = true then some (ls, .inl (sc.2 i.toNatClampNeg) :: st, M) else none) else none)
  | _ => none
def sm_lal (al : Nat → Nat → Nat × Nat) (ls : sm_L) (st : List sm_v) (M : sm_M) : Option sm_S := match st with
  | .inl i :: .inr (.inr (c, p, j)) :: st => (match al c j with
      | (kd, n) => bif Nat.beq kd 2 then (if sm_ib i n = true then some (ls, .inr (.inl (M.2 c p j i.toNatClampNeg)) :: st, M) else none) else none)
  | _ => none
def sm_aal (al : Nat → Nat → Nat × Nat) (ls : sm_L) (st : List sm_v) (M : sm_M) : Option sm_S := match st with
  | .inl i :: .inr (.inr (c, p, j)) :: st => (match al c j with
      | (kd, n) => bif Nat.ble 3 kd && Nat.ble kd 99 then (if sm_ib i n = true then some (ls, .inr (.inr (kd - 3, i.toNatClampNeg, 0)) :: st, M) else none) else none)
  | _ => none
def sm_ias (al : Nat → Nat → Nat × Nat) (ls : sm_L) (st : List sm_v) (M : sm_M) : Option sm_S := match st with
  | .inl x :: .inl i :: .inr (.inr (c, p, j)) :: st => (match al c j with
      | (kd, n) => bif Nat.beq kd 0 then (if sm_ib i n = true then some (ls, st, sm_u M c p j i.toNatClampNeg x) else none) else none)
  | _ => none
def sm_zas (al : Nat → Nat → Nat × Nat) (ls : sm_L) (st : List sm_v) (M : sm_M) : Option sm_S := match st with
  | .inl x :: .inl i :: .inr (.inr (c, p, j)) :: st => (match al c j with
      | (kd, n) => bif Nat.beq kd 1 then (if sm_ib i n = true then some (ls, st, sm_u M c p j i.toNatClampNeg (vp_nar .boolean x)) else none) else none)
  | _ => none
def sm_las (al : Nat → Nat → Nat × Nat) (ls : sm_L) (st : List sm_v) (M : sm_M) : Option sm_S := match st with
  | .inr (.inl x) :: .inl i :: .inr (.inr (c, p, j)) :: st => (match al c j with
      | (kd, n) => bif Nat.beq kd 2 then (if sm_ib i n = true then some (ls, st, sm_w M c p j i.toNatClampNeg x) else none) else none)
  | _ => none
def sm_len (al : Nat → Nat → Nat × Nat) (sc : Nat × (Nat → Int32)) (ls : sm_L) (st : List sm_v) (M : sm_M) : Option sm_S := match st with
  | .inr (.inr (c, p, j)) :: st => (match al c j with
      | (kd, n) => bif Nat.ble kd 2 then some (ls, .inl (nI n) :: st, M) else bif Nat.beq kd 100 then some (ls, .inl (nI sc.1) :: st, M) else none)
  | _ => none
def sm_s1 (al : Nat → Nat → Nat × Nat) (sc : Nat × (Nat → Int32)) (i : sm_I) (ls : sm_L) (st : List sm_v) (M : sm_M) : Option sm_S :=
  match i.1 with
  | .iconst _ => sm_pi i.2.1 ls st M
  | .bipush _ => sm_pi i.2.1 ls st M
  | .sipush _ => sm_pi i.2.1 ls st M
  | .ldc _ => sm_pi i.2.1 ls st M
  | .ldc_w _ => sm_pi i.2.1 ls st M
  | .lconst _ => sm_pl i.2.1 ls st M
  | .ldc2_w _ => sm_pl i.2.1 ls st M
  | .iload_n k => sm_li k.val ls st M
  | .iload k => sm_li k ls st M
  | .lload_n k => sm_ll k.val ls st M
  | .lload k => sm_ll k ls st M
  | .aload_n k => sm_la k.val ls st M
  | .aload k => sm_la k ls st M
  | .istore_n k => sm_si k.val ls st M
  | .istore k => sm_si k ls st M
  | .lstore_n k => sm_sl k.val ls st M
  | .lstore k => sm_sl k ls st M
  | .astore_n k => sm_sa k.val ls st M
  | .astore k => sm_sa k ls st M
  | .iinc k _ => sm_ic k i.2.1 ls st M
  | .iadd => sm_b (fun x y => x + y) ls st M
  | .isub => sm_b (fun x y => x - y) ls st M
  | .imul => sm_b (fun x y => x * y) ls st M
  | .iand => sm_b (fun x y => x &&& y) ls st M
  | .ior => sm_b (fun x y => x ||| y) ls st M
  | .ixor => sm_b (fun x y => x ^^^ y) ls st M
  | .idiv => sm_bd (fun x y => x / y) ls st M
  | .irem => sm_bd (fun x y => x - x / y * y) ls st M
  | .ishl => sm_b (fun x y => x <<< (y &&& 31)) ls st M
  | .ishr => sm_b (fun x y => x >>> (y &&& 31)) ls st M
  | .iushr => sm_b (fun x y => (x.toUInt32 >>> (y.toUInt32 &&& Int32.toUInt32 31)).toInt32) ls st M
  | .ladd => sm_bl (fun x y => x + y) ls st M
  | .lsub => sm_bl (fun x y => x - y) ls st M
  | .lmul => sm_bl (fun x y => x * y) ls st M
  | .land => sm_bl (fun x y => x &&& y) ls st M
  | .lor => sm_bl (fun x y => x ||| y) ls st M
  | .lshl => sm_bs (fun x y => x <<< (y.toInt64 &&& 63)) ls st M
  | .lushr => sm_bs (fun x y => (x.toUInt64 >>> (y.toInt64.toUInt64 &&& Int64.toUInt64 63)).toInt64) ls st M
  | .lcmp => sm_cmp ls st M
  | .i2l => sm_i2l ls st M
  | .l2i => sm_l2i ls st M
  | .dup => sm_dup ls st M
  | .dup2 => sm_dup2 ls st M
  | .pop => sm_pop ls st M
  | .getfield _ => sm_gf i.2.2 ls st M
  | .putfield _ => sm_pf i.2.2 ls st M
  | .iaload => sm_ial al sc 0 ls st M
  | .baload => sm_ial al sc 1 ls st M
  | .laload => sm_lal al ls st M
  | .aaload => sm_aal al ls st M
  | .iastore => sm_ias al ls st M
  | .bastore => sm_zas al ls st M
  | .lastore => sm_las al ls st M
  | .arraylength => sm_len al sc ls st M
  | _ => none
-- the steps that ask something, with what goes on behind them
def sm_bn (o : Option sm_S) (K : sm_L → List sm_v → sm_M → Option sm_R) : Option sm_R := match o with
  | some (ls, st, M) => K ls st M
  | none => none
def sm_bdK (f : Int32 → Int32 → Int32) (K : sm_L → List sm_v → sm_M → Option sm_R) (ls : sm_L) (st : List sm_v) (M : sm_M) : Option sm_R := match st with
  | .inl y :: .inl x :: st => if y = 0 then none else K ls (.inl (f x y) :: st) M
  | _ => none
def sm_pfK (os : List Nat) (K : sm_L → List sm_v → sm_M → Option sm_R) (ls : sm_L) (st : List sm_v) (M : sm_M) : Option sm_R := match os, st with
  | c :: k :: z :: _, .inl x :: .inr (.inr (c', p, 0)) :: st => bif Nat.beq c' c then (match z with
      | 0 => K ls st (sm_u M c p 0 k x)
      | _ => if x = 0 then K ls st (sm_u M c p 0 k 0) else if x = 1 then K ls st (sm_u M c p 0 k 1) else none) else none
  | _, _ => none
def sm_ialK (al : Nat → Nat → Nat × Nat) (sc : Nat × (Nat → Int32)) (z : Nat) (K : sm_L → List sm_v → sm_M → Option sm_R) (ls : sm_L) (st : List sm_v) (M : sm_M) : Option sm_R := match st with
  | .inl i :: .inr (.inr (c, p, j)) :: st => (match al c j with
      | (kd, n) => bif Nat.beq kd z then (if sm_ib i n = true then K ls (.inl (M.1 c p j i.toNatClampNeg) :: st) M else none)
        else bif Nat.beq kd (100 + z) then (if sm_ib i sc.1 = true then K ls (.inl (sc.2 i.toNatClampNeg) :: st) M else none) else none)
  | _ => none
def sm_lalK (al : Nat → Nat → Nat × Nat) (K : sm_L → List sm_v → sm_M → Option sm_R) (ls : sm_L) (st : List sm_v) (M : sm_M) : Option sm_R := match st with
  | .inl i :: .inr (.inr (c, p, j)) :: st => (match al c j with
      | (kd, n) => bif Nat.beq kd 2 then (if sm_ib i n = true then K ls (.inr (.inl (M.2 c p j i.toNatClampNeg)) :: st) M else none) else none)
  | _ => none
def sm_aalK (al : Nat → Nat → Nat × Nat) (K : sm_L → List sm_v → sm_M → Option sm_R) (ls : sm_L) (st : List sm_v) (M : sm_M) : Option sm_R := match st with
  | .inl i :: .inr (.inr (c, p, j)) :: st => (match al c j with
      | (kd, n) => bif Nat.ble 3 kd && Nat.ble kd 99 then (if sm_ib i n = true then K ls (.inr (.inr (kd - 3, i.toNatClampNeg, 0)) :: st) M else none) else none)
  | _ => none
def sm_iasK (al : Nat → Nat → Nat × Nat) (K : sm_L → List sm_v → sm_M → Option sm_R) (ls : sm_L) (st : List sm_v) (M : sm_M) : Option sm_R := match st with
  | .inl x :: .inl i :: .inr (.inr (c, p, j)) :: st => (match al c j with
      | (kd, n) => bif Nat.beq kd 0 then (if sm_ib i n = true then K ls st (sm_u M c p j i.toNatClampNeg x) else none) else none)
  | _ => none
def sm_zasK (al : Nat → Nat → Nat × Nat) (K : sm_L → List sm_v → sm_M → Option sm_R) (ls : sm_L) (st : List sm_v) (M : sm_M) : Option sm_R := match st with
  | .inl x :: .inl i :: .inr (.inr (c, p, j)) :: st => (match al c j with
      | (kd, n) => bif Nat.beq kd 1 then (if sm_ib i n = true then K ls st (sm_u M c p j i.toNatClampNeg (vp_nar .boolean x)) else none) else none)
  | _ => none
def sm_lasK (al : Nat → Nat → Nat × Nat) (K : sm_L → List sm_v → sm_M → Option sm_R) (ls : sm_L) (st : List sm_v) (M : sm_M) : Option sm_R := match st with
  | .inr (.inl x) :: .inl i :: .inr (.inr (c, p, j)) :: st => (match al c j with
      | (kd, n) => bif Nat.beq kd 2 then (if sm_ib i n = true then K ls st (sm_w M c p j i.toNatClampNeg x) else none) else none)
  | _ => none
-- jumps, calls, ends
def sm_tk : Nat → List sm_v → List sm_v → Option (List sm_v × List sm_v)
  | 0, a, st => some (a, st)
  | n + 1, a, v :: st => sm_tk n (v :: a) st
  | _ + 1, _, [] => none
def sm_cats : List sm_v → Nat
  | [] => 0
  | v :: st => sm_cat v + sm_cats st
def sm_ns : sm_v → Bool
  | .inr (.inr r) => !(Nat.beq r.1 99)
  | _ => true
def sm_r0 (o : Option sm_R) (K : sm_M → Option sm_R) : Option sm_R := match o with
  | some (0, _, M) => K M
  | _ => none
def sm_r1 (o : Option sm_R) (K : Int32 → sm_M → Option sm_R) : Option sm_R := match o with
  | some (0, .inl x, M) => K x M
  | _ => none
def sm_r2 (o : Option sm_R) (K : Int64 → sm_M → Option sm_R) : Option sm_R := match o with
  | some (0, .inr (.inl x), M) => K x M
  | _ => none
def sm_r3 (c : Nat) (o : Option sm_R) (K : Nat → sm_M → Option sm_R) : Option sm_R := match o with
  | some (0, .inr (.inr (c', p, 0)), M) => bif Nat.beq c' c then K p M else none
  | _ => none
def sm_rs (rc : Nat) (o : Option sm_R) (K : List sm_v → sm_M → Option sm_R) (st : List sm_v) : Nat → Option sm_R
  | 0 => sm_r0 o (fun M => K st M)
  | 1 => sm_r1 o (fun x M => K (.inl x :: st) M)
  | 2 => sm_r2 o (fun x M => K (.inr (.inl x) :: st) M)
  | _ => sm_r3 rc o (fun p M => K (.inr (.inr (rc, p, 0)) :: st) M)
def sm_cl0 (C : Nat → List sm_v → sm_M → Option sm_R) (K : List sm_v → sm_M → Option sm_R) (m n rk rc : Nat) (st : List sm_v) (M : sm_M) : Option sm_R := match sm_tk n [] st with
  | some (a, st) => bif Nat.ble (sm_cats st) 8 && a.all sm_ns then sm_rs rc (C m a M) K st rk else none
  | none => none
def sm_cl (al : Nat → Nat → Nat × Nat) (C : Nat → List sm_v → sm_M → Option sm_R) (K : List sm_v → sm_M → Option sm_R) (os : List Nat) (st : List sm_v) (M : sm_M) : Option sm_R := match os with
  | 0 :: m :: n :: rk :: rc :: _ => sm_cl0 C K m n rk rc st M
  | 1 :: _ => (match st with
      | .inl y :: .inl x :: st => bif Nat.ble (sm_cats st) 8 then K (.inl (if y < x then y else x) :: st) M else none
      | _ => none)
  | 2 :: _ => (match st with
      | .inl y :: .inl x :: st => bif Nat.ble (sm_cats st) 8 then K (.inl (if x < y then y else x) :: st) M else none
      | _ => none)
  | 3 :: _ => (match st with
      | .inl n :: .inl dp :: .inr (.inr (c1, p1, j1)) :: .inl sp :: .inr (.inr (c0, p0, j0)) :: st => (match al c0 j0, al c1 j1 with
          | (k0, n0), (k1, n1) => bif Nat.beq k0 0 && Nat.beq k1 0 && Nat.ble (sm_cats st) 8 then
              (if (¬ sp < 0 ∧ ¬ dp < 0 ∧ ¬ n < 0) ∧ sp.toNatClampNeg + n.toNatClampNeg ≤ n0 ∧ dp.toNatClampNeg + n.toNatClampNeg ≤ n1 then K st (sm_cp M c0 p0 j0 c1 p1 j1 sp.toNatClampNeg dp.toNatClampNeg n.toNatClampNeg) else none) else none)
      | _ => none)
  | 4 :: _ => (match st with
      | .inl x :: .inr (.inr (c1, p1, j1)) :: st => (match al c1 j1 with
          | (k1, _) => bif Nat.beq k1 0 && Nat.ble (sm_cats st) 8 && !(Nat.beq c1 99) then K st (sm_fl M c1 p1 j1 x) else none)
      | _ => none)
  | _ => none
/-- a virtual call: its receiver is an object of the class t -/
def sm_iv (os : List Nat) (st : List sm_v) (o : Option sm_R) : Option sm_R := match os with
  | _ :: _ :: n :: _ :: _ :: _ :: t :: _ => (match sm_tk n [] st with
      | some (.inr (.inr (c, _, 0)) :: _, _) => bif Nat.beq c t then o else none
      | _ => none)
  | _ => none
def sm_if (G : Nat → Option sm_R) (c : Jvm.ClassFile.Cond) (x y : Int32) (os : List Nat) : Option sm_R := match os with
  | t :: f :: _ => (match c with
      | .eq => if x = y then G t else G f
      | .ne => if x = y then G f else G t
      | .lt => if x < y then G t else G f
      | .ge => if x < y then G f else G t
      | .gt => if y < x then G t else G f
      | .le => if y < x then G f else G t)
  | _ => none
def sm_sw (x : Int32) (d : Option sm_R) (G : Nat → Option sm_R) : List sm_v → List Nat → Option sm_R
  | .inl k :: ks, t :: ts => if x = k then G t else sm_sw x d G ks ts
  | _, _ => d
def sm_l (al : Nat → Nat → Nat × Nat) (sc : Nat × (Nat → Int32)) (C : Nat → List sm_v → sm_M → Option sm_R) (G : Nat → sm_L → List sm_v → sm_M → Option sm_R) : List sm_I → sm_L → List sm_v → sm_M → Option sm_R
  | [], _, _, _ => none
  | i :: is, ls, st, M => match i.1 with
    | .nop => (match i.2.2 with
        | t :: _ => G t ls st M
        | _ => none)
    | .goto _ => (match i.2.2 with
        | t :: _ => G t ls st M
        | _ => none)
    | .if_icmp c _ => (match st with
        | .inl y :: .inl x :: st => sm_if (fun t => G t ls st M) c x y i.2.2
        | _ => none)
    | .ifCond c _ => (match st with
        | .inl x :: st => sm_if (fun t => G t ls st M) c x 0 i.2.2
        | _ => none)
    | .tableswitch _ _ _ _ => (match st, i.2.2 with
        | .inl x :: st, d :: ts => sm_sw x (G d ls st M) (fun t => G t ls st M) i.2.1 ts
        | _, _ => none)
    | .invokestatic _ => sm_cl al C (fun st M => sm_l al sc C G is ls st M) i.2.2 st M
    | .invokevirtual _ => sm_iv i.2.2 st (sm_cl al C (fun st M => sm_l al sc C G is ls st M) i.2.2 st M)
    | .ireturn => (match i.2.2, st with
        | [0], [.inl x] => some (0, .inl x, M)
        | [1], [.inl x] => if x = 0 then some (0, .inl 0, M) else if x = 1 then some (0, .inl 1, M) else none
        | _, _ => none)
    | .lreturn => (match st with
        | [.inr (.inl x)] => some (0, .inr (.inl x), M)
        | _ => none)
    | .areturn => (match st with
        | [.inr (.inr x)] => some (0, .inr (.inr x), M)
        | _ => none)
    | .return_ => (match st with
        | [] => some (0, .inl 0, M)
        | _ => none)
    | .new _ => (match i.2.2, st with
        | e :: _, [] => some (e + 1, .inl 0, M)
        | _, _ => none)
    | .idiv => sm_bdK (fun x y => x / y) (fun ls st M => sm_l al sc C G is ls st M) ls st M
    | .irem => sm_bdK (fun x y => x - x / y * y) (fun ls st M => sm_l al sc C G is ls st M) ls st M
    | .putfield _ => sm_pfK i.2.2 (fun ls st M => sm_l al sc C G is ls st M) ls st M
    | .iaload => sm_ialK al sc 0 (fun ls st M => sm_l al sc C G is ls st M) ls st M
    | .baload => sm_ialK al sc 1 (fun ls st M => sm_l al sc C G is ls st M) ls st M
    | .laload => sm_lalK al (fun ls st M => sm_l al sc C G is ls st M) ls st M
    | .aaload => sm_aalK al (fun ls st M => sm_l al sc C G is ls st M) ls st M
    | .iastore => sm_iasK al (fun ls st M => sm_l al sc C G is ls st M) ls st M
    | .bastore => sm_zasK al (fun ls st M => sm_l al sc C G is ls st M) ls st M
    | .lastore => sm_lasK al (fun ls st M => sm_l al sc C G is ls st M) ls st M
    | _ => sm_bn (sm_s1 al sc i ls st M) (fun ls st M => sm_l al sc C G is ls st M)
def sm_pk : List Nat → sm_L → Option (List sm_v)
  | [], _ => some []
  | k :: ks, ls => match sm_lk k ls with
    | some v => (match sm_pk ks ls with
        | some vs => some (v :: vs)
        | none => none)
    | none => none
/-- a jump: blocks that are cut are asked for by their number, the others are gone on with -/
def sm_g (ct : Nat → Bool) (lv : Nat → List Nat) (J : Nat → List sm_v → List sm_v → sm_M → Option sm_R) (X : Nat → sm_L → List sm_v → sm_M → Option sm_R) (b : Nat) (ls : sm_L) (st : List sm_v) (M : sm_M) : Option sm_R :=
  match ct b with
  | true => (match b with
      | 0 => none
      | b + 1 => (match sm_pk (lv (b + 1)) ls with
          | some vs => J (b + 1) vs st M
          | none => none))
  | false => X b ls st M
/-- the locals at a block's start: at a method's start its arguments, a long taking two places -/
def sm_ent : Nat → List sm_v → sm_L
  | _, [] => []
  | k, v :: vs => (k, v) :: sm_ent (k + sm_cat v) vs
def sm_st0 (lv : Nat → List Nat) (vs : List sm_v) : Nat → sm_L
  | 0 => sm_ent 0 vs
  | b + 1 => (lv (b + 1)).zip vs
def sm_k (al : Nat → Nat → Nat × Nat) (sc : Nat × (Nat → Int32)) (C : Nat → List sm_v → sm_M → Option sm_R) (ct : Nat → Bool) (lv : Nat → List Nat) (J : Nat → List sm_v → List sm_v → sm_M → Option sm_R) (cd : Nat → List sm_I) : Nat → Nat → sm_L → List sm_v → sm_M → Option sm_R
  | 0, _, _, _, _ => none
  | k + 1, b, ls, st, M => sm_l al sc C (sm_g ct lv J (sm_k al sc C ct lv J cd k)) (cd b) ls st M
/-- a method of the law that catches: the callee, 1 for a boolean, what each exception answers -/
def sm_wr1 (w : Nat × Nat × List Nat) (o : Option sm_v) (r : Option sm_R) : Option sm_R := match o, r with
  | some (.inr (.inr (c, p, j))), some (0, .inl x, M) => some (0, .inl 0, sm_w M c p j 0 (match w.2.1 with | 0 => x.toInt64 | _ => if x = 0 then 0 else 1))
  | some _, some (e + 1, _, M) => some (0, .inl (nI (w.2.2.getD e 0)), M)
  | _, _ => none
def sm_wr (w : Nat × Nat × List Nat) (C : Nat → List sm_v → sm_M → Option sm_R) (a : List sm_v) (M : sm_M) : Option sm_R := sm_wr1 w a.getLast? (C w.1 a.dropLast M)
/-- the arguments have room in the method's locals -/
def sm_mlb (ml : Nat) (vs : List sm_v) : Nat → Bool
  | 0 => Nat.ble (sm_cats vs) ml
  | _ + 1 => true
/-- a program: arrays' kinds and lengths, the script, blocks, what lives at a block, which are cut, the catching methods, how many locals -/
abbrev sm_P : Type := (Nat → Nat → Nat × Nat) × (Nat × (Nat → Int32)) × (Nat → Nat → List sm_I) × (Nat → Nat → List Nat) × (Nat → Nat → Bool) × (Nat → Option (Nat × Nat × List Nat)) × (Nat → Nat)
def sm_F (P : sm_P) (C : Nat → List sm_v → sm_M → Option sm_R) (J : Nat → Nat → List sm_v → List sm_v → sm_M → Option sm_R) (m b : Nat) (vs st : List sm_v) (M : sm_M) : Option sm_R :=
  match P.2.2.2.2.2.1 m with
  | some w => sm_wr w C vs M
  | none => bif sm_mlb (P.2.2.2.2.2.2 m) vs b then sm_k P.1 P.2.1 C (P.2.2.2.2.1 m) (P.2.2.2.1 m) (J m) (P.2.2.1 m) 40 b (sm_st0 (P.2.2.2.1 m) vs b) st M else none
def sm_run (P : sm_P) : Nat → Nat → Nat → List sm_v → List sm_v → sm_M → Option sm_R
  | 0, _, _, _, _, _ => none
  | n + 1, m, b, vs, st, M => sm_F P (fun m a M => sm_run P n m 0 a [] M) (fun m b vs st M => sm_run P n m b vs st M) m b vs st M
