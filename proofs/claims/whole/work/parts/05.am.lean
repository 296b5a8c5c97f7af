/-! The small machine: a method's instructions over a heap of typed rows (layout, references, ints, longs), addresses counted from the law's start. Its runs are runs of the machine (part 06). -/
abbrev am_R : Type := Nat → Nat → Option Nat
abbrev am_F : Type := Nat → Nat → Int32
abbrev am_J : Type := Nat → Nat → Int64
abbrev am_S : Type := List (Nat × Nat) × am_R × am_F × am_J
abbrev am_O : Type := Option (Option Value × am_S)
abbrev am_L : Type := List (Option Value)
abbrev am_K : Type := Nat → am_L → List Value → am_S → am_O
def am_up {α : Type} (f : Nat → Nat → α) (i k : Nat) (v : α) : Nat → Nat → α := fun a b => if a = i ∧ b = k then v else f a b
def am_nw {α : Type} (f : Nat → Nat → α) (i : Nat) (v : α) : Nat → Nat → α := fun a b => if a = i then v else f a b
def am_row {α : Type} (f : Nat → Nat → α) (i : Nat) (g : Nat → α) : Nat → Nat → α := fun a b => if a = i then g b else f a b
def am_i1 (S : List Value) (k : Int32 → List Value → am_O) : am_O := match S with
  | .int x :: S => k x S
  | _ => none
def am_i2 (S : List Value) (k : Int32 → Int32 → List Value → am_O) : am_O := match S with
  | .int y :: .int x :: S => k x y S
  | _ => none
def am_j1 (S : List Value) (k : Int64 → List Value → am_O) : am_O := match S with
  | .long x :: S => k x S
  | _ => none
def am_j2 (S : List Value) (k : Int64 → Int64 → List Value → am_O) : am_O := match S with
  | .long y :: .long x :: S => k x y S
  | _ => none
def am_ji (S : List Value) (k : Int64 → Int32 → List Value → am_O) : am_O := match S with
  | .int y :: .long x :: S => k x y S
  | _ => none
/-- an address and a number ahead of it: an array's place -/
def am_ai (S : List Value) (k : Nat → Int32 → List Value → am_O) (x : Nat → Int32 → List Value → am_O) : am_O := match S with
  | .int j :: .ref i :: S => k i j S
  | .int j :: .retAddr i :: S => x i j S
  | _ => none
def am_aii (S : List Value) (k : Nat → Int32 → Int32 → List Value → am_O) : am_O := match S with
  | .int v :: .int j :: .ref i :: S => k i j v S
  | _ => none
def am_aia (S : List Value) (k : Nat → Int32 → Nat → List Value → am_O) : am_O := match S with
  | .ref v :: .int j :: .ref i :: S => k i j v S
  | _ => none
def am_a1 (S : List Value) (k : Nat → List Value → am_O) (x : Nat → List Value → am_O) (z : List Value → am_O) : am_O := match S with
  | .ref i :: S => k i S
  | .retAddr i :: S => x i S
  | .null :: S => z S
  | _ => none
def am_ldi (L : am_L) (n : Nat) (k : Int32 → am_O) : am_O := match L[n]? with
  | some (some (.int x)) => k x
  | _ => none
def am_ldj (L : am_L) (n : Nat) (k : Int64 → am_O) : am_O := match L[n]? with
  | some (some (.long x)) => k x
  | _ => none
def am_lda (L : am_L) (n : Nat) (k : Value → am_O) : am_O := match L[n]? with
  | some (some (.ref i)) => k (.ref i)
  | some (some (.retAddr i)) => k (.retAddr i)
  | some (some .null) => k .null
  | _ => none
def am_nl (L : am_L) : Nat → Bool
  | 0 => true
  | n + 1 => match L[n]? with
    | some (some v) => Nat.beq v.category 1
    | _ => true
def am_st (L : am_L) (n : Nat) (v : Value) (k : am_L → am_O) : am_O := bif Nat.blt n L.length && am_nl L n then k (L.set n (some v)) else none
def am_stj (L : am_L) (n : Nat) (v : Int64) (k : am_L → am_O) : am_O := bif Nat.blt (n + 1) L.length && am_nl L n then k ((L.set n (some (.long v))).set (n + 1) none) else none
def am_tg (pc : Nat) (off : Int) : Nat := ((pc : Int) + off).toNat
def am_fv (ft : Nat) (s : am_S) (i k : Nat) : Value := match ft with
  | 2 => .long (s.2.2.2 i k)
  | 3 => va_rf (s.2.1 i k)
  | _ => .int (s.2.2.1 i k)
/-- the cell at i is of the kind t: how long it is -/
def am_is (s : am_S) (i t : Nat) (k : Nat → am_O) : am_O := match s.1[i]? with
  | some q => bif Nat.beq q.1 t then k q.2 else none
  | none => none
/-- an index within -/
def am_ix (j : Int32) (n : Nat) (k : am_O) : am_O := if j < 0 ∨ n ≤ j.toNatClampNeg then none else k
def am_get (K : am_K) (pc : Nat) (a : List Nat) (L : am_L) (S : List Value) (s : am_S) : am_O := match a with
  | [ci, k, ft, _] => am_a1 S (fun i S => am_is s i ci fun _ => K (pc + 3) L (am_fv ft s i k :: S) s) (fun _ _ => none) (fun _ => none)
  | _ => none
def am_ipi (S : List Value) (k : Nat → Int32 → List Value → am_O) : am_O := match S with
  | .int v :: .ref i :: S => k i v S
  | _ => none
def am_ipj (S : List Value) (k : Nat → Int64 → List Value → am_O) : am_O := match S with
  | .long v :: .ref i :: S => k i v S
  | _ => none
def am_ipr (S : List Value) (k : Nat → Option Nat → List Value → am_O) : am_O := match S with
  | .ref v :: .ref i :: S => k i (some v) S
  | .null :: .ref i :: S => k i none S
  | _ => none
def am_put (K : am_K) (pc : Nat) (a : List Nat) (L : am_L) (S : List Value) (s : am_S) : am_O := match a with
  | [ci, k, 0, _] => am_ipi S fun i v S => am_is s i ci fun _ => K (pc + 3) L S (s.1, s.2.1, am_up s.2.2.1 i k v, s.2.2.2)
  | [ci, k, 1, _] => am_ipi S fun i v S => am_is s i ci fun _ => if v = 0 ∨ v = 1 then K (pc + 3) L S (s.1, s.2.1, am_up s.2.2.1 i k v, s.2.2.2) else none
  | [ci, k, 2, _] => am_ipj S fun i v S => am_is s i ci fun _ => K (pc + 3) L S (s.1, s.2.1, s.2.2.1, am_up s.2.2.2 i k v)
  | [ci, k, 3, _] => am_ipr S fun i v S => am_is s i ci fun _ => K (pc + 3) L S (s.1, am_up s.2.1 i k v, s.2.2.1, s.2.2.2)
  | _ => none
def am_new (s : am_S) (t n : Nat) : am_S := (s.1 ++ [(t, n)], am_nw s.2.1 s.1.length none, am_nw s.2.2.1 s.1.length 0, am_nw s.2.2.2 s.1.length 0)
def am_nwa (K : am_K) (pc : Nat) (t : Nat) (L : am_L) (S : List Value) (s : am_S) : am_O := am_i1 S fun n S => if n < 0 ∨ 100000 < n.toNatClampNeg then none else K pc L (.ref s.1.length :: S) (am_new s t n.toNatClampNeg)
def am_rr (K : am_K) (pc : Nat) (L : am_L) (S : List Value) (r : am_O) : am_O := match r with
  | some (some v, s) => K (pc + 3) L (v :: S) s
  | some (none, s) => K (pc + 3) L S s
  | none => none
def am_dr (S : List Value) (na : Nat) (k : Nat → List Value → am_O) : am_O := match S.drop na with
  | .ref b :: rest => bif Nat.ble rest.length 4 then k b rest else none
  | _ => none
def am_cpy (K : am_K) (pc : Nat) (L : am_L) (S : List Value) (s : am_S) : am_O := match S with
  | .int n :: .int dp :: .ref d :: .int sp :: .ref a :: S => match s.1[a]?, s.1[d]? with
    | some q, some q' => bif Nat.beq q.1 q'.1 && (Nat.beq q.1 10 || Nat.beq q.1 11) && Nat.ble S.length 4 then
        (if sp < 0 ∨ dp < 0 ∨ n < 0 ∨ q.2 < sp.toNatClampNeg + n.toNatClampNeg ∨ q'.2 < dp.toNatClampNeg + n.toNatClampNeg then none
         else K (pc + 3) L S (s.1, s.2.1, am_row s.2.2.1 d (va_cpy (s.2.2.1 a) (s.2.2.1 d) sp.toNatClampNeg dp.toNatClampNeg n.toNatClampNeg), s.2.2.2))
      else none
    | _, _ => none
  | _ => none
def am_sl (e : Nat) (l : Nat → List Nat) : Int32 := nI (l e).length
def am_inv (str : Nat → List Nat) (call : Nat → List Value → am_S → am_O) (K : am_K) (pc : Nat) (a : List Nat) (L : am_L) (S : List Value) (s : am_S) : am_O := match a with
  | [0, mid, na, _, ci] => am_dr S na fun b rest => am_is s b ci fun _ => am_rr K pc L rest (call mid (.ref b :: (S.take na).reverse) s)
  | [1, mid, na, _, _] => bif Nat.ble na S.length && Nat.ble (S.drop na).length 4 then am_rr K pc L (S.drop na) (call mid (S.take na).reverse s) else none
  | [2, mid, na, _, _] => bif Nat.ble na S.length && Nat.ble (S.drop na).length 4 then am_rr K pc L (S.drop na) (call mid (S.take na).reverse s) else none
  | [3, mid, na, _, _] => am_dr S na fun b rest => am_rr K pc L rest (call mid (.ref b :: (S.take na).reverse) s)
  | [4, mid, na, _, _] => am_dr S na fun b rest => am_rr K pc L rest (call mid (.ref b :: (S.take na).reverse) s)
  | [5, _, _, _, _] => am_dr S 0 fun _ rest => K (pc + 3) L rest s
  | [6, _, _, _, _] => am_i2 S fun x y S => bif Nat.ble S.length 4 then K (pc + 3) L (.int (if x < y then y else x) :: S) s else none
  | [7, _, _, _, _] => am_i2 S fun x y S => bif Nat.ble S.length 4 then K (pc + 3) L (.int (if y < x then y else x) :: S) s else none
  | [8, _, _, _, _] => am_i1 S fun x S => bif Nat.ble S.length 4 then K (pc + 3) L (.int (if 0 ≤ x then x else 0 - x) :: S) s else none
  | [9, _, _, _, _] => am_cpy K pc L S s
  | [10, _, _, _, _] => am_a1 S (fun _ _ => none) (fun e S => bif Nat.blt e 30 && Nat.ble S.length 4 then K (pc + 3) L (.int (nI (str e).length) :: S) s else none) (fun _ => none)
  | [11, _, _, _, _] => am_ai S (fun _ _ _ => none) (fun e j S => bif Nat.blt e 30 && Nat.ble S.length 4 then am_ix j (str e).length (K (pc + 3) L (.int (nI ((str e).getD j.toNatClampNeg 0)) :: S) s) else none)
  | _ => none
def am_ins (str : Nat → List Nat) (X : Nat × (Nat → Int32)) (call : Nat → List Value → am_S → am_O) (K : am_K) (pc : Nat) (i : Instr) (a : List Nat) (L : am_L) (S : List Value) (s : am_S) : am_O := match i with
  | .iconst n => K (pc + 1) L (.int (Int32.ofInt n) :: S) s
  | .bipush n => K (pc + 2) L (.int (Int8.ofInt n).toInt32 :: S) s
  | .sipush n => K (pc + 3) L (.int (Int16.ofInt n).toInt32 :: S) s
  | .lconst n => K (pc + 1) L (.long (Int64.ofNat (n : Nat)) :: S) s
  | .ldc _ => match a with
    | [0, v, _] => K (pc + 2) L (.int (Int32.ofNat v) :: S) s
    | [1, e] => bif Nat.blt e 30 then K (pc + 2) L (.retAddr e :: S) s else none
    | _ => none
  | .ldc_w _ => match a with
    | [0, v, _] => K (pc + 3) L (.int (Int32.ofNat v) :: S) s
    | _ => none
  | .ldc2_w _ => match a with
    | [v, _] => K (pc + 3) L (.long (Int64.ofNat v) :: S) s
    | _ => none
  | .aconst_null => K (pc + 1) L (.null :: S) s
  | .iload n => am_ldi L n fun x => K (pc + 2) L (.int x :: S) s
  | .iload_n n => am_ldi L n fun x => K (pc + 1) L (.int x :: S) s
  | .lload n => am_ldj L n fun x => K (pc + 2) L (.long x :: S) s
  | .lload_n n => am_ldj L n fun x => K (pc + 1) L (.long x :: S) s
  | .aload n => am_lda L n fun x => K (pc + 2) L (x :: S) s
  | .aload_n n => am_lda L n fun x => K (pc + 1) L (x :: S) s
  | .istore n => am_i1 S fun x S => am_st L n (.int x) fun L => K (pc + 2) L S s
  | .istore_n n => am_i1 S fun x S => am_st L n (.int x) fun L => K (pc + 1) L S s
  | .lstore n => am_j1 S fun x S => am_stj L n x fun L => K (pc + 2) L S s
  | .lstore_n n => am_j1 S fun x S => am_stj L n x fun L => K (pc + 1) L S s
  | .astore n => am_a1 S (fun i S => am_st L n (.ref i) fun L => K (pc + 2) L S s) (fun i S => am_st L n (.retAddr i) fun L => K (pc + 2) L S s) (fun S => am_st L n .null fun L => K (pc + 2) L S s)
  | .astore_n n => am_a1 S (fun i S => am_st L n (.ref i) fun L => K (pc + 1) L S s) (fun i S => am_st L n (.retAddr i) fun L => K (pc + 1) L S s) (fun S => am_st L n .null fun L => K (pc + 1) L S s)
  | .iinc n c => am_ldi L n fun x => am_st L n (.int (x + Int32.ofInt c)) fun L => K (pc + 3) L S s
  | .iadd => am_i2 S fun x y S => K (pc + 1) L (.int (x + y) :: S) s
  | .isub => am_i2 S fun x y S => K (pc + 1) L (.int (x - y) :: S) s
  | .imul => am_i2 S fun x y S => K (pc + 1) L (.int (x * y) :: S) s
  | .iand => am_i2 S fun x y S => K (pc + 1) L (.int (x &&& y) :: S) s
  | .ior => am_i2 S fun x y S => K (pc + 1) L (.int (x ||| y) :: S) s
  | .idiv => am_i2 S fun x y S => if y = 0 then none else K (pc + 1) L (.int (x / y) :: S) s
  | .irem => am_i2 S fun x y S => if y = 0 then none else K (pc + 1) L (.int (x - x / y * y) :: S) s
  | .ineg => am_i1 S fun x S => K (pc + 1) L (.int (-x) :: S) s
  | .ishl => am_i2 S fun x y S => K (pc + 1) L (.int (x <<< (y &&& 31)) :: S) s
  | .ishr => am_i2 S fun x y S => K (pc + 1) L (.int (x >>> (y &&& 31)) :: S) s
  | .iushr => am_i2 S fun x y S => K (pc + 1) L (.int (x.toUInt32 >>> (y.toUInt32 &&& Int32.toUInt32 31)).toInt32 :: S) s
  | .i2b => am_i1 S fun x S => K (pc + 1) L (.int x.toInt8.toInt32 :: S) s
  | .i2l => am_i1 S fun x S => K (pc + 1) L (.long x.toInt64 :: S) s
  | .l2i => am_j1 S fun x S => K (pc + 1) L (.int x.toInt32 :: S) s
  | .lor => am_j2 S fun x y S => K (pc + 1) L (.long (x ||| y) :: S) s
  | .lneg => am_j1 S fun x S => K (pc + 1) L (.long (-x) :: S) s
  | .ldiv => am_j2 S fun x y S => if y = 0 then none else K (pc + 1) L (.long (x / y) :: S) s
  | .lrem => am_j2 S fun x y S => if y = 0 then none else K (pc + 1) L (.long (x - x / y * y) :: S) s
  | .lshl => am_ji S fun x y S => K (pc + 1) L (.long (x <<< (y.toInt64 &&& 63)) :: S) s
  | .lcmp => am_j2 S fun x y S => K (pc + 1) L (.int (lg_cmp x y) :: S) s
  | .dup => match S with
    | v :: S => bif Nat.beq v.category 1 then K (pc + 1) L (v :: v :: S) s else none
    | _ => none
  | .pop => match S with
    | v :: S => bif Nat.beq v.category 1 then K (pc + 1) L S s else none
    | _ => none
  | .dup2 => match S with
    | va :: vb :: S => bif Nat.beq va.category 1 && Nat.beq vb.category 1 then K (pc + 1) L (va :: vb :: va :: vb :: S) s else none
    | _ => none
  | .goto off => K (am_tg pc off) L S s
  | .ifCond c off => am_i1 S fun x S => match c with
    | .eq => if x = 0 then K (am_tg pc off) L S s else K (pc + 3) L S s
    | .ne => if x = 0 then K (pc + 3) L S s else K (am_tg pc off) L S s
    | .lt => if x < 0 then K (am_tg pc off) L S s else K (pc + 3) L S s
    | .ge => if 0 ≤ x then K (am_tg pc off) L S s else K (pc + 3) L S s
    | .gt => if 0 < x then K (am_tg pc off) L S s else K (pc + 3) L S s
    | .le => if x ≤ 0 then K (am_tg pc off) L S s else K (pc + 3) L S s
  | .if_icmp c off => am_i2 S fun x y S => match c with
    | .eq => if x = y then K (am_tg pc off) L S s else K (pc + 3) L S s
    | .ne => if x = y then K (pc + 3) L S s else K (am_tg pc off) L S s
    | .lt => if x < y then K (am_tg pc off) L S s else K (pc + 3) L S s
    | .ge => if y ≤ x then K (am_tg pc off) L S s else K (pc + 3) L S s
    | .gt => if y < x then K (am_tg pc off) L S s else K (pc + 3) L S s
    | .le => if x ≤ y then K (am_tg pc off) L S s else K (pc + 3) L S s
  | .ifnull off => am_a1 S (fun _ S => K (pc + 3) L S s) (fun _ S => K (pc + 3) L S s) (fun S => K (am_tg pc off) L S s)
  | .ifnonnull off => am_a1 S (fun _ S => K (am_tg pc off) L S s) (fun _ S => K (am_tg pc off) L S s) (fun S => K (pc + 3) L S s)
  | .tableswitch d lo hi offs => am_i1 S fun x S => if x.toInt < lo ∨ hi < x.toInt then K (am_tg pc d) L S s else match offs[(x.toInt - lo).toNat]? with
    | some off => K (am_tg pc off) L S s
    | none => none
  | .getfield _ => am_get K pc a L S s
  | .putfield _ => am_put K pc a L S s
  | .new _ => match a with
    | [ci, n, _, _] => K (pc + 3) L (.ref s.1.length :: S) (am_new s ci n)
    | _ => none
  | .newarray t => match t with
    | .int => am_nwa K (pc + 2) 10 L S s
    | .byte => am_nwa K (pc + 2) 11 L S s
    | .boolean => am_nwa K (pc + 2) 12 L S s
    | _ => none
  | .anewarray _ => match a with
    | [t, _] => am_nwa K (pc + 3) t L S s
    | _ => none
  | .arraylength => am_a1 S (fun i S => match s.1[i]? with
      | some q => bif Nat.ble 10 q.1 && Nat.ble q.1 15 then K (pc + 1) L (.int (Int32.ofNat q.2) :: S) s else none
      | none => none) (fun e S => bif Nat.beq e 1000 then K (pc + 1) L (.int (Int32.ofNat X.1) :: S) s else none) (fun _ => none)
  | .iaload => am_ai S (fun i j S => am_is s i 10 fun n => am_ix j n (K (pc + 1) L (.int (s.2.2.1 i j.toNatClampNeg) :: S) s)) (fun e j S => bif Nat.beq e 1000 then am_ix j X.1 (K (pc + 1) L (.int (X.2 j.toNatClampNeg) :: S) s) else none)
  | .baload => am_ai S (fun i j S => match s.1[i]? with
      | some q => bif Nat.beq q.1 11 || Nat.beq q.1 12 then am_ix j q.2 (K (pc + 1) L (.int (s.2.2.1 i j.toNatClampNeg) :: S) s) else none
      | none => none) (fun _ _ _ => none)
  | .aaload => am_ai S (fun i j S => match s.1[i]? with
      | some q => bif Nat.ble 13 q.1 && Nat.ble q.1 15 then am_ix j q.2 (K (pc + 1) L (va_rf (s.2.1 i j.toNatClampNeg) :: S) s) else none
      | none => none) (fun _ _ _ => none)
  | .iastore => am_aii S fun i j v S => am_is s i 10 fun n => am_ix j n (K (pc + 1) L S (s.1, s.2.1, am_up s.2.2.1 i j.toNatClampNeg v, s.2.2.2))
  | .bastore => am_aii S fun i j v S => match s.1[i]? with
      | some q => bif Nat.beq q.1 11 then am_ix j q.2 (K (pc + 1) L S (s.1, s.2.1, am_up s.2.2.1 i j.toNatClampNeg v.toInt8.toInt32, s.2.2.2))
        else bif Nat.beq q.1 12 then am_ix j q.2 (K (pc + 1) L S (s.1, s.2.1, am_up s.2.2.1 i j.toNatClampNeg (vp_nar .boolean v), s.2.2.2)) else none
      | none => none
  | .aastore => am_aia S fun i j v S => match s.1[i]?, s.1[v]? with
      | some q, some q' => bif (Nat.beq q.1 13 && Nat.beq q'.1 3) || (Nat.beq q.1 14 && Nat.beq q'.1 5) || (Nat.beq q.1 15 && Nat.beq q'.1 6) then am_ix j q.2 (K (pc + 1) L S (s.1, am_up s.2.1 i j.toNatClampNeg (some v), s.2.2.1, s.2.2.2)) else none
      | _, _ => none
  | .invokevirtual _ => am_inv str call K pc a L S s
  | .invokestatic _ => am_inv str call K pc a L S s
  | .invokespecial _ => am_inv str call K pc a L S s
  | .ireturn => match a, S with
    | [0], [.int x] => some (some (.int x), s)
    | [1], [.int x] => if x = 0 ∨ x = 1 then some (some (.int x), s) else none
    | _, _ => none
  | .lreturn => match S with
    | [.long x] => some (some (.long x), s)
    | _ => none
  | .areturn => match S with
    | [.ref x] => some (some (.ref x), s)
    | [.retAddr x] => some (some (.retAddr x), s)
    | [.null] => some (some .null, s)
    | _ => none
  | .return_ => match S with
    | [] => some (none, s)
    | _ => none
  | _ => none
def am_la (As : List Value) : am_L := match As with
  | [] => []
  | .long x :: As => some (.long x) :: none :: am_la As
  | .double x :: As => some (.double x) :: none :: am_la As
  | v :: As => some v :: am_la As
