/-! THE READER: a function that runs the printed code over plain numbers: ints and longs are Int (kept in their range), references are relative addresses, the heap of numbers is a function of address and place. Its agreement with the machine is part 04. -/
abbrev xV : Type := Int ⊕ (Int ⊕ Option Nat)
abbrev vI (x : Int) : xV := .inl x
abbrev vL (x : Int) : xV := .inr (.inl x)
abbrev vR (a : Nat) : xV := .inr (.inr (some a))
abbrev vN : xV := .inr (.inr none)
abbrev xSt : Type := Nat → Nat → Int
abbrev xL : Type := List (Option xV)
/-- a place in a method: pc, locals, stack, numbers -/
abbrev xS : Type := Nat × xL × List xV × xSt
def w32 (x : Int) : Int := x.bmod 4294967296
def w64 (x : Int) : Int := x.bmod 18446744073709551616
def w8 (x : Int) : Int := x.bmod 256
def upS (σ : xSt) (a k : Nat) (v : Int) : xSt := fun b j => if b = a ∧ j = k then v else σ b j
def o32 (f : Int32 → Int32 → Int32) (x y : Int) : Int := (f (Int32.ofInt x) (Int32.ofInt y)).toInt
def o64 (f : Int64 → Int64 → Int64) (x y : Int) : Int := (f (Int64.ofInt x) (Int64.ofInt y)).toInt
def xand (x y : Int) : Int := o32 (fun a b => a &&& b) x y
def xor32 (x y : Int) : Int := o32 (fun a b => a ||| b) x y
def xxor (x y : Int) : Int := o32 (fun a b => a ^^^ b) x y
def xshl (x y : Int) : Int := o32 (fun a b => a <<< (b &&& 31)) x y
def xshr (x y : Int) : Int := o32 (fun a b => a >>> (b &&& 31)) x y
def xushr (x y : Int) : Int := o32 (fun a b => (a.toUInt32 >>> (b.toUInt32 &&& Int32.toUInt32 31)).toInt32) x y
def xlshl (x y : Int) : Int := ((Int64.ofInt x) <<< ((Int32.ofInt y).toInt64 &&& 63)).toInt
def xlshr (x y : Int) : Int := ((Int64.ofInt x) >>> ((Int32.ofInt y).toInt64 &&& 63)).toInt
def xland (x y : Int) : Int := o64 (fun a b => a &&& b) x y
def xdiv (x y : Int) : Int := w32 (x.tdiv y)
def xrem (x y : Int) : Int := w32 (x - w32 (xdiv x y * y))
def xldiv (x y : Int) : Int := w64 (x.tdiv y)
def xlrem (x y : Int) : Int := w64 (x - w64 (xldiv x y * y))
/-- lcmp -/
def xlc (x y : Int) : Int := if y < x then 1 else if x = y then 0 else -1
def xnb (x : Int) : Int := x % 2
def xmax (x y : Int) : Int := if x < y then y else x
def xmin (x y : Int) : Int := if x < y then x else y
def xabs (x : Int) : Int := if 0 ≤ x then x else w32 (0 - x)
def xlabs (x : Int) : Int := if 0 < x then x else w64 (-x)
def tg (pc : Nat) (off : Int) : Nat := ((pc : Int) + off).toNat
/-- texts: what each holds -/
def xTxt : List (List Nat) := [[115, 111], [111, 114], [97, 110, 100], [110, 111, 116], [112, 108, 97, 99, 101], [107, 110, 111, 116, 115], [99, 111, 109, 101, 115], [115, 104, 97, 114, 101, 115], [108, 105, 107, 101], [99, 111, 105, 110], [119, 104, 101, 101, 108], [101, 110, 100], [111, 112, 101, 110], [99, 111, 105, 110, 32, 111, 112, 101, 110, 32, 119, 104, 101, 101, 108, 32, 101, 110, 100, 32, 97, 103, 97, 105, 110, 32, 115, 111, 32, 111, 114, 32, 97, 110, 100, 32, 110, 111, 116, 32, 108, 105, 107, 101, 32, 99, 111, 109, 101, 115, 32, 115, 104, 97, 114, 101, 115, 32, 112, 108, 97, 99, 101, 32, 107, 110, 111, 116, 115, 32], [97, 103, 97, 105, 110]]
def xscr : Nat := 140
def xstr0 : Nat := 141
def slen (a : Nat) : Int := ((xTxt.getD (a - xstr0) []).length : Nat)
def sch (a : Nat) (i : Int) : Int := (((xTxt.getD (a - xstr0) []).getD i.toNat 0 : Nat) : Int)
def isStr (a : Nat) : Bool := Nat.ble xstr0 a && Nat.blt a (xstr0 + 15)
def ldI (ls : xL) (i : Nat) : Option Int := match ls[i]? with
  | some (some (.inl x)) => some x
  | _ => none
def ldL (ls : xL) (i : Nat) : Option Int := match ls[i]? with
  | some (some (.inr (.inl x))) => match ls[i + 1]? with
    | some none => some x
    | _ => none
  | _ => none
def ldR (ls : xL) (i : Nat) : Option (Option Nat) := match ls[i]? with
  | some (some (.inr (.inr r))) => some r
  | _ => none
/-- a field's value -/
def fval (ci k a : Nat) (σ : xSt) : xV := match fty ci k with
  | 0 => vI (σ a k)
  | 1 => vL (σ a k)
  | 3 => vI (σ a k)
  | _ => vR (fref ci k a)
/-- cells with numbers: a class's field k at a may take v -/
def fput (ci k : Nat) (v : xV) : Option Int := match fty ci k, v with
  | 0, .inl x => some x
  | 1, .inr (.inl x) => some x
  | 3, .inl x => bif decide (x = 0) || decide (x = 1) then some x else none
  | _, _ => none
def isL : xV → Bool
  | .inr (.inl _) => true
  | _ => false
def xcat (v : xV) : Nat := bif isL v then 2 else 1
/-- where a row of offsets leads -/
def xtab (pc : Nat) (ls : xL) (st : List xV) (σ : xSt) (x : Int) (d : Int) : Int → List Int → xS
  | _, [] => (tg pc d, ls, st, σ)
  | k, o :: os => if x = k then (tg pc o, ls, st, σ) else xtab pc ls st σ x d (k + 1) os
def xlook (pc : Nat) (ls : xL) (st : List xV) (σ : xSt) (x : Int) (d : Int) : List (Int × Int) → xS
  | [] => (tg pc d, ls, st, σ)
  | (k, o) :: os => if x = k then (tg pc o, ls, st, σ) else xlook pc ls st σ x d os
/-- a script's numbers: where there is one -/
abbrev xSc : Type := Option (Nat × (Nat → Int))
def xin (i : Int) (n : Nat) : Bool := decide (0 ≤ i ∧ i < (n : Int))
/-- one instruction that neither calls nor leaves: a guard (false: the machine would throw), and the next place -/
def xstepI (sc : xSc) (own : Nat) (pc : Nat) (ls : xL) (st : List xV) (σ : xSt) : Instr → Option (Bool × xS)
  | .aconst_null => some (true, pc + 1, ls, vN :: st, σ)
  | .aload i => match ldR ls i with
    | some r => some (true, pc + 2, ls, .inr (.inr r) :: st, σ)
    | none => none
  | .aload_n i => match ldR ls i.val with
    | some r => some (true, pc + 1, ls, .inr (.inr r) :: st, σ)
    | none => none
  | .iload i => match ldI ls i with
    | some x => some (true, pc + 2, ls, vI x :: st, σ)
    | none => none
  | .iload_n i => match ldI ls i.val with
    | some x => some (true, pc + 1, ls, vI x :: st, σ)
    | none => none
  | .lload i => match ldL ls i with
    | some x => some (true, pc + 2, ls, vL x :: st, σ)
    | none => none
  | .lload_n i => match ldL ls i.val with
    | some x => some (true, pc + 1, ls, vL x :: st, σ)
    | none => none
  | .istore i => match st with
    | .inl x :: st => some (Nat.blt i ls.length, pc + 2, ls.set i (some (vI x)), st, σ)
    | _ => none
  | .istore_n i => match st with
    | .inl x :: st => some (Nat.blt i.val ls.length, pc + 1, ls.set i.val (some (vI x)), st, σ)
    | _ => none
  | .lstore i => match st with
    | .inr (.inl x) :: st => some (Nat.blt (i + 1) ls.length, pc + 2, (ls.set i (some (vL x))).set (i + 1) none, st, σ)
    | _ => none
  | .lstore_n i => match st with
    | .inr (.inl x) :: st => some (Nat.blt (i.val + 1) ls.length, pc + 1, (ls.set i.val (some (vL x))).set (i.val + 1) none, st, σ)
    | _ => none
  | .astore i => match st with
    | .inr (.inr r) :: st => some (Nat.blt i ls.length, pc + 2, ls.set i (some (.inr (.inr r))), st, σ)
    | _ => none
  | .astore_n i => match st with
    | .inr (.inr r) :: st => some (Nat.blt i.val ls.length, pc + 1, ls.set i.val (some (.inr (.inr r))), st, σ)
    | _ => none
  | .iinc i n => match ldI ls i with
    | some x => some (true, pc + 3, ls.set i (some (vI (w32 (x + n)))), st, σ)
    | none => none
  | .iconst n => some (true, pc + 1, ls, vI n :: st, σ)
  | .bipush n => some (true, pc + 2, ls, vI n :: st, σ)
  | .sipush n => some (true, pc + 3, ls, vI n :: st, σ)
  | .lconst n => some (true, pc + 1, ls, vL (n.val : Nat) :: st, σ)
  | .ldc i => match kInt own i with
    | some x => some (true, pc + 2, ls, vI x :: st, σ)
    | none => match kStr own i with
      | some k => some (true, pc + 2, ls, vR (xstr0 + k) :: st, σ)
      | none => none
  | .ldc_w i => match kInt own i with
    | some x => some (true, pc + 3, ls, vI x :: st, σ)
    | none => none
  | .ldc2_w i => match kLong own i with
    | some x => some (true, pc + 3, ls, vL x :: st, σ)
    | none => none
  | .iadd => match st with
    | .inl y :: .inl x :: st => some (true, pc + 1, ls, vI (w32 (x + y)) :: st, σ)
    | _ => none
  | .isub => match st with
    | .inl y :: .inl x :: st => some (true, pc + 1, ls, vI (w32 (x - y)) :: st, σ)
    | _ => none
  | .imul => match st with
    | .inl y :: .inl x :: st => some (true, pc + 1, ls, vI (w32 (x * y)) :: st, σ)
    | _ => none
  | .idiv => match st with
    | .inl y :: .inl x :: st => some (!decide (y = 0), pc + 1, ls, vI (xdiv x y) :: st, σ)
    | _ => none
  | .irem => match st with
    | .inl y :: .inl x :: st => some (!decide (y = 0), pc + 1, ls, vI (xrem x y) :: st, σ)
    | _ => none
  | .iand => match st with
    | .inl y :: .inl x :: st => some (true, pc + 1, ls, vI (xand x y) :: st, σ)
    | _ => none
  | .ior => match st with
    | .inl y :: .inl x :: st => some (true, pc + 1, ls, vI (xor32 x y) :: st, σ)
    | _ => none
  | .ixor => match st with
    | .inl y :: .inl x :: st => some (true, pc + 1, ls, vI (xxor x y) :: st, σ)
    | _ => none
  | .ishl => match st with
    | .inl y :: .inl x :: st => some (true, pc + 1, ls, vI (xshl x y) :: st, σ)
    | _ => none
  | .ishr => match st with
    | .inl y :: .inl x :: st => some (true, pc + 1, ls, vI (xshr x y) :: st, σ)
    | _ => none
  | .iushr => match st with
    | .inl y :: .inl x :: st => some (true, pc + 1, ls, vI (xushr x y) :: st, σ)
    | _ => none
  | .ladd => match st with
    | .inr (.inl y) :: .inr (.inl x) :: st => some (true, pc + 1, ls, vL (w64 (x + y)) :: st, σ)
    | _ => none
  | .lsub => match st with
    | .inr (.inl y) :: .inr (.inl x) :: st => some (true, pc + 1, ls, vL (w64 (x - y)) :: st, σ)
    | _ => none
  | .lmul => match st with
    | .inr (.inl y) :: .inr (.inl x) :: st => some (true, pc + 1, ls, vL (w64 (x * y)) :: st, σ)
    | _ => none
  | .ldiv => match st with
    | .inr (.inl y) :: .inr (.inl x) :: st => some (!decide (y = 0), pc + 1, ls, vL (xldiv x y) :: st, σ)
    | _ => none
  | .lrem => match st with
    | .inr (.inl y) :: .inr (.inl x) :: st => some (!decide (y = 0), pc + 1, ls, vL (xlrem x y) :: st, σ)
    | _ => none
  | .lneg => match st with
    | .inr (.inl x) :: st => some (true, pc + 1, ls, vL (w64 (-x)) :: st, σ)
    | _ => none
  | .land => match st with
    | .inr (.inl y) :: .inr (.inl x) :: st => some (true, pc + 1, ls, vL (xland x y) :: st, σ)
    | _ => none
  | .lshl => match st with
    | .inl y :: .inr (.inl x) :: st => some (true, pc + 1, ls, vL (xlshl x y) :: st, σ)
    | _ => none
  | .lshr => match st with
    | .inl y :: .inr (.inl x) :: st => some (true, pc + 1, ls, vL (xlshr x y) :: st, σ)
    | _ => none
  | .lcmp => match st with
    | .inr (.inl y) :: .inr (.inl x) :: st => some (true, pc + 1, ls, vI (xlc x y) :: st, σ)
    | _ => none
  | .i2l => match st with
    | .inl x :: st => some (true, pc + 1, ls, vL x :: st, σ)
    | _ => none
  | .l2i => match st with
    | .inr (.inl x) :: st => some (true, pc + 1, ls, vI (w32 x) :: st, σ)
    | _ => none
  | .i2b => match st with
    | .inl x :: st => some (true, pc + 1, ls, vI (w8 x) :: st, σ)
    | _ => none
  | .dup => match st with
    | v :: st => bif isL v then none else some (true, pc + 1, ls, v :: v :: st, σ)
    | _ => none
  | .dup2 => match st with
    | .inr (.inl x) :: st => some (true, pc + 1, ls, vL x :: vL x :: st, σ)
    | v :: w :: st => bif isL v || isL w then none else some (true, pc + 1, ls, v :: w :: v :: w :: st, σ)
    | _ => none
  | .pop => match st with
    | v :: st => bif isL v then none else some (true, pc + 1, ls, st, σ)
    | _ => none
  | .goto off => some (true, tg pc off, ls, st, σ)
  | .ifCond c off => match st with
    | .inl x :: st => match c with
      | .eq => some (true, if x = 0 then (tg pc off, ls, st, σ) else (pc + 3, ls, st, σ))
      | .ne => some (true, if x = 0 then (pc + 3, ls, st, σ) else (tg pc off, ls, st, σ))
      | .lt => some (true, if x < 0 then (tg pc off, ls, st, σ) else (pc + 3, ls, st, σ))
      | .ge => some (true, if x < 0 then (pc + 3, ls, st, σ) else (tg pc off, ls, st, σ))
      | .gt => some (true, if 0 < x then (tg pc off, ls, st, σ) else (pc + 3, ls, st, σ))
      | .le => some (true, if 0 < x then (pc + 3, ls, st, σ) else (tg pc off, ls, st, σ))
    | _ => none
  | .if_icmp c off => match st with
    | .inl y :: .inl x :: st => match c with
      | .eq => some (true, if x = y then (tg pc off, ls, st, σ) else (pc + 3, ls, st, σ))
      | .ne => some (true, if x = y then (pc + 3, ls, st, σ) else (tg pc off, ls, st, σ))
      | .lt => some (true, if x < y then (tg pc off, ls, st, σ) else (pc + 3, ls, st, σ))
      | .ge => some (true, if x < y then (pc + 3, ls, st, σ) else (tg pc off, ls, st, σ))
      | .gt => some (true, if y < x then (tg pc off, ls, st, σ) else (pc + 3, ls, st, σ))
      | .le => some (true, if y < x then (pc + 3, ls, st, σ) else (tg pc off, ls, st, σ))
    | _ => none
  | .ifnull off => match st with
    | .inr (.inr none) :: st => some (true, tg pc off, ls, st, σ)
    | .inr (.inr (some _)) :: st => some (true, pc + 3, ls, st, σ)
    | _ => none
  | .ifnonnull off => match st with
    | .inr (.inr none) :: st => some (true, pc + 3, ls, st, σ)
    | .inr (.inr (some _)) :: st => some (true, tg pc off, ls, st, σ)
    | _ => none
  | .tableswitch d lo _ offs => match st with
    | .inl x :: st => some (true, xtab pc ls st σ x d lo offs.toList)
    | _ => none
  | .lookupswitch d ps => match st with
    | .inl x :: st => some (true, xlook pc ls st σ x d ps.toList)
    | _ => none
  | .getfield i => match st with
    | .inr (.inr (some a)) :: st => match fld own i with
      | some (ci, k) => bif Nat.beq (lay a).1 ci then some (true, pc + 3, ls, fval ci k a σ :: st, σ) else none
      | none => none
    | _ => none
  | .putfield i => match st with
    | v :: .inr (.inr (some a)) :: st => match fld own i with
      | some (ci, k) => bif Nat.beq (lay a).1 ci then match fput ci k v with
          | some x => some (true, pc + 3, ls, st, upS σ a k x)
          | none => none
        else none
      | none => none
    | _ => none
  | .iaload => match st with
    | .inl i :: .inr (.inr (some a)) :: st => bif Nat.beq a xscr then match sc with
        | some (n, f) => some (xin i n, pc + 1, ls, vI (f i.toNat) :: st, σ)
        | none => none
      else bif Nat.beq (lay a).1 22 then some (xin i (lay a).2, pc + 1, ls, vI (σ a i.toNat) :: st, σ) else none
    | _ => none
  | .baload => match st with
    | .inl i :: .inr (.inr (some a)) :: st => bif Nat.beq (lay a).1 20 || Nat.beq (lay a).1 21 then some (xin i (lay a).2, pc + 1, ls, vI (σ a i.toNat) :: st, σ) else none
    | _ => none
  | .laload => match st with
    | .inl i :: .inr (.inr (some a)) :: st => bif Nat.beq (lay a).1 23 then some (xin i (lay a).2, pc + 1, ls, vL (σ a i.toNat) :: st, σ) else none
    | _ => none
  | .aaload => match st with
    | .inl i :: .inr (.inr (some a)) :: st => bif Nat.beq (lay a).1 24 then some (xin i (lay a).2, if i = 0 then (pc + 1, ls, vR (imref 0) :: st, σ) else (pc + 1, ls, vR (imref 1) :: st, σ)) else none
    | _ => none
  | .iastore => match st with
    | .inl x :: .inl i :: .inr (.inr (some a)) :: st => bif Nat.beq (lay a).1 22 then some (xin i (lay a).2, pc + 1, ls, st, upS σ a i.toNat x) else none
    | _ => none
  | .bastore => match st with
    | .inl x :: .inl i :: .inr (.inr (some a)) :: st => bif Nat.beq (lay a).1 20 then some (xin i (lay a).2, pc + 1, ls, st, upS σ a i.toNat (w8 x)) else bif Nat.beq (lay a).1 21 then some (xin i (lay a).2, pc + 1, ls, st, upS σ a i.toNat (xnb x)) else none
    | _ => none
  | .lastore => match st with
    | .inr (.inl x) :: .inl i :: .inr (.inr (some a)) :: st => bif Nat.beq (lay a).1 23 then some (xin i (lay a).2, pc + 1, ls, st, upS σ a i.toNat x) else none
    | _ => none
  | .arraylength => match st with
    | .inr (.inr (some a)) :: st => bif Nat.beq a xscr then match sc with
        | some (n, _) => some (true, pc + 1, ls, vI (n : Nat) :: st, σ)
        | none => none
      else bif Nat.ble 20 (lay a).1 && Nat.ble (lay a).1 24 then some (true, pc + 1, ls, vI ((lay a).2 : Nat) :: st, σ) else none
    | _ => none
  | .invokestatic i => match mthJ own i, st with
    | some 1, .inl y :: .inl x :: st => bif Nat.ble (st.map xcat).sum 8 then some (true, pc + 3, ls, vI (xmax x y) :: st, σ) else none
    | some 2, .inl y :: .inl x :: st => bif Nat.ble (st.map xcat).sum 8 then some (true, pc + 3, ls, vI (xmin x y) :: st, σ) else none
    | some 3, .inl x :: st => bif Nat.ble (st.map xcat).sum 8 then some (true, pc + 3, ls, vI (xabs x) :: st, σ) else none
    | some 4, .inr (.inl x) :: st => bif Nat.ble (st.map xcat).sum 8 then some (true, pc + 3, ls, vL (xlabs x) :: st, σ) else none
    | _, _ => none
  | .invokevirtual i => match mthJ own i, st with
    | some 5, .inr (.inr (some a)) :: st => bif isStr a && Nat.ble (st.map xcat).sum 8 then some (true, pc + 3, ls, vI (slen a) :: st, σ) else none
    | some 6, .inl x :: .inr (.inr (some a)) :: st => bif isStr a && Nat.ble (st.map xcat).sum 8 then some (decide (0 ≤ x ∧ x < slen a), pc + 3, ls, vI (sch a x) :: st, σ) else none
    | _, _ => none
  | _ => none
/-- how a method ends: none: NoSuchElementException; some none: void -/
abbrev xR : Type := Option (Option xV)
def xretI (own rk : Nat) (st : List xV) : Instr → Option xR
  | .ireturn => match st with
    | [.inl x] => bif Nat.beq rk 1 then some (some (some (vI x))) else bif Nat.beq rk 2 then some (some (some (vI (xnb x)))) else none
    | _ => none
  | .lreturn => match st with
    | [.inr (.inl x)] => bif Nat.beq rk 3 then some (some (some (vL x))) else none
    | _ => none
  | .areturn => match st with
    | [.inr (.inr r)] => bif Nat.beq rk 4 then some (some (some (.inr (.inr r)))) else none
    | _ => none
  | .return_ => match st with
    | [] => bif Nat.beq rk 0 then some (some none) else none
    | _ => none
  | .new i => match kThr own i, st with
    | some _, [] => some none
    | _, _ => none
  | _ => none
/-- the first n values, the deepest first, and the rest -/
def xpop : Nat → List xV → List xV → Option (List xV × List xV)
  | 0, as, st => some (as, st)
  | n + 1, as, v :: st => xpop n (v :: as) st
  | _ + 1, _, [] => none
/-- the receiver is an object of the method's class -/
def recvOk (m : Nat) : List xV → Bool
  | .inr (.inr (some a)) :: _ => Nat.beq (lay a).1 (mOwn m)
  | _ => false
/-- a call: the method, its arguments, what stays on the stack -/
def xcallI (own : Nat) (st : List xV) : Instr → Option (Nat × List xV × List xV)
  | .invokevirtual i => match mth own i with
    | some (m, n, 1) => match xpop (n + 1) [] st with
      | some (as, st) => bif recvOk m as && Nat.ble (st.map xcat).sum 8 then some (m, as, st) else none
      | none => none
    | _ => none
  | .invokestatic i => match mth own i with
    | some (m, n, 0) => match xpop n [] st with
      | some (as, st) => bif Nat.ble (st.map xcat).sum 8 then some (m, as, st) else none
      | none => none
    | _ => none
  | _ => none
abbrev xCall : Type := Nat → List xV → xSt → Option (xR × xSt)
def runI (sc : xSc) (call : xCall) (own rk : Nat) (cd : Nat → Option (Instr × Nat)) : Nat → xS → Option (xR × xSt)
  | 0, _ => none
  | n + 1, (pc, ls, st, σ) => match cd pc with
    | none => none
    | some (i, _) => match xretI own rk st i with
      | some r => some (r, σ)
      | none => match xcallI own st i with
        | some (m, as, st') => match call m as σ with
          | some (some v, σ') => runI sc call own rk cd n (pc + 3, ls, v.toList ++ st', σ')
          | _ => none
        | none => match xstepI sc own pc ls st σ i with
          | some (true, s') => runI sc call own rk cd n s'
          | _ => none
/-- the locals with which a method begins -/
def eL : List xV → xL
  | [] => []
  | .inr (.inl x) :: vs => some (vL x) :: none :: eL vs
  | v :: vs => some v :: eL vs
def eP : Nat → xL → xL
  | 0, l => l
  | n + 1, [] => none :: eP n []
  | n + 1, v :: l => v :: eP n l
def callD (N : Nat) : Nat → xCall
  | 0 => fun _ _ _ => none
  | d + 1 => fun m as σ => bif Nat.ble (eL as).length (mMax m) then runI none (callD N d) (mOwn m) (mRk m) (mCode m) N (0, eP (mMax m) (eL as), [], σ) else none
/-- a call of depth d that ends -/
def Call (d m : Nat) (as : List xV) (σ : xSt) (r : xR) (σ' : xSt) : Prop := ∃ N, callD N d m as σ = some (r, σ')
/-- a place from which a method of depth d + 1 comes to its end -/
def Run (d own rk : Nat) (cd : Nat → Option (Instr × Nat)) (s : xS) (res : xR × xSt) : Prop := ∃ N, runI none (callD N d) own rk cd N s = some res
