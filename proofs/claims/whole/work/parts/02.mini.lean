/-! A SMALL MACHINE, over whole numbers: what the bytecode of class, reference and law does on a heap of cells 1, 2, ..
    (0 is null). Its steps are in the style of continuations, so that a branch keeps both ways. Instr is used again as
    the table of small steps (resolved: fields, methods, constants, jump places are numbers): sipush is a long constant,
    ldc and getstatic name a thing that was there before (script, static row, text), fadd and fsub are min and max, swap
    is arraycopy, nop is Object's own <init>, dadd and dsub are a text's length and charAt, freturn a boolean's return. -/
abbrev zV : Type := Int ⊕ (Int ⊕ (Nat ⊕ Nat))
abbrev zMem : Type := (Nat → Nat → Int) × ((Nat → Nat → Nat) × ((Nat → Nat × (Nat × Nat)) × (Nat × Nat)))
abbrev zLoc : Type := List (Option zV)
abbrev zRes : Type := Option (Option zV × zMem)
abbrev zK : Type := Nat → zLoc → List zV → zMem → zRes
abbrev zC : Type := Nat → List zV → zMem → zRes
abbrev zX : Type := Nat → Nat × (Nat → Int)
def zcat : zV → Nat
  | .inr (.inl _) => 2
  | _ => 1
def w8 (x : Int) : Int := (x + 128) % 256 - 128
def w16 (x : Int) : Int := (x + 32768) % 65536 - 32768
def w32 (x : Int) : Int := (x + 2147483648) % 4294967296 - 2147483648
def w64 (x : Int) : Int := (x + 9223372036854775808) % 18446744073709551616 - 9223372036854775808
def zand (x y : Int) : Int := (Int32.ofInt x &&& Int32.ofInt y).toInt
def zor (x y : Int) : Int := (Int32.ofInt x ||| Int32.ofInt y).toInt
def zshl (x y : Int) : Int := w32 (x * 2 ^ (y % 32).toNat)
def zshr (x y : Int) : Int := x / 2 ^ (y % 32).toNat
def zushr (x y : Int) : Int := w32 (x % 4294967296 / 2 ^ (y % 32).toNat)
/-- a number of the heap is written -/
def zw (σ : zMem) (a j : Nat) (v : Int) : zMem := (fun a' j' => if a' = a ∧ j' = j then v else σ.1 a' j', σ.2)
/-- a reference of the heap is written -/
def zwr (σ : zMem) (a j : Nat) (v : Nat) : zMem := (σ.1, (fun a' j' => if a' = a ∧ j' = j then v else σ.2.1 a' j', σ.2.2))
/-- a cell more, of a kind, with so many slots -/
def zmake (σ : zMem) (k : Nat × (Nat × Nat)) (n : Nat) : zMem :=
  (fun a j => if a = σ.2.2.2.1 + 1 then 0 else σ.1 a j, (fun a j => if a = σ.2.2.2.1 + 1 then 0 else σ.2.1 a j, (fun a => if a = σ.2.2.2.1 + 1 then k else σ.2.2.1 a, (σ.2.2.2.1 + 1, σ.2.2.2.2 + n))))
/-- so many rows of longs more, and the row of them; its address is that of the next cell -/
def zmulti (σ : zMem) (n m : Nat) : zMem :=
  (fun a j => if a ≤ σ.2.2.2.1 then σ.1 a j else 0, (fun a j => if a = σ.2.2.2.1 + 1 then (if j < n then σ.2.2.2.1 + 2 + j else 0) else if a ≤ σ.2.2.2.1 then σ.2.1 a j else 0, (fun a => if a = σ.2.2.2.1 + 1 then (6, (n, 0)) else if a ≤ σ.2.2.2.1 then σ.2.2.1 a else if a ≤ σ.2.2.2.1 + 1 + n then (3, (m, 0)) else (0, (0, 0)), (σ.2.2.2.1 + 1 + n, σ.2.2.2.2 + n + n * m))))
/-- n numbers of a row come to another one -/
def zcopy (σ : zMem) (src sp dst dp n : Nat) : zMem := (fun a j => if a = dst ∧ dp ≤ j ∧ j < dp + n then σ.1 src (sp + (j - dp)) else σ.1 a j, σ.2)
/-- a local that is stored into frees what stood across it -/
def zkill (ls : zLoc) (i : Nat) : zLoc := match i with
  | 0 => ls
  | j + 1 => match ls[j]? with
    | some (some (.inr (.inl _))) => ls.set j none
    | _ => ls
def zpop : Nat → List zV → List zV → Option (List zV × List zV)
  | 0, st, acc => some (acc, st)
  | n + 1, v :: st, acc => zpop n st (v :: acc)
  | _ + 1, [], _ => none
def zlook : List (Int × Int) → Int → Int → Int
  | [], d, _ => d
  | (a, t) :: l, d, z => if z = a then t else zlook l d z
def zcmp (x y : Int) : Int := if x < y then -1 else if x = y then 0 else 1
/-- one step; nx is the place of the next instruction, k what goes on from a place -/
def zstep (X : zX) (C : zC) (i : Instr) (ls : zLoc) (st : List zV) (σ : zMem) (nx : Nat) (k : zK) : zRes :=
  match i with
  | .iconst n => k nx ls (.inl n :: st) σ
  | .sipush n => k nx ls (.inr (.inl n) :: st) σ
  | .ldc j => k nx ls (.inr (.inr (.inr j)) :: st) σ
  | .getstatic j => k nx ls (.inr (.inr (.inr j)) :: st) σ
  | .iload i => match ls[i]? with
    | some (some (.inl z)) => k nx ls (.inl z :: st) σ
    | _ => none
  | .lload i => match ls[i]? with
    | some (some (.inr (.inl z))) => k nx ls (.inr (.inl z) :: st) σ
    | _ => none
  | .aload i => match ls[i]? with
    | some (some (.inr (.inr z))) => k nx ls (.inr (.inr z) :: st) σ
    | _ => none
  | .istore i => match st with
    | .inl z :: r => match Nat.blt i ls.length with
      | true => k nx ((zkill ls i).set i (some (.inl z))) r σ
      | false => none
    | _ => none
  | .lstore i => match st with
    | .inr (.inl z) :: r => match Nat.blt (i + 1) ls.length with
      | true => k nx (((zkill ls i).set i (some (.inr (.inl z)))).set (i + 1) none) r σ
      | false => none
    | _ => none
  | .astore i => match st with
    | .inr (.inr (.inl z)) :: r => match Nat.blt i ls.length with
      | true => k nx ((zkill ls i).set i (some (.inr (.inr (.inl z))))) r σ
      | false => none
    | _ => none
  | .iinc i c => match ls[i]? with
    | some (some (.inl z)) => k nx ((zkill ls i).set i (some (.inl (w32 (z + c))))) st σ
    | _ => none
  | .iadd => match st with
    | .inl y :: .inl x :: r => k nx ls (.inl (w32 (x + y)) :: r) σ
    | _ => none
  | .isub => match st with
    | .inl y :: .inl x :: r => k nx ls (.inl (w32 (x - y)) :: r) σ
    | _ => none
  | .imul => match st with
    | .inl y :: .inl x :: r => k nx ls (.inl (w32 (x * y)) :: r) σ
    | _ => none
  | .idiv => match st with
    | .inl y :: .inl x :: r => if y = 0 then none else k nx ls (.inl (w32 (x.tdiv y)) :: r) σ
    | _ => none
  | .irem => match st with
    | .inl y :: .inl x :: r => if y = 0 then none else k nx ls (.inl (x.tmod y) :: r) σ
    | _ => none
  | .iand => match st with
    | .inl y :: .inl x :: r => k nx ls (.inl (zand x y) :: r) σ
    | _ => none
  | .ior => match st with
    | .inl y :: .inl x :: r => k nx ls (.inl (zor x y) :: r) σ
    | _ => none
  | .ishl => match st with
    | .inl y :: .inl x :: r => k nx ls (.inl (zshl x y) :: r) σ
    | _ => none
  | .ishr => match st with
    | .inl y :: .inl x :: r => k nx ls (.inl (zshr x y) :: r) σ
    | _ => none
  | .iushr => match st with
    | .inl y :: .inl x :: r => k nx ls (.inl (zushr x y) :: r) σ
    | _ => none
  | .i2l => match st with
    | .inl x :: r => k nx ls (.inr (.inl x) :: r) σ
    | _ => none
  | .l2i => match st with
    | .inr (.inl x) :: r => k nx ls (.inl (w32 x) :: r) σ
    | _ => none
  | .i2b => match st with
    | .inl x :: r => k nx ls (.inl (w8 x) :: r) σ
    | _ => none
  | .i2s => match st with
    | .inl x :: r => k nx ls (.inl (w16 x) :: r) σ
    | _ => none
  | .ladd => match st with
    | .inr (.inl y) :: .inr (.inl x) :: r => k nx ls (.inr (.inl (w64 (x + y))) :: r) σ
    | _ => none
  | .lsub => match st with
    | .inr (.inl y) :: .inr (.inl x) :: r => k nx ls (.inr (.inl (w64 (x - y))) :: r) σ
    | _ => none
  | .lmul => match st with
    | .inr (.inl y) :: .inr (.inl x) :: r => k nx ls (.inr (.inl (w64 (x * y))) :: r) σ
    | _ => none
  | .lcmp => match st with
    | .inr (.inl y) :: .inr (.inl x) :: r => k nx ls (.inl (zcmp x y) :: r) σ
    | _ => none
  | .dup => match st with
    | .inl x :: r => k nx ls (.inl x :: .inl x :: r) σ
    | .inr (.inr x) :: r => k nx ls (.inr (.inr x) :: .inr (.inr x) :: r) σ
    | _ => none
  | .dup2 => match st with
    | .inr (.inl x) :: r => k nx ls (.inr (.inl x) :: .inr (.inl x) :: r) σ
    | .inl x :: .inr (.inr y) :: r => k nx ls (.inl x :: .inr (.inr y) :: .inl x :: .inr (.inr y) :: r) σ
    | _ => none
  | .pop => match st with
    | .inl _ :: r => k nx ls r σ
    | .inr (.inr _) :: r => k nx ls r σ
    | _ => none
  | .ifCond c t => match st with
    | .inl x :: r => match c with
      | .eq => if x = 0 then k t.toNat ls r σ else k nx ls r σ
      | .ne => if x = 0 then k nx ls r σ else k t.toNat ls r σ
      | .lt => if x < 0 then k t.toNat ls r σ else k nx ls r σ
      | .ge => if x < 0 then k nx ls r σ else k t.toNat ls r σ
      | .gt => if 0 < x then k t.toNat ls r σ else k nx ls r σ
      | .le => if 0 < x then k nx ls r σ else k t.toNat ls r σ
    | _ => none
  | .if_icmp c t => match st with
    | .inl y :: .inl x :: r => match c with
      | .eq => if x = y then k t.toNat ls r σ else k nx ls r σ
      | .ne => if x = y then k nx ls r σ else k t.toNat ls r σ
      | .lt => if x < y then k t.toNat ls r σ else k nx ls r σ
      | .ge => if x < y then k nx ls r σ else k t.toNat ls r σ
      | .gt => if y < x then k t.toNat ls r σ else k nx ls r σ
      | .le => if y < x then k nx ls r σ else k t.toNat ls r σ
    | _ => none
  | .goto t => k t.toNat ls st σ
  | .tableswitch d lo hi ts => match st with
    | .inl x :: r => if x < lo then k d.toNat ls r σ else if hi < x then k d.toNat ls r σ else match ts.toList[(x - lo).toNat]? with
      | some t => k t.toNat ls r σ
      | none => none
    | _ => none
  | .lookupswitch d ps => match st with
    | .inl x :: r => k (zlook ps.toList d x).toNat ls r σ
    | _ => none
  | .getfield n => match st with
    | .inr (.inr (.inl a)) :: r => if σ.2.2.1 a = (1, (n / 256, 0)) then match n % 4 with
        | 1 => k nx ls (.inr (.inl (σ.1 a (n / 4 % 64))) :: r) σ
        | 3 => k nx ls (.inr (.inr (.inl (σ.2.1 a (n / 4 % 64)))) :: r) σ
        | _ => k nx ls (.inl (σ.1 a (n / 4 % 64)) :: r) σ
      else none
    | _ => none
  | .putfield n => match st with
    | .inl v :: .inr (.inr (.inl a)) :: r => if σ.2.2.1 a = (1, (n / 256, 0)) then match n % 4 with
        | 0 => k nx ls r (zw σ a (n / 4 % 64) v)
        | 2 => if v = 0 ∨ v = 1 then k nx ls r (zw σ a (n / 4 % 64) v) else none
        | _ => none
      else none
    | .inr (.inl v) :: .inr (.inr (.inl a)) :: r => if σ.2.2.1 a = (1, (n / 256, 0)) then match n % 4 with
        | 1 => k nx ls r (zw σ a (n / 4 % 64) v)
        | _ => none
      else none
    | .inr (.inr (.inl v)) :: .inr (.inr (.inl a)) :: r => if σ.2.2.1 a = (1, (n / 256, 0)) then match n % 4 with
        | 3 => k nx ls r (zwr σ a (n / 4 % 64) v)
        | _ => none
      else none
    | _ => none
  | .iaload => match st with
    | .inl i :: .inr (.inr (.inl a)) :: r => if (σ.2.2.1 a).1 = 2 ∧ 0 ≤ i ∧ i < (σ.2.2.1 a).2.1 then k nx ls (.inl (σ.1 a i.toNat) :: r) σ else none
    | .inl i :: .inr (.inr (.inr j)) :: r => if j < 4 ∧ 0 ≤ i ∧ i < (X j).1 then k nx ls (.inl ((X j).2 i.toNat) :: r) σ else none
    | _ => none
  | .laload => match st with
    | .inl i :: .inr (.inr (.inl a)) :: r => if (σ.2.2.1 a).1 = 3 ∧ 0 ≤ i ∧ i < (σ.2.2.1 a).2.1 then k nx ls (.inr (.inl (σ.1 a i.toNat)) :: r) σ else none
    | _ => none
  | .baload => match st with
    | .inl i :: .inr (.inr (.inl a)) :: r => if (σ.2.2.1 a).1 = 4 ∧ 0 ≤ i ∧ i < (σ.2.2.1 a).2.1 then k nx ls (.inl (σ.1 a i.toNat) :: r) σ else none
    | _ => none
  | .aaload => match st with
    | .inl i :: .inr (.inr (.inl a)) :: r => if ((σ.2.2.1 a).1 = 5 ∨ (σ.2.2.1 a).1 = 6) ∧ 0 ≤ i ∧ i < (σ.2.2.1 a).2.1 then k nx ls (.inr (.inr (.inl (σ.2.1 a i.toNat))) :: r) σ else none
    | _ => none
  | .iastore => match st with
    | .inl v :: .inl i :: .inr (.inr (.inl a)) :: r => if (σ.2.2.1 a).1 = 2 ∧ 0 ≤ i ∧ i < (σ.2.2.1 a).2.1 then k nx ls r (zw σ a i.toNat v) else none
    | _ => none
  | .lastore => match st with
    | .inr (.inl v) :: .inl i :: .inr (.inr (.inl a)) :: r => if (σ.2.2.1 a).1 = 3 ∧ 0 ≤ i ∧ i < (σ.2.2.1 a).2.1 then k nx ls r (zw σ a i.toNat v) else none
    | _ => none
  | .bastore => match st with
    | .inl v :: .inl i :: .inr (.inr (.inl a)) :: r => if (σ.2.2.1 a).1 = 4 ∧ 0 ≤ i ∧ i < (σ.2.2.1 a).2.1 then k nx ls r (zw σ a i.toNat (w8 v)) else none
    | _ => none
  | .aastore => match st with
    | .inr (.inr (.inl v)) :: .inl i :: .inr (.inr (.inl a)) :: r => if (σ.2.2.1 a).1 = 5 ∧ 0 ≤ i ∧ i < (σ.2.2.1 a).2.1 ∧ σ.2.2.1 v = (1, ((σ.2.2.1 a).2.2, 0)) then k nx ls r (zwr σ a i.toNat v) else none
    | _ => none
  | .arraylength => match st with
    | .inr (.inr (.inr j)) :: r => if j < 4 then k nx ls (.inl (X j).1 :: r) σ else none
    | _ => none
  | .new n => k nx ls (.inr (.inr (.inl (σ.2.2.2.1 + 1))) :: st) (zmake σ (1, (n / 256, 0)) (n % 256))
  | .newarray t => match st with
    | .inl n :: r => if 0 ≤ n ∧ n ≤ 100000 then match t with
        | .int => k nx ls (.inr (.inr (.inl (σ.2.2.2.1 + 1))) :: r) (zmake σ (2, (n.toNat, 0)) n.toNat)
        | .long => k nx ls (.inr (.inr (.inl (σ.2.2.2.1 + 1))) :: r) (zmake σ (3, (n.toNat, 0)) n.toNat)
        | .byte => k nx ls (.inr (.inr (.inl (σ.2.2.2.1 + 1))) :: r) (zmake σ (4, (n.toNat, 0)) n.toNat)
        | _ => none
      else none
    | _ => none
  | .anewarray c => match st with
    | .inl n :: r => if 0 ≤ n ∧ n ≤ 100000 then k nx ls (.inr (.inr (.inl (σ.2.2.2.1 + 1))) :: r) (zmake σ (5, (n.toNat, c)) n.toNat) else none
    | _ => none
  | .multianewarray _ _ => match st with
    | .inl m :: .inl n :: r => if 0 ≤ n ∧ n ≤ 1000 ∧ 0 ≤ m ∧ m ≤ 1000 then k nx ls (.inr (.inr (.inl (σ.2.2.2.1 + 1))) :: r) (zmulti σ n.toNat m.toNat) else none
    | _ => none
  | .invokevirtual n => match zpop (n % 16) st [] with
    | some (.inr (.inr (.inl a)) :: as, r) => match Nat.ble ((r.map zcat).sum) 8 with
      | true => if σ.2.2.1 a = (1, (n / 16 % 64, 0)) then (C (n / 1024) (.inr (.inr (.inl a)) :: as) σ).bind fun q => k nx ls (q.1.toList ++ r) q.2 else none
      | false => none
    | _ => none
  | .invokespecial n => match zpop (n % 16) st [] with
    | some (.inr (.inr (.inl a)) :: as, r) => match Nat.ble ((r.map zcat).sum) 8 with
      | true => if σ.2.2.1 a = (1, (n / 16 % 64, 0)) then (C (n / 1024) (.inr (.inr (.inl a)) :: as) σ).bind fun q => k nx ls (q.1.toList ++ r) q.2 else none
      | false => none
    | _ => none
  | .invokestatic n => match zpop (n % 16) st [] with
    | some (as, r) => match Nat.ble ((r.map zcat).sum) 8 with
      | true => (C (n / 1024) as σ).bind fun q => k nx ls (q.1.toList ++ r) q.2
      | false => none
    | _ => none
  | .fadd => match st with
    | .inl y :: .inl x :: r => match Nat.ble ((r.map zcat).sum) 8 with
      | true => k nx ls (.inl (if y < x then y else x) :: r) σ
      | false => none
    | _ => none
  | .fsub => match st with
    | .inl y :: .inl x :: r => match Nat.ble ((r.map zcat).sum) 8 with
      | true => k nx ls (.inl (if x < y then y else x) :: r) σ
      | false => none
    | _ => none
  | .swap => match st with
    | .inl n :: .inl dp :: .inr (.inr (.inl dst)) :: .inl sp :: .inr (.inr (.inl src)) :: r => match Nat.ble ((r.map zcat).sum) 8 with
      | true => if (σ.2.2.1 src).1 = 2 ∧ (σ.2.2.1 dst).1 = 2 ∧ 0 ≤ sp ∧ 0 ≤ dp ∧ 0 ≤ n ∧ sp + n ≤ (σ.2.2.1 src).2.1 ∧ dp + n ≤ (σ.2.2.1 dst).2.1 then k nx ls r (zcopy σ src sp.toNat dst dp.toNat n.toNat) else none
      | false => none
    | _ => none
  | .nop => match st with
    | .inr (.inr (.inl a)) :: r => match Nat.ble ((r.map zcat).sum) 8 with
      | true => if a = 0 then none else k nx ls r σ
      | false => none
    | _ => none
  | .dadd => match st with
    | .inr (.inr (.inr j)) :: r => match Nat.ble ((r.map zcat).sum) 8 with
      | true => if 4 ≤ j ∧ 0 < (X j).1 then k nx ls (.inl (X j).1 :: r) σ else none
      | false => none
    | _ => none
  | .dsub => match st with
    | .inl i :: .inr (.inr (.inr j)) :: r => match Nat.ble ((r.map zcat).sum) 8 with
      | true => if 4 ≤ j ∧ 0 ≤ i ∧ i < (X j).1 then k nx ls (.inl ((X j).2 i.toNat) :: r) σ else none
      | false => none
    | _ => none
  | .ireturn => match st with
    | [.inl z] => some (some (.inl z), σ)
    | _ => none
  | .freturn => match st with
    | [.inl z] => if z = 0 ∨ z = 1 then some (some (.inl z), σ) else none
    | _ => none
  | .lreturn => match st with
    | [.inr (.inl z)] => some (some (.inr (.inl z)), σ)
    | _ => none
  | .areturn => match st with
    | [.inr (.inr z)] => some (some (.inr (.inr z)), σ)
    | _ => none
  | .return_ => match st with
    | [] => some (none, σ)
    | _ => none
  | _ => none
/-- a place of the code -/
def zfind : List (Nat × (Instr × Nat)) → Nat → Option (Instr × Nat)
  | [], _ => none
  | (p, q) :: l, pc => match Nat.beq p pc with
    | true => some q
    | false => zfind l pc
def zrun (X : zX) (C : zC) (code : List (Nat × (Instr × Nat))) : Nat → zK
  | 0 => fun _ _ _ _ => none
  | n + 1 => fun pc ls st σ => match zfind code pc with
    | none => none
    | some (i, nx) => zstep X C i ls st σ nx (zrun X C code n)
def zargs : List zV → zLoc
  | [] => []
  | v :: r => match v with
    | .inr (.inl _) => some v :: none :: zargs r
    | _ => some v :: zargs r
def zinit (as : List zV) (nl : Nat) : zLoc := zargs as ++ List.replicate (nl - (zargs as).length) none
/-- what comes out of some of them (they agree) -/
noncomputable def zlim {α : Type} (f : Nat → Option α) : Option α := @dite (Option α) (∃ n r, f n = some r) (Classical.propDecidable _) (fun h => f (Classical.choose h)) (fun _ => none)
theorem zlim_of {α : Type} {f : Nat → Option α} (hm : ∀ n r, f n = some r → f (n + 1) = some r) {n : Nat} {r : α} (h : f n = some r) : zlim f = some r := by
  have up : ∀ (k n : Nat) (r : α), f n = some r → f (n + k) = some r := by
    intro k
    induction k with
    | zero => intro n r h; exact h
    | succ k ih => intro n r h; exact hm _ _ (ih n r h)
  have hx : ∃ n r, f n = some r := ⟨n, r, h⟩
  unfold zlim
  rw [dif_pos hx]
  obtain ⟨r', h'⟩ := Classical.choose_spec hx
  have h1 := up n _ _ h'
  have h2 := up (Classical.choose hx) _ _ h
  rw [Nat.add_comm] at h2
  rw [h', ← h1, h2]
theorem zlim_get {α : Type} {f : Nat → Option α} {r : α} (h : zlim f = some r) : ∃ n, f n = some r := by
  unfold zlim at h
  split at h
  · exact ⟨_, h⟩
  · cases h
/-- the table of the methods: how many locals, the code -/
abbrev zT : Type := Nat → Option (Nat × List (Nat × (Instr × Nat)))
noncomputable def zcall (X : zX) (P : zT) : Nat → zC
  | 0 => fun _ _ _ => none
  | d + 1 => fun y as σ => match P y with
    | none => none
    | some q => zlim (fun n => zrun X (zcall X P d) q.2 n 0 (zinit as q.1) [] σ)
/-- the same, with so many steps for each method: to be counted out -/
def zcallF (X : zX) (P : zT) (F : Nat) : Nat → zC
  | 0 => fun _ _ _ => none
  | d + 1 => fun y as σ => match P y with
    | none => none
    | some q => zrun X (zcallF X P F d) q.2 F 0 (zinit as q.1) [] σ
set_option maxHeartbeats 4000000 in
theorem zstep_mono {X : zX} {C C' : zC} {i : Instr} {ls : zLoc} {st : List zV} {σ : zMem} {nx : Nat} {k k' : zK} {r : Option zV × zMem} (hC : ∀ y as σ r, C y as σ = some r → C' y as σ = some r) (hk : ∀ pc ls st σ r, k pc ls st σ = some r → k' pc ls st σ = some r) (h : zstep X C i ls st σ nx k = some r) : zstep X C' i ls st σ nx k' = some r := by
  cases i
  all_goals simp only [zstep] at h ⊢
  all_goals (repeat' split at h)
  all_goals first
    | (cases h; done)
    | exact hk _ _ _ _ _ h
    | exact h
    | (simp only [*, if_true, if_false, not_true_eq_false, not_false_eq_true, and_self, or_true, true_or] at h ⊢; exact hk _ _ _ _ _ h)
    | (simp only [*, if_true, if_false, not_true_eq_false, not_false_eq_true, and_self, or_true, true_or] at h ⊢; exact h)
    | (obtain ⟨q, h1, h2⟩ := Option.bind_eq_some_iff.mp h
       simp only [*, if_true, if_false]
       exact Option.bind_eq_some_iff.mpr ⟨q, hC _ _ _ _ h1, hk _ _ _ _ _ h2⟩)
    | (simp only [*]
       exact Option.bind_eq_some_iff.mpr ((Option.bind_eq_some_iff.mp h).imp fun q hq => ⟨hC _ _ _ _ hq.1, hk _ _ _ _ _ hq.2⟩))
    | (rw [if_pos (by assumption)]; exact h)
    | (simp_all only [Option.bind_eq_some_iff]
       exact h.imp fun q hq => ⟨hC _ _ _ _ hq.1, hk _ _ _ _ _ hq.2⟩)
theorem zrun_mono {X : zX} {C C' : zC} (hC : ∀ y as σ r, C y as σ = some r → C' y as σ = some r) {code : List (Nat × (Instr × Nat))} : ∀ (n m : Nat), n ≤ m → ∀ (pc : Nat) (ls : zLoc) (st : List zV) (σ : zMem) (r : Option zV × zMem), zrun X C code n pc ls st σ = some r → zrun X C' code m pc ls st σ = some r := by
  intro n
  induction n with
  | zero => intro m _ pc ls st σ r h; cases h
  | succ n ih =>
    intro m hm pc ls st σ r h
    cases m with
    | zero => exact absurd hm (by omega)
    | succ m =>
      simp only [zrun] at h ⊢
      cases hf : zfind code pc with
      | none => rw [hf] at h; cases h
      | some q =>
        rw [hf] at h
        exact zstep_mono hC (fun pc ls st σ r h => ih m (by omega) pc ls st σ r h) h
theorem zcall_of {X : zX} {P : zT} {d y nl n : Nat} {code : List (Nat × (Instr × Nat))} {as : List zV} {σ : zMem} {r : Option zV × zMem} (hP : P y = some (nl, code)) (h : zrun X (zcall X P d) code n 0 (zinit as nl) [] σ = some r) : zcall X P (d + 1) y as σ = some r := by
  simp only [zcall, hP]
  exact zlim_of (fun n r h => zrun_mono (fun _ _ _ _ h => h) n (n + 1) (by omega) _ _ _ _ _ h) h
theorem zcall_get {X : zX} {P : zT} {d y : Nat} {as : List zV} {σ : zMem} {r : Option zV × zMem} (h : zcall X P (d + 1) y as σ = some r) : ∃ nl code n, P y = some (nl, code) ∧ zrun X (zcall X P d) code n 0 (zinit as nl) [] σ = some r := by
  simp only [zcall] at h
  cases hP : P y with
  | none => rw [hP] at h; cases h
  | some q =>
    rw [hP] at h
    obtain ⟨n, hn⟩ := zlim_get h
    exact ⟨q.1, q.2, n, rfl, hn⟩
theorem zcallF_call {X : zX} {P : zT} {F : Nat} : ∀ (d y : Nat) (as : List zV) (σ : zMem) (r : Option zV × zMem), zcallF X P F d y as σ = some r → zcall X P d y as σ = some r := by
  intro d
  induction d with
  | zero => intro y as σ r h; cases h
  | succ d ih =>
    intro y as σ r h
    simp only [zcallF] at h
    cases hP : P y with
    | none => rw [hP] at h; cases h
    | some q =>
      rw [hP] at h
      exact zcall_of hP (zrun_mono ih F F (Nat.le_refl F) _ _ _ _ _ h)
theorem zcall_up {X : zX} {P : zT} : ∀ (d y : Nat) (as : List zV) (σ : zMem) (r : Option zV × zMem), zcall X P d y as σ = some r → zcall X P (d + 1) y as σ = some r := by
  intro d
  induction d with
  | zero => intro y as σ r h; cases h
  | succ d ih =>
    intro y as σ r h
    obtain ⟨nl, code, n, hP, hn⟩ := zcall_get h
    exact zcall_of hP (zrun_mono ih n n (Nat.le_refl n) _ _ _ _ _ hn)
