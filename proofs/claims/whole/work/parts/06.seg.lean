/-! stretches of code -/
/-- an instruction as decoded, its length, the int that it pushes or adds, the class and slot of its field -/
abbrev zI : Type := Instr × Nat × Int32 × Nat × Nat
def zlc (k : Nat) : Int64 := zget [3, -9223372036854775808, 4294967295] k 0
def zlen : Instr → Nat
  | .bipush _ => 2
  | .sipush _ => 3
  | .ldc _ => 2
  | .ldc_w _ => 3
  | .ldc2_w _ => 3
  | .iload _ => 2
  | .lload _ => 2
  | .aload _ => 2
  | .istore _ => 2
  | .lstore _ => 2
  | .astore _ => 2
  | .iinc _ _ => 3
  | .getfield _ => 3
  | .putfield _ => 3
  | .getstatic _ => 3
  | .goto _ => 3
  | _ => 1
/-- the links of an instruction, by the tables -/
def zok (o : Nat) (q : zI) : Bool := match q.1 with
  | .iconst n => Int32.ofInt n == q.2.2.1
  | .bipush n => (Int8.ofInt n).toInt32 == q.2.2.1
  | .sipush n => (Int16.ofInt n).toInt32 == q.2.2.1
  | .iinc _ n => Int32.ofInt n == q.2.2.1
  | .ldc i => zCT.any (fun t => t.1 == o && t.2.1 == i && t.2.2.1 == q.2.2.1)
  | .ldc_w i => zCT.any (fun t => t.1 == o && t.2.1 == i && t.2.2.1 == q.2.2.1)
  | .ldc2_w i => zCLT.any (fun t => t.1 == o && t.2.1 == i && t.2.2.1 == zlc q.2.2.2.2)
  | .getfield i => zFT.any (fun t => t.1 == o && t.2.1 == i && t.2.2.1 == q.2.2.2.1 && t.2.2.2.1 == q.2.2.2.2)
  | .putfield i => zFT.any (fun t => t.1 == o && t.2.1 == i && t.2.2.1 == q.2.2.2.1 && t.2.2.2.1 == q.2.2.2.2)
  | .getstatic i => o == 0 && ((i == 35 && q.2.2.2.2 == 101) || (i == 49 && q.2.2.2.2 == 102))
  | _ => true
def znext (pc : Nat) (i : Instr) : Option Nat := match i with
  | .goto off => if 0 ≤ (pc : Int) + off then some ((pc : Int) + off).toNat else none
  | i => some (pc + zlen i)
/-- the code from pc on is this list, up to e -/
def zseg (o : Nat) (code : ByteArray) : Nat → List zI → Nat → Bool
  | pc, [], e => pc == e
  | pc, q :: r, e => (match decode code pc with
    | .ok (i, n) => decide (i = q.1) && (n == zlen q.1)
    | _ => false) && zok o q && (match znext pc q.1 with
    | some pc' => zseg o code pc' r e
    | none => false)
