/-! one instruction over a memory -/
/-- an instruction as decoded, its length, the int that it pushes or adds, the class and slot of its field -/
abbrev zI : Type := Instr × Nat × Int32 × Nat × Nat
abbrev zO : Type := Option (Option Prop × List (Option Value) × List Value × zMem)
def zlc (k : Nat) : Int64 := zget [3, -9223372036854775808, 4294967295] k 0
def zrow (g : zG) (c : Nat) : Option (Nat × (Nat → Int32)) := match c with
  | 100 => some (g.2.2.2.2.2.1, g.2.2.2.2.2.2)
  | 101 => some (8, zABOVE)
  | 102 => some (32, zOWN)
  | _ => none
def zldI (ls : List (Option Value)) (k : Nat) (st : List Value) (μ : zMem) : zO := match zget ls k none with
  | some (.int x) => some (none, ls, .int x :: st, μ)
  | _ => none
def zldL (ls : List (Option Value)) (k : Nat) (st : List Value) (μ : zMem) : zO := match zget ls k none with
  | some (.long x) => some (none, ls, .long x :: st, μ)
  | _ => none
def zldA (ls : List (Option Value)) (k : Nat) (st : List Value) (μ : zMem) : zO := match zget ls k none with
  | some (.ref x) => some (none, ls, .ref x :: st, μ)
  | some .null => some (none, ls, .null :: st, μ)
  | _ => none
def zstI (ls : List (Option Value)) (k : Nat) (st : List Value) (μ : zMem) : zO := match st with
  | .int x :: r => (match zsto ls k (.int x) with
    | some l => some (none, l, r, μ)
    | none => none)
  | _ => none
def zstL (ls : List (Option Value)) (k : Nat) (st : List Value) (μ : zMem) : zO := match st with
  | .long x :: r => (match zstoL ls k (.long x) with
    | some l => some (none, l, r, μ)
    | none => none)
  | _ => none
def zstA (ls : List (Option Value)) (k : Nat) (st : List Value) (μ : zMem) : zO := match st with
  | .ref x :: r => (match zsto ls k (.ref x) with
    | some l => some (none, l, r, μ)
    | none => none)
  | .null :: r => (match zsto ls k .null with
    | some l => some (none, l, r, μ)
    | none => none)
  | _ => none
def zinc (ls : List (Option Value)) (k : Nat) (v : Int32) (st : List Value) (μ : zMem) : zO := match zget ls k none with
  | some (.int x) => (match zsto ls k (.int (x + v)) with
    | some l => some (none, l, st, μ)
    | none => none)
  | _ => none
def zbin (f : Int32 → Int32 → Int32) (ls : List (Option Value)) (st : List Value) (μ : zMem) : zO := match st with
  | .int y :: .int x :: r => some (none, ls, .int (f x y) :: r, μ)
  | _ => none
def zdiv (f : Int32 → Int32 → Int32) (ls : List (Option Value)) (st : List Value) (μ : zMem) : zO := match st with
  | .int y :: .int x :: r => some (some (¬ y = 0), ls, .int (f x y) :: r, μ)
  | _ => none
def zbinL (f : Int64 → Int64 → Int64) (ls : List (Option Value)) (st : List Value) (μ : zMem) : zO := match st with
  | .long y :: .long x :: r => some (none, ls, .long (f x y) :: r, μ)
  | _ => none
def zuni (f : Int32 → Int32) (ls : List (Option Value)) (st : List Value) (μ : zMem) : zO := match st with
  | .int x :: r => some (none, ls, .int (f x) :: r, μ)
  | _ => none
def zgetf (ci k : Nat) (ls : List (Option Value)) (st : List Value) (μ : zMem) : zO := match st with
  | .ref c :: r => (match zkd c with
    | .inl ci' => (match Nat.beq ci' ci with
      | true => (match zfk ci k with
        | 0 => some (none, ls, .int (μ.1 c k) :: r, μ)
        | 1 => some (none, ls, .int (μ.1 c k) :: r, μ)
        | 2 => (match zrf c k with
          | .inl t => some (none, ls, .ref t :: r, μ)
          | .inr _ => none)
        | 3 => (match zrf c k with
          | .inl _ => none
          | .inr i => some (none, ls, .ref (μ.2.2 i) :: r, μ))
        | _ => none)
      | false => none)
    | .inr _ => none)
  | _ => none
def zputf (ci k : Nat) (ls : List (Option Value)) (st : List Value) (μ : zMem) : zO := match st with
  | .int x :: .ref c :: r => (match zkd c with
    | .inl ci' => (match Nat.beq ci' ci with
      | true => (match zfk ci k with
        | 0 => some (none, ls, r, (zu μ.1 c k x, μ.2))
        | 1 => some (some (x = 0 ∨ x = 1), ls, r, (zu μ.1 c k x, μ.2))
        | _ => none)
      | false => none)
    | .inr _ => none)
  | .ref q :: .ref c :: r => (match zkd c with
    | .inl ci' => (match Nat.beq ci' ci with
      | true => (match zfk ci k with
        | 3 => (match zrf c k with
          | .inl _ => none
          | .inr i => some (none, ls, r, (μ.1, μ.2.1, zuR μ.2.2 i q)))
        | _ => none)
      | false => none)
    | .inr _ => none)
  | _ => none
def zald (g : zG) (ls : List (Option Value)) (st : List Value) (μ : zMem) : zO := match st with
  | .int i :: .ref c :: r => (match zkd c with
    | .inr (0, n) => some (some (vp_in i n), ls, .int (μ.1 c i.toNatClampNeg) :: r, μ)
    | .inr _ => none
    | .inl _ => (match zrow g c with
      | some q => some (some (vp_in i q.1), ls, .int (q.2 i.toNatClampNeg) :: r, μ)
      | none => none))
  | _ => none
def zaldT (t : Nat) (ls : List (Option Value)) (st : List Value) (μ : zMem) : zO := match st with
  | .int i :: .ref c :: r => (match zkd c with
    | .inr (t', n) => (match Nat.beq t' t with
      | true => (match t with
        | 1 => some (some (vp_in i n), ls, .long (μ.2.1 c i.toNatClampNeg) :: r, μ)
        | 2 => some (some (vp_in i n), ls, .int (μ.1 c i.toNatClampNeg) :: r, μ)
        | 3 => some (some (vp_in i n), ls, .ref (13 + i.toNatClampNeg) :: r, μ)
        | _ => none)
      | false => none)
    | .inl _ => none)
  | _ => none
def zast (t : Nat) (ls : List (Option Value)) (st : List Value) (μ : zMem) : zO := match st with
  | .int x :: .int i :: .ref c :: r => (match zkd c with
    | .inr (t', n) => (match Nat.beq t' t with
      | true => (match t with
        | 0 => some (some (vp_in i n), ls, r, (zu μ.1 c i.toNatClampNeg x, μ.2))
        | 2 => some (some (vp_in i n ∧ (x = 0 ∨ x = 1)), ls, r, (zu μ.1 c i.toNatClampNeg x, μ.2))
        | _ => none)
      | false => none)
    | .inl _ => none)
  | _ => none
def zastL (ls : List (Option Value)) (st : List Value) (μ : zMem) : zO := match st with
  | .long x :: .int i :: .ref c :: r => (match zkd c with
    | .inr (1, n) => some (some (vp_in i n), ls, r, (μ.1, zuL μ.2.1 c i.toNatClampNeg x, μ.2.2))
    | _ => none)
  | _ => none
def zlen1 (g : zG) (ls : List (Option Value)) (st : List Value) (μ : zMem) : zO := match st with
  | .ref c :: r => (match zkd c with
    | .inr (_, n) => some (none, ls, .int (Int32.ofNat n) :: r, μ)
    | .inl _ => (match zrow g c with
      | some q => some (none, ls, .int (Int32.ofNat q.1) :: r, μ)
      | none => none))
  | _ => none
def zc1 : Value → Bool
  | .int _ => true
  | .ref _ => true
  | .null => true
  | _ => false
def zdup (ls : List (Option Value)) (st : List Value) (μ : zMem) : zO := match st with
  | a :: r => (match zc1 a with
    | true => some (none, ls, a :: a :: r, μ)
    | false => none)
  | _ => none
def zpop (ls : List (Option Value)) (st : List Value) (μ : zMem) : zO := match st with
  | a :: r => (match zc1 a with
    | true => some (none, ls, r, μ)
    | false => none)
  | _ => none
def zdupx1 (ls : List (Option Value)) (st : List Value) (μ : zMem) : zO := match st with
  | a :: b :: r => (match zc1 a && zc1 b with
    | true => some (none, ls, a :: b :: a :: r, μ)
    | false => none)
  | _ => none
def zdup2 (ls : List (Option Value)) (st : List Value) (μ : zMem) : zO := match st with
  | a :: b :: r => (match zc1 a && zc1 b with
    | true => some (none, ls, a :: b :: a :: b :: r, μ)
    | false => none)
  | _ => none
def zl2i (ls : List (Option Value)) (st : List Value) (μ : zMem) : zO := match st with
  | .long x :: r => some (none, ls, .int x.toInt32 :: r, μ)
  | _ => none
def zi2l (ls : List (Option Value)) (st : List Value) (μ : zMem) : zO := match st with
  | .int x :: r => some (none, ls, .long x.toInt64 :: r, μ)
  | _ => none
def zlshl (ls : List (Option Value)) (st : List Value) (μ : zMem) : zO := match st with
  | .int y :: .long x :: r => some (none, ls, .long (x <<< (y.toInt64 &&& 63)) :: r, μ)
  | _ => none
def zlcmp (ls : List (Option Value)) (st : List Value) (μ : zMem) : zO := match st with
  | .long y :: .long x :: r => some (none, ls, .int (lg_cmp x y) :: r, μ)
  | _ => none
def zst1 (g : zG) (q : zI) (ls : List (Option Value)) (st : List Value) (μ : zMem) : zO := match q.1 with
  | .iconst _ => some (none, ls, .int q.2.2.1 :: st, μ)
  | .bipush _ => some (none, ls, .int q.2.2.1 :: st, μ)
  | .sipush _ => some (none, ls, .int q.2.2.1 :: st, μ)
  | .ldc _ => some (none, ls, .int q.2.2.1 :: st, μ)
  | .ldc_w _ => some (none, ls, .int q.2.2.1 :: st, μ)
  | .ldc2_w _ => some (none, ls, .long (zlc q.2.2.2.2) :: st, μ)
  | .lconst n => some (none, ls, .long (Int64.ofNat n) :: st, μ)
  | .aconst_null => some (none, ls, .null :: st, μ)
  | .iload_n k => zldI ls k st μ
  | .iload k => zldI ls k st μ
  | .lload_n k => zldL ls k st μ
  | .lload k => zldL ls k st μ
  | .aload_n k => zldA ls k st μ
  | .aload k => zldA ls k st μ
  | .istore_n k => zstI ls k st μ
  | .istore k => zstI ls k st μ
  | .lstore k => zstL ls k st μ
  | .astore_n k => zstA ls k st μ
  | .astore k => zstA ls k st μ
  | .iinc k _ => zinc ls k q.2.2.1 st μ
  | .iadd => zbin (fun x y => x + y) ls st μ
  | .isub => zbin (fun x y => x - y) ls st μ
  | .imul => zbin (fun x y => x * y) ls st μ
  | .iand => zbin (fun x y => x &&& y) ls st μ
  | .ior => zbin (fun x y => x ||| y) ls st μ
  | .ixor => zbin (fun x y => x ^^^ y) ls st μ
  | .ishl => zbin (fun x y => x <<< (y &&& 31)) ls st μ
  | .ishr => zbin (fun x y => x >>> (y &&& 31)) ls st μ
  | .iushr => zbin (fun x y => (x.toUInt32 >>> (y.toUInt32 &&& Int32.toUInt32 31)).toInt32) ls st μ
  | .idiv => zdiv (fun x y => x / y) ls st μ
  | .irem => zdiv (fun x y => x - x / y * y) ls st μ
  | .ineg => zuni (fun x => -x) ls st μ
  | .i2b => zuni (fun x => x.toInt8.toInt32) ls st μ
  | .i2s => zuni (fun x => x.toInt16.toInt32) ls st μ
  | .i2c => zuni (fun x => (x.toUInt32 % 65536).toInt32) ls st μ
  | .i2l => zi2l ls st μ
  | .l2i => zl2i ls st μ
  | .ladd => zbinL (fun x y => x + y) ls st μ
  | .lmul => zbinL (fun x y => x * y) ls st μ
  | .land => zbinL (fun x y => x &&& y) ls st μ
  | .lor => zbinL (fun x y => x ||| y) ls st μ
  | .lshl => zlshl ls st μ
  | .lcmp => zlcmp ls st μ
  | .dup => zdup ls st μ
  | .pop => zpop ls st μ
  | .dup_x1 => zdupx1 ls st μ
  | .dup2 => zdup2 ls st μ
  | .getfield _ => zgetf q.2.2.2.1 q.2.2.2.2 ls st μ
  | .putfield _ => zputf q.2.2.2.1 q.2.2.2.2 ls st μ
  | .getstatic _ => some (none, ls, .ref q.2.2.2.2 :: st, μ)
  | .iaload => zald g ls st μ
  | .laload => zaldT 1 ls st μ
  | .baload => zaldT 2 ls st μ
  | .aaload => zaldT 3 ls st μ
  | .iastore => zast 0 ls st μ
  | .bastore => zast 2 ls st μ
  | .lastore => zastL ls st μ
  | .arraylength => zlen1 g ls st μ
  | .goto _ => some (none, ls, st, μ)
  | _ => none
def zlen : Instr → Nat
  | .bipush _ => 2
  | .sipush _ => 3
  | .ldc _ => 2
  | .ldc_w _ => 3
  | .ldc2_w _ => 3
  | .iload _ => 2
  | .lload _ => 2
  | .aload _ => 2
  | .istore _ => 2
  | .lstore _ => 2
  | .astore _ => 2
  | .iinc _ _ => 3
  | .getfield _ => 3
  | .putfield _ => 3
  | .getstatic _ => 3
  | .goto _ => 3
  | _ => 1
/-- the links of an instruction, by the tables -/
def zok (o : Nat) (q : zI) : Bool := match q.1 with
  | .iconst n => Int32.ofInt n == q.2.2.1
  | .bipush n => (Int8.ofInt n).toInt32 == q.2.2.1
  | .sipush n => (Int16.ofInt n).toInt32 == q.2.2.1
  | .iinc _ n => Int32.ofInt n == q.2.2.1
  | .ldc i => zCT.any (fun t => t.1 == o && t.2.1 == i && t.2.2.1 == q.2.2.1)
  | .ldc_w i => zCT.any (fun t => t.1 == o && t.2.1 == i && t.2.2.1 == q.2.2.1)
  | .ldc2_w i => zCLT.any (fun t => t.1 == o && t.2.1 == i && t.2.2.1 == zlc q.2.2.2.2)
  | .getfield i => zFT.any (fun t => t.1 == o && t.2.1 == i && t.2.2.1 == q.2.2.2.1 && t.2.2.2.1 == q.2.2.2.2)
  | .putfield i => zFT.any (fun t => t.1 == o && t.2.1 == i && t.2.2.1 == q.2.2.2.1 && t.2.2.2.1 == q.2.2.2.2)
  | .getstatic i => o == 0 && ((i == 35 && q.2.2.2.2 == 101) || (i == 49 && q.2.2.2.2 == 102))
  | _ => true
def znext (pc : Nat) (i : Instr) : Option Nat := match i with
  | .goto off => if 0 ≤ (pc : Int) + off then some ((pc : Int) + off).toNat else none
  | i => some (pc + zlen i)
/-- the code from pc on is this list, up to e -/
def zseg (o : Nat) (code : ByteArray) : Nat → List zI → Nat → Bool
  | pc, [], e => pc == e
  | pc, q :: r, e => (match decode code pc with
    | .ok (i, n) => decide (i = q.1) && (n == zlen q.1)
    | _ => false) && zok o q && (match znext pc q.1 with
    | some pc' => zseg o code pc' r e
    | none => false)
def zrun (g : zG) : List zI → List (Option Value) → List Value → zMem → Option (List Prop × List (Option Value) × List Value × zMem)
  | [], ls, st, μ => some ([], ls, st, μ)
  | q :: r, ls, st, μ => match zst1 g q ls st μ with
    | none => none
    | some (o, ls', st', μ') => match zrun g r ls' st' μ' with
      | none => none
      | some (ps, s) => (match o with
        | none => some (ps, s)
        | some p => some (p :: ps, s))
def zall : List Prop → Prop
  | [] => True
  | p :: r => p ∧ zall r
