/-! one instruction over a memory -/
abbrev zO : Type := Option (Option Prop × List (Option Value) × List Value × zMem)
def zrow (g : zG) (c : Nat) : Option (Nat × (Nat → Int32)) := match c with
  | 100 => some (g.2.2.2.2.2.1, g.2.2.2.2.2.2)
  | 101 => some (8, zABOVE)
  | 102 => some (32, zOWN)
  | _ => none
def zldI (ls : List (Option Value)) (k : Nat) (st : List Value) (μ : zMem) : zO := match zget ls k none with
  | some (.int x) => some (none, ls, .int x :: st, μ)
  | _ => none
def zldL (ls : List (Option Value)) (k : Nat) (st : List Value) (μ : zMem) : zO := match zget ls k none with
  | some (.long x) => some (none, ls, .long x :: st, μ)
  | _ => none
def zldA (ls : List (Option Value)) (k : Nat) (st : List Value) (μ : zMem) : zO := match zget ls k none with
  | some (.ref x) => some (none, ls, .ref x :: st, μ)
  | some .null => some (none, ls, .null :: st, μ)
  | _ => none
def zstI (ls : List (Option Value)) (k : Nat) (st : List Value) (μ : zMem) : zO := match st with
  | .int x :: r => (match zsto ls k (.int x) with
    | some l => some (none, l, r, μ)
    | none => none)
  | _ => none
def zstL (ls : List (Option Value)) (k : Nat) (st : List Value) (μ : zMem) : zO := match st with
  | .long x :: r => (match zstoL ls k (.long x) with
    | some l => some (none, l, r, μ)
    | none => none)
  | _ => none
def zstA (ls : List (Option Value)) (k : Nat) (st : List Value) (μ : zMem) : zO := match st with
  | .ref x :: r => (match zsto ls k (.ref x) with
    | some l => some (none, l, r, μ)
    | none => none)
  | .null :: r => (match zsto ls k .null with
    | some l => some (none, l, r, μ)
    | none => none)
  | _ => none
def zinc (ls : List (Option Value)) (k : Nat) (v : Int32) (st : List Value) (μ : zMem) : zO := match zget ls k none with
  | some (.int x) => (match zsto ls k (.int (x + v)) with
    | some l => some (none, l, st, μ)
    | none => none)
  | _ => none
def zbin (f : Int32 → Int32 → Int32) (ls : List (Option Value)) (st : List Value) (μ : zMem) : zO := match st with
  | .int y :: .int x :: r => some (none, ls, .int (f x y) :: r, μ)
  | _ => none
def zdiv (f : Int32 → Int32 → Int32) (ls : List (Option Value)) (st : List Value) (μ : zMem) : zO := match st with
  | .int y :: .int x :: r => some (some (¬ y = 0), ls, .int (f x y) :: r, μ)
  | _ => none
def zbinL (f : Int64 → Int64 → Int64) (ls : List (Option Value)) (st : List Value) (μ : zMem) : zO := match st with
  | .long y :: .long x :: r => some (none, ls, .long (f x y) :: r, μ)
  | _ => none
def zuni (f : Int32 → Int32) (ls : List (Option Value)) (st : List Value) (μ : zMem) : zO := match st with
  | .int x :: r => some (none, ls, .int (f x) :: r, μ)
  | _ => none
def zgetf (ci k : Nat) (ls : List (Option Value)) (st : List Value) (μ : zMem) : zO := match st with
  | .ref c :: r => (match zkd c with
    | .inl ci' => (match Nat.beq ci' ci with
      | true => (match zfk ci k with
        | 0 => some (none, ls, .int (μ.1 c k) :: r, μ)
        | 1 => some (none, ls, .int (μ.1 c k) :: r, μ)
        | 2 => (match zrf c k with
          | .inl t => some (none, ls, .ref t :: r, μ)
          | .inr _ => none)
        | 3 => (match zrf c k with
          | .inl _ => none
          | .inr i => some (none, ls, .ref (μ.2.2 i) :: r, μ))
        | _ => none)
      | false => none)
    | .inr _ => none)
  | _ => none
def zputf (ci k : Nat) (ls : List (Option Value)) (st : List Value) (μ : zMem) : zO := match st with
  | .int x :: .ref c :: r => (match zkd c with
    | .inl ci' => (match Nat.beq ci' ci with
      | true => (match zfk ci k with
        | 0 => some (none, ls, r, zpI μ c k x)
        | 1 => some (some (x = 0 ∨ x = 1), ls, r, zpI μ c k x)
        | _ => none)
      | false => none)
    | .inr _ => none)
  | .ref q :: .ref c :: r => (match zkd c with
    | .inl ci' => (match Nat.beq ci' ci with
      | true => (match zfk ci k with
        | 3 => (match zrf c k with
          | .inl _ => none
          | .inr i => some (none, ls, r, zpR μ i q))
        | _ => none)
      | false => none)
    | .inr _ => none)
  | _ => none
def zald (g : zG) (ls : List (Option Value)) (st : List Value) (μ : zMem) : zO := match st with
  | .int i :: .ref c :: r => (match zkd c with
    | .inr (0, n) => some (some (vp_in i n), ls, .int (μ.1 c i.toNatClampNeg) :: r, μ)
    | .inr _ => none
    | .inl _ => (match zrow g c with
      | some q => some (some (vp_in i q.1), ls, .int (q.2 i.toNatClampNeg) :: r, μ)
      | none => none))
  | _ => none
def zaldT (t : Nat) (ls : List (Option Value)) (st : List Value) (μ : zMem) : zO := match st with
  | .int i :: .ref c :: r => (match zkd c with
    | .inr (t', n) => (match Nat.beq t' t with
      | true => (match t with
        | 1 => some (some (vp_in i n), ls, .long (μ.2.1 c i.toNatClampNeg) :: r, μ)
        | 2 => some (some (vp_in i n), ls, .int (μ.1 c i.toNatClampNeg) :: r, μ)
        | 3 => some (some (vp_in i n), ls, .ref (13 + i.toNatClampNeg) :: r, μ)
        | _ => none)
      | false => none)
    | .inl _ => none)
  | _ => none
def zast (t : Nat) (ls : List (Option Value)) (st : List Value) (μ : zMem) : zO := match st with
  | .int x :: .int i :: .ref c :: r => (match zkd c with
    | .inr (t', n) => (match Nat.beq t' t with
      | true => (match t with
        | 0 => some (some (vp_in i n), ls, r, zpI μ c i.toNatClampNeg x)
        | 2 => some (some (vp_in i n ∧ (x = 0 ∨ x = 1)), ls, r, zpI μ c i.toNatClampNeg x)
        | _ => none)
      | false => none)
    | .inl _ => none)
  | _ => none
def zastL (ls : List (Option Value)) (st : List Value) (μ : zMem) : zO := match st with
  | .long x :: .int i :: .ref c :: r => (match zkd c with
    | .inr (1, n) => some (some (vp_in i n), ls, r, zpL μ c i.toNatClampNeg x)
    | _ => none)
  | _ => none
def zlen1 (g : zG) (ls : List (Option Value)) (st : List Value) (μ : zMem) : zO := match st with
  | .ref c :: r => (match zkd c with
    | .inr (_, n) => some (none, ls, .int (Int32.ofNat n) :: r, μ)
    | .inl _ => (match zrow g c with
      | some q => some (none, ls, .int (Int32.ofNat q.1) :: r, μ)
      | none => none))
  | _ => none
def zc1 : Value → Bool
  | .int _ => true
  | .ref _ => true
  | .null => true
  | _ => false
def zdup (ls : List (Option Value)) (st : List Value) (μ : zMem) : zO := match st with
  | a :: r => (match zc1 a with
    | true => some (none, ls, a :: a :: r, μ)
    | false => none)
  | _ => none
def zpop (ls : List (Option Value)) (st : List Value) (μ : zMem) : zO := match st with
  | a :: r => (match zc1 a with
    | true => some (none, ls, r, μ)
    | false => none)
  | _ => none
def zdupx1 (ls : List (Option Value)) (st : List Value) (μ : zMem) : zO := match st with
  | a :: b :: r => (match zc1 a && zc1 b with
    | true => some (none, ls, a :: b :: a :: r, μ)
    | false => none)
  | _ => none
def zdup2 (ls : List (Option Value)) (st : List Value) (μ : zMem) : zO := match st with
  | a :: b :: r => (match zc1 a && zc1 b with
    | true => some (none, ls, a :: b :: a :: b :: r, μ)
    | false => none)
  | _ => none
def zl2i (ls : List (Option Value)) (st : List Value) (μ : zMem) : zO := match st with
  | .long x :: r => some (none, ls, .int x.toInt32 :: r, μ)
  | _ => none
def zi2l (ls : List (Option Value)) (st : List Value) (μ : zMem) : zO := match st with
  | .int x :: r => some (none, ls, .long x.toInt64 :: r, μ)
  | _ => none
def zlshl (ls : List (Option Value)) (st : List Value) (μ : zMem) : zO := match st with
  | .int y :: .long x :: r => some (none, ls, .long (x <<< (y.toInt64 &&& 63)) :: r, μ)
  | _ => none
def zlcmp (ls : List (Option Value)) (st : List Value) (μ : zMem) : zO := match st with
  | .long y :: .long x :: r => some (none, ls, .int (lg_cmp x y) :: r, μ)
  | _ => none
def zst1 (g : zG) (q : zI) (ls : List (Option Value)) (st : List Value) (μ : zMem) : zO := match q with
  | (i, _, v, ci, k) => match i with
  | .iconst _ => some (none, ls, .int v :: st, μ)
  | .bipush _ => some (none, ls, .int v :: st, μ)
  | .sipush _ => some (none, ls, .int v :: st, μ)
  | .ldc _ => some (none, ls, .int v :: st, μ)
  | .ldc_w _ => some (none, ls, .int v :: st, μ)
  | .ldc2_w _ => some (none, ls, .long (zlc k) :: st, μ)
  | .lconst j => some (none, ls, .long (Int64.ofNat j) :: st, μ)
  | .aconst_null => some (none, ls, .null :: st, μ)
  | .iload_n j => zldI ls j st μ
  | .iload j => zldI ls j st μ
  | .lload_n j => zldL ls j st μ
  | .lload j => zldL ls j st μ
  | .aload_n j => zldA ls j st μ
  | .aload j => zldA ls j st μ
  | .istore_n j => zstI ls j st μ
  | .istore j => zstI ls j st μ
  | .lstore j => zstL ls j st μ
  | .astore_n j => zstA ls j st μ
  | .astore j => zstA ls j st μ
  | .iinc j _ => zinc ls j v st μ
  | .iadd => (match st with
    | .int y :: .int x :: r => some (none, ls, .int (x + y) :: r, μ)
    | _ => none)
  | .isub => (match st with
    | .int y :: .int x :: r => some (none, ls, .int (x - y) :: r, μ)
    | _ => none)
  | .imul => (match st with
    | .int y :: .int x :: r => some (none, ls, .int (x * y) :: r, μ)
    | _ => none)
  | .iand => (match st with
    | .int y :: .int x :: r => some (none, ls, .int (x &&& y) :: r, μ)
    | _ => none)
  | .ior => (match st with
    | .int y :: .int x :: r => some (none, ls, .int (x ||| y) :: r, μ)
    | _ => none)
  | .ixor => (match st with
    | .int y :: .int x :: r => some (none, ls, .int (x ^^^ y) :: r, μ)
    | _ => none)
  | .ishl => (match st with
    | .int y :: .int x :: r => some (none, ls, .int (x <<< (y &&& 31)) :: r, μ)
    | _ => none)
  | .ishr => (match st with
    | .int y :: .int x :: r => some (none, ls, .int (x >>> (y &&& 31)) :: r, μ)
    | _ => none)
  | .iushr => (match st with
    | .int y :: .int x :: r => some (none, ls, .int ((x.toUInt32 >>> (y.toUInt32 &&& Int32.toUInt32 31)).toInt32) :: r, μ)
    | _ => none)
  | .idiv => (match st with
    | .int y :: .int x :: r => some (some (¬ y = 0), ls, .int (x / y) :: r, μ)
    | _ => none)
  | .irem => (match st with
    | .int y :: .int x :: r => some (some (¬ y = 0), ls, .int (x - x / y * y) :: r, μ)
    | _ => none)
  | .ineg => (match st with
    | .int x :: r => some (none, ls, .int (-x) :: r, μ)
    | _ => none)
  | .i2b => (match st with
    | .int x :: r => some (none, ls, .int (x.toInt8.toInt32) :: r, μ)
    | _ => none)
  | .i2s => (match st with
    | .int x :: r => some (none, ls, .int (x.toInt16.toInt32) :: r, μ)
    | _ => none)
  | .i2c => (match st with
    | .int x :: r => some (none, ls, .int ((x.toUInt32 % 65536).toInt32) :: r, μ)
    | _ => none)
  | .i2l => zi2l ls st μ
  | .l2i => zl2i ls st μ
  | .ladd => (match st with
    | .long y :: .long x :: r => some (none, ls, .long (x + y) :: r, μ)
    | _ => none)
  | .lmul => (match st with
    | .long y :: .long x :: r => some (none, ls, .long (x * y) :: r, μ)
    | _ => none)
  | .land => (match st with
    | .long y :: .long x :: r => some (none, ls, .long (x &&& y) :: r, μ)
    | _ => none)
  | .lor => (match st with
    | .long y :: .long x :: r => some (none, ls, .long (x ||| y) :: r, μ)
    | _ => none)
  | .lshl => zlshl ls st μ
  | .lcmp => zlcmp ls st μ
  | .dup => zdup ls st μ
  | .pop => zpop ls st μ
  | .dup_x1 => zdupx1 ls st μ
  | .dup2 => zdup2 ls st μ
  | .getfield _ => zgetf ci k ls st μ
  | .putfield _ => zputf ci k ls st μ
  | .getstatic _ => some (none, ls, .ref k :: st, μ)
  | .iaload => zald g ls st μ
  | .laload => zaldT 1 ls st μ
  | .baload => zaldT 2 ls st μ
  | .aaload => zaldT 3 ls st μ
  | .iastore => zast 0 ls st μ
  | .bastore => zast 2 ls st μ
  | .lastore => zastL ls st μ
  | .arraylength => zlen1 g ls st μ
  | .goto _ => some (none, ls, st, μ)
  | _ => none
def zrun (g : zG) : List zI → List (Option Value) → List Value → zMem → Option (List Prop × List (Option Value) × List Value × zMem)
  | [], ls, st, μ => some ([], ls, st, μ)
  | q :: r, ls, st, μ => match zst1 g q ls st μ with
    | none => none
    | some (o, ls', st', μ') => match zrun g r ls' st' μ' with
      | none => none
      | some (ps, s) => (match o with
        | none => some (ps, s)
        | some p => some (p :: ps, s))
def zall : List Prop → Prop
  | [] => True
  | p :: r => p ∧ zall r
/-! what the helpers say, and the tables' facts -/
section ZINV
variable {ls ls' : List (Option Value)} {st st' : List Value} {μ μ' : zMem} {o : Option Prop} {k : Nat}
theorem zldI_inv (h : zldI ls k st μ = some (o, ls', st', μ')) : ∃ x, zget ls k none = some (.int x) ∧ o = none ∧ ls' = ls ∧ st' = .int x :: st ∧ μ' = μ := by
  unfold zldI at h
  split at h
  · rename_i x hx
    cases h
    exact ⟨x, hx, rfl, rfl, rfl, rfl⟩
  · cases h
theorem zldL_inv (h : zldL ls k st μ = some (o, ls', st', μ')) : ∃ x, zget ls k none = some (.long x) ∧ o = none ∧ ls' = ls ∧ st' = .long x :: st ∧ μ' = μ := by
  unfold zldL at h
  split at h
  · rename_i x hx
    cases h
    exact ⟨x, hx, rfl, rfl, rfl, rfl⟩
  · cases h
theorem zldA_inv (h : zldA ls k st μ = some (o, ls', st', μ')) : ((∃ x, zget ls k none = some (.ref x) ∧ st' = .ref x :: st) ∨ (zget ls k none = some .null ∧ st' = .null :: st)) ∧ o = none ∧ ls' = ls ∧ μ' = μ := by
  unfold zldA at h
  split at h
  · rename_i x hx
    cases h
    exact ⟨Or.inl ⟨x, hx, rfl⟩, rfl, rfl, rfl⟩
  · rename_i hx
    cases h
    exact ⟨Or.inr ⟨hx, rfl⟩, rfl, rfl, rfl⟩
  · cases h
theorem zstI_inv (h : zstI ls k st μ = some (o, ls', st', μ')) : ∃ x, st = .int x :: st' ∧ zsto ls k (.int x) = some ls' ∧ o = none ∧ μ' = μ := by
  unfold zstI at h
  split at h
  · split at h
    · rename_i hl
      cases h
      exact ⟨_, rfl, hl, rfl, rfl⟩
    · cases h
  · cases h
theorem zstL_inv (h : zstL ls k st μ = some (o, ls', st', μ')) : ∃ x, st = .long x :: st' ∧ zstoL ls k (.long x) = some ls' ∧ o = none ∧ μ' = μ := by
  unfold zstL at h
  split at h
  · split at h
    · rename_i hl
      cases h
      exact ⟨_, rfl, hl, rfl, rfl⟩
    · cases h
  · cases h
theorem zstA_inv (h : zstA ls k st μ = some (o, ls', st', μ')) : ((∃ x, st = .ref x :: st' ∧ zsto ls k (.ref x) = some ls') ∨ (st = .null :: st' ∧ zsto ls k .null = some ls')) ∧ o = none ∧ μ' = μ := by
  unfold zstA at h
  split at h
  · split at h
    · rename_i hl
      cases h
      exact ⟨Or.inl ⟨_, rfl, hl⟩, rfl, rfl⟩
    · cases h
  · split at h
    · rename_i hl
      cases h
      exact ⟨Or.inr ⟨rfl, hl⟩, rfl, rfl⟩
    · cases h
  · cases h
theorem zinc_inv {v : Int32} (h : zinc ls k v st μ = some (o, ls', st', μ')) : ∃ x, zget ls k none = some (.int x) ∧ zsto ls k (.int (x + v)) = some ls' ∧ st' = st ∧ o = none ∧ μ' = μ := by
  unfold zinc at h
  split at h
  · rename_i x hx
    split at h
    · rename_i l hl
      cases h
      exact ⟨x, hx, hl, rfl, rfl, rfl⟩
    · cases h
  · cases h
theorem zbin_inv {f : Int32 → Int32 → Int32} (h : zbin f ls st μ = some (o, ls', st', μ')) : ∃ x y r, st = .int y :: .int x :: r ∧ o = none ∧ ls' = ls ∧ st' = .int (f x y) :: r ∧ μ' = μ := by
  unfold zbin at h
  split at h
  · cases h
    exact ⟨_, _, _, rfl, rfl, rfl, rfl, rfl⟩
  · cases h
theorem zdiv_inv {f : Int32 → Int32 → Int32} (h : zdiv f ls st μ = some (o, ls', st', μ')) : ∃ x y r, st = .int y :: .int x :: r ∧ o = some (¬ y = 0) ∧ ls' = ls ∧ st' = .int (f x y) :: r ∧ μ' = μ := by
  unfold zdiv at h
  split at h
  · cases h
    exact ⟨_, _, _, rfl, rfl, rfl, rfl, rfl⟩
  · cases h
theorem zbinL_inv {f : Int64 → Int64 → Int64} (h : zbinL f ls st μ = some (o, ls', st', μ')) : ∃ x y r, st = .long y :: .long x :: r ∧ o = none ∧ ls' = ls ∧ st' = .long (f x y) :: r ∧ μ' = μ := by
  unfold zbinL at h
  split at h
  · cases h
    exact ⟨_, _, _, rfl, rfl, rfl, rfl, rfl⟩
  · cases h
theorem zuni_inv {f : Int32 → Int32} (h : zuni f ls st μ = some (o, ls', st', μ')) : ∃ x r, st = .int x :: r ∧ o = none ∧ ls' = ls ∧ st' = .int (f x) :: r ∧ μ' = μ := by
  unfold zuni at h
  split at h
  · cases h
    exact ⟨_, _, rfl, rfl, rfl, rfl, rfl⟩
  · cases h
theorem zi2l_inv (h : zi2l ls st μ = some (o, ls', st', μ')) : ∃ x r, st = .int x :: r ∧ o = none ∧ ls' = ls ∧ st' = .long x.toInt64 :: r ∧ μ' = μ := by
  unfold zi2l at h
  split at h
  · cases h
    exact ⟨_, _, rfl, rfl, rfl, rfl, rfl⟩
  · cases h
theorem zl2i_inv (h : zl2i ls st μ = some (o, ls', st', μ')) : ∃ x r, st = .long x :: r ∧ o = none ∧ ls' = ls ∧ st' = .int x.toInt32 :: r ∧ μ' = μ := by
  unfold zl2i at h
  split at h
  · cases h
    exact ⟨_, _, rfl, rfl, rfl, rfl, rfl⟩
  · cases h
theorem zlshl_inv (h : zlshl ls st μ = some (o, ls', st', μ')) : ∃ x y r, st = .int y :: .long x :: r ∧ o = none ∧ ls' = ls ∧ st' = .long (x <<< (y.toInt64 &&& 63)) :: r ∧ μ' = μ := by
  unfold zlshl at h
  split at h
  · cases h
    exact ⟨_, _, _, rfl, rfl, rfl, rfl, rfl⟩
  · cases h
theorem zlcmp_inv (h : zlcmp ls st μ = some (o, ls', st', μ')) : ∃ x y r, st = .long y :: .long x :: r ∧ o = none ∧ ls' = ls ∧ st' = .int (lg_cmp x y) :: r ∧ μ' = μ := by
  unfold zlcmp at h
  split at h
  · cases h
    exact ⟨_, _, _, rfl, rfl, rfl, rfl, rfl⟩
  · cases h
theorem zdup_inv (h : zdup ls st μ = some (o, ls', st', μ')) : ∃ a r, zc1 a = true ∧ st = a :: r ∧ o = none ∧ ls' = ls ∧ st' = a :: a :: r ∧ μ' = μ := by
  unfold zdup at h
  split at h
  · split at h
    · rename_i hc
      cases h
      exact ⟨_, _, hc, rfl, rfl, rfl, rfl, rfl⟩
    · cases h
  · cases h
theorem zpop_inv (h : zpop ls st μ = some (o, ls', st', μ')) : ∃ a, zc1 a = true ∧ st = a :: st' ∧ o = none ∧ ls' = ls ∧ μ' = μ := by
  unfold zpop at h
  split at h
  · split at h
    · rename_i hc
      cases h
      exact ⟨_, hc, rfl, rfl, rfl, rfl⟩
    · cases h
  · cases h
theorem zdupx1_inv (h : zdupx1 ls st μ = some (o, ls', st', μ')) : ∃ a b r, (zc1 a = true ∧ zc1 b = true) ∧ st = a :: b :: r ∧ o = none ∧ ls' = ls ∧ st' = a :: b :: a :: r ∧ μ' = μ := by
  unfold zdupx1 at h
  split at h
  · split at h
    · rename_i hc
      cases h
      exact ⟨_, _, _, by simpa using hc, rfl, rfl, rfl, rfl, rfl⟩
    · cases h
  · cases h
theorem zdup2_inv (h : zdup2 ls st μ = some (o, ls', st', μ')) : ∃ a b r, (zc1 a = true ∧ zc1 b = true) ∧ st = a :: b :: r ∧ o = none ∧ ls' = ls ∧ st' = a :: b :: a :: b :: r ∧ μ' = μ := by
  unfold zdup2 at h
  split at h
  · split at h
    · rename_i hc
      cases h
      exact ⟨_, _, _, by simpa using hc, rfl, rfl, rfl, rfl, rfl⟩
    · cases h
  · cases h
theorem zgetf_inv {g : zG} {ci : Nat} (h : zgetf ci k ls st μ = some (o, ls', st', μ')) : ∃ (c : Nat) (v : Value) (r : List Value), st = .ref c :: r ∧ zkd c = .inl ci ∧ ztr g v = zfv g μ c ci k ∧ o = none ∧ ls' = ls ∧ st' = v :: r ∧ μ' = μ := by
  unfold zgetf at h
  split at h
  · rename_i c r
    split at h
    · rename_i ci' hk
      split at h
      · rename_i hb
        have e : ci' = ci := Nat.eq_of_beq_eq_true hb
        subst e
        split at h
        · rename_i hf
          cases h
          exact ⟨c, _, r, rfl, hk, by unfold zfv; rw [hf]; rfl, rfl, rfl, rfl, rfl⟩
        · rename_i hf
          cases h
          exact ⟨c, _, r, rfl, hk, by unfold zfv; rw [hf]; rfl, rfl, rfl, rfl, rfl⟩
        · rename_i hf
          split at h
          · rename_i t ht
            cases h
            exact ⟨c, _, r, rfl, hk, by unfold zfv; rw [hf, ht]; rfl, rfl, rfl, rfl, rfl⟩
          · cases h
        · rename_i hf
          split at h
          · cases h
          · rename_i t ht
            cases h
            exact ⟨c, _, r, rfl, hk, by unfold zfv; rw [hf, ht]; rfl, rfl, rfl, rfl, rfl⟩
        · cases h
      · cases h
    · cases h
  · cases h
theorem zputf_inv {ci : Nat} (h : zputf ci k ls st μ = some (o, ls', st', μ')) :
    (∃ (c : Nat) (x : Int32), st = .int x :: .ref c :: st' ∧ zkd c = .inl ci ∧ ((zfk ci k = 0 ∧ o = none) ∨ (zfk ci k = 1 ∧ o = some (x = 0 ∨ x = 1))) ∧ ls' = ls ∧ μ' = zpI μ c k x) ∨
    (∃ (c q i : Nat), st = .ref q :: .ref c :: st' ∧ zkd c = .inl ci ∧ zfk ci k = 3 ∧ zrf c k = .inr i ∧ o = none ∧ ls' = ls ∧ μ' = zpR μ i q) := by
  unfold zputf at h
  split at h
  · rename_i x c r
    split at h
    · rename_i ci' hk
      split at h
      · rename_i hb
        have e : ci' = ci := Nat.eq_of_beq_eq_true hb
        subst e
        split at h
        · rename_i hf
          cases h
          exact Or.inl ⟨c, x, rfl, hk, Or.inl ⟨hf, rfl⟩, rfl, rfl⟩
        · rename_i hf
          cases h
          exact Or.inl ⟨c, x, rfl, hk, Or.inr ⟨hf, rfl⟩, rfl, rfl⟩
        · cases h
      · cases h
    · cases h
  · rename_i q c r
    split at h
    · rename_i ci' hk
      split at h
      · rename_i hb
        have e : ci' = ci := Nat.eq_of_beq_eq_true hb
        subst e
        split at h
        · rename_i hf
          split at h
          · cases h
          · rename_i i hi
            cases h
            exact Or.inr ⟨c, q, i, rfl, hk, hf, hi, rfl, rfl, rfl⟩
        · cases h
      · cases h
    · cases h
  · cases h
theorem zald_inv {g : zG} (h : zald g ls st μ = some (o, ls', st', μ')) : ∃ (c : Nat) (i : Int32) (n : Nat) (f : Nat → Int32) (r : List Value), st = .int i :: .ref c :: r ∧ ((zkd c = .inr (0, n) ∧ f = μ.1 c) ∨ zrow g c = some (n, f)) ∧ o = some (vp_in i n) ∧ ls' = ls ∧ st' = .int (f i.toNatClampNeg) :: r ∧ μ' = μ := by
  unfold zald at h
  split at h
  · rename_i i c r
    split at h
    · rename_i n hk
      cases h
      exact ⟨c, i, n, _, r, rfl, Or.inl ⟨hk, rfl⟩, rfl, rfl, rfl, rfl⟩
    · cases h
    · split at h
      · rename_i q hq
        cases h
        exact ⟨c, i, q.1, q.2, r, rfl, Or.inr hq, rfl, rfl, rfl, rfl⟩
      · cases h
  · cases h
theorem zaldT_inv {t : Nat} (h : zaldT t ls st μ = some (o, ls', st', μ')) : ∃ (c : Nat) (i : Int32) (n : Nat) (r : List Value), st = .int i :: .ref c :: r ∧ zkd c = .inr (t, n) ∧ o = some (vp_in i n) ∧ ls' = ls ∧ ((t = 1 ∧ st' = .long (μ.2.1 c i.toNatClampNeg) :: r) ∨ (t = 2 ∧ st' = .int (μ.1 c i.toNatClampNeg) :: r) ∨ (t = 3 ∧ st' = .ref (13 + i.toNatClampNeg) :: r)) ∧ μ' = μ := by
  unfold zaldT at h
  split at h
  · rename_i i c r
    split at h
    · rename_i t' n hk
      split at h
      · rename_i hb
        have e : t' = t := Nat.eq_of_beq_eq_true hb
        subst e
        split at h
        · cases h
          exact ⟨c, i, n, r, rfl, hk, rfl, rfl, Or.inl ⟨rfl, rfl⟩, rfl⟩
        · cases h
          exact ⟨c, i, n, r, rfl, hk, rfl, rfl, Or.inr (Or.inl ⟨rfl, rfl⟩), rfl⟩
        · cases h
          exact ⟨c, i, n, r, rfl, hk, rfl, rfl, Or.inr (Or.inr ⟨rfl, rfl⟩), rfl⟩
        · cases h
      · cases h
    · cases h
  · cases h
theorem zast_inv {t : Nat} (h : zast t ls st μ = some (o, ls', st', μ')) : ∃ (c : Nat) (i x : Int32) (n : Nat), st = .int x :: .int i :: .ref c :: st' ∧ zkd c = .inr (t, n) ∧ ((t = 0 ∧ o = some (vp_in i n)) ∨ (t = 2 ∧ o = some (vp_in i n ∧ (x = 0 ∨ x = 1)))) ∧ ls' = ls ∧ μ' = zpI μ c i.toNatClampNeg x := by
  unfold zast at h
  split at h
  · rename_i x i c r
    split at h
    · rename_i t' n hk
      split at h
      · rename_i hb
        have e : t' = t := Nat.eq_of_beq_eq_true hb
        subst e
        split at h
        · cases h
          exact ⟨c, i, x, n, rfl, hk, Or.inl ⟨rfl, rfl⟩, rfl, rfl⟩
        · cases h
          exact ⟨c, i, x, n, rfl, hk, Or.inr ⟨rfl, rfl⟩, rfl, rfl⟩
        · cases h
      · cases h
    · cases h
  · cases h
theorem zastL_inv (h : zastL ls st μ = some (o, ls', st', μ')) : ∃ (c : Nat) (i : Int32) (x : Int64) (n : Nat), st = .long x :: .int i :: .ref c :: st' ∧ zkd c = .inr (1, n) ∧ o = some (vp_in i n) ∧ ls' = ls ∧ μ' = zpL μ c i.toNatClampNeg x := by
  unfold zastL at h
  split at h
  · rename_i x i c r
    split at h
    · rename_i n hk
      cases h
      exact ⟨c, i, x, n, rfl, hk, rfl, rfl, rfl⟩
    · cases h
  · cases h
theorem zlen1_inv {g : zG} (h : zlen1 g ls st μ = some (o, ls', st', μ')) : ∃ (c n : Nat) (r : List Value), st = .ref c :: r ∧ ((∃ t, zkd c = .inr (t, n)) ∨ ∃ f, zrow g c = some (n, f)) ∧ o = none ∧ ls' = ls ∧ st' = .int (Int32.ofNat n) :: r ∧ μ' = μ := by
  unfold zlen1 at h
  split at h
  · rename_i c r
    split at h
    · rename_i t n hk
      cases h
      exact ⟨c, n, r, rfl, Or.inl ⟨t, hk⟩, rfl, rfl, rfl, rfl⟩
    · split at h
      · rename_i q hq
        cases h
        exact ⟨c, q.1, r, rfl, Or.inr ⟨q.2, hq⟩, rfl, rfl, rfl, rfl⟩
      · cases h
  · cases h
end ZINV
