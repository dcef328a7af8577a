/-! the world: a memory of ints, longs and references, and the machine's cells that hold it -/
abbrev zad (g : zG) : Nat → Nat := g.2.2.2.1
abbrev zbase (g : zG) : Nat := g.2.2.2.2.1
abbrev zDD (g : zG) : va_G := (g.1, g.2.1)
def zA (g : zG) : Nat → Prop := fun q => zbase g ≤ q
def ztr (g : zG) : Value → Value
  | .ref c => .ref (zad g c)
  | v => v
def zfv (g : zG) (μ : zMem) (c ci k : Nat) : Value := match zfk ci k with
  | 0 => .int (μ.1 c k)
  | 1 => .int (μ.1 c k)
  | 2 => (match zrf c k with
    | .inl q => .ref (zad g q)
    | .inr _ => .null)
  | 3 => (match zrf c k with
    | .inl _ => .null
    | .inr i => .ref (zad g (μ.2.2 i)))
  | _ => .null
def zarr (g : zG) (μ : zMem) (c t : Nat) : (Nat → Int32) ⊕ (Nat → Int64) ⊕ (Nat → UInt32) ⊕ (Nat → UInt64) ⊕ (Nat → Option Nat) := match t with
  | 1 => .inr (.inl (μ.2.1 c))
  | 3 => .inr (.inr (.inr (.inr (fun i => some (zad g (13 + i))))))
  | _ => .inl (μ.1 c)
def zcell (g : zG) (μ : zMem) (c : Nat) : va_E := match zkd c with
  | .inl ci => .inr (ci, (List.range (zNF ci)).map (zfv g μ c ci))
  | .inr (t, n) => .inl (g.2.2.1 t, n, zarr g μ c t)
def zws (g : zG) (μ : zMem) : va_W := (List.range zN).map (fun c => (zad g c, zcell g μ c))
def ztys (g : zG) : List (ClassId × FieldType) := [(g.2.2.1 0, .int), (g.2.2.1 1, .long), (g.2.2.1 2, .boolean), (g.2.2.1 3, .object "CastWithVows$Shelf")]
theorem zws_at {g : zG} {μ : zMem} {c : Nat} (h : c < zN) : (zws g μ)[c]? = some (zad g c, zcell g μ c) := by
  unfold zws
  rw [List.getElem?_map, List.getElem?_range h]
  rfl
theorem zws_obj {g : zG} {μ : zMem} {c ci : Nat} (h : c < zN) (hk : zkd c = .inl ci) : (zws g μ)[c]? = some (zad g c, .inr (ci, (List.range (zNF ci)).map (zfv g μ c ci))) := by
  rw [zws_at h]
  unfold zcell
  rw [hk]
theorem zws_arr {g : zG} {μ : zMem} {c t n : Nat} (h : c < zN) (hk : zkd c = .inr (t, n)) : (zws g μ)[c]? = some (zad g c, .inl (g.2.2.1 t, n, zarr g μ c t)) := by
  rw [zws_at h]
  unfold zcell
  rw [hk]
/-- int, long and reference stores -/
def zu (f : Nat → Nat → Int32) (c k : Nat) (x : Int32) : Nat → Nat → Int32 := fun c' k' => if c' = c then (if k' = k then x else f c' k') else f c' k'
def zuL (f : Nat → Nat → Int64) (c k : Nat) (x : Int64) : Nat → Nat → Int64 := fun c' k' => if c' = c then (if k' = k then x else f c' k') else f c' k'
def zuR (f : Nat → Nat) (i q : Nat) : Nat → Nat := fun j => if j = i then q else f j
/-- a whole row -/
def zuA (f : Nat → Nat → Int32) (c : Nat) (r : Nat → Int32) : Nat → Nat → Int32 := fun c' => if c' = c then r else f c'
def zuAL (f : Nat → Nat → Int64) (c : Nat) (r : Nat → Int64) : Nat → Nat → Int64 := fun c' => if c' = c then r else f c'
def zpI (μ : zMem) (c k : Nat) (v : Int32) : zMem := (zu μ.1 c k v, μ.2)
def zpL (μ : zMem) (c k : Nat) (v : Int64) : zMem := (μ.1, zuL μ.2.1 c k v, μ.2.2)
def zpR (μ : zMem) (i q : Nat) : zMem := (μ.1, μ.2.1, zuR μ.2.2 i q)
def zpA (μ : zMem) (c : Nat) (r : Nat → Int32) : zMem := (zuA μ.1 c r, μ.2)
def zpAL (μ : zMem) (c : Nat) (r : Nat → Int64) : zMem := (μ.1, zuAL μ.2.1 c r, μ.2.2)
theorem zws_set {g : zG} {μ μ' : zMem} {c : Nat} {e : va_E} (h : c < zN) (hs : zcell g μ' c = e) (ho : ∀ c', c' ≠ c → zcell g μ' c' = zcell g μ c') : (zws g μ).set c (zad g c, e) = zws g μ' := by
  apply List.ext_getElem?
  intro i
  by_cases hi : i = c
  · subst hi
    rw [List.getElem?_set_self (by unfold zws; rw [List.length_map, List.length_range]; exact h), zws_at h, hs]
  · rw [List.getElem?_set_ne (Ne.symm hi)]
    by_cases hN : i < zN
    · rw [zws_at hN, zws_at hN, ho i hi]
    · have e1 : ∀ ν : zMem, (zws g ν)[i]? = none := fun ν => by
        apply List.getElem?_eq_none
        unfold zws
        rw [List.length_map, List.length_range]
        omega
      rw [e1, e1]
theorem zcell_off {g : zG} {μ : zMem} {c c' : Nat} {k : Nat} {x : Int32} (h : c' ≠ c) : zcell g (zu μ.1 c k x, μ.2) c' = zcell g μ c' := by
  have e : zu μ.1 c k x c' = μ.1 c' := by funext j; simp [zu, h]
  unfold zcell zfv zarr
  dsimp only
  rw [e]
theorem zcell_offL {g : zG} {μ : zMem} {c c' : Nat} {k : Nat} {x : Int64} (h : c' ≠ c) : zcell g (μ.1, zuL μ.2.1 c k x, μ.2.2) c' = zcell g μ c' := by
  have e : zuL μ.2.1 c k x c' = μ.2.1 c' := by funext j; simp [zuL, h]
  unfold zcell zfv zarr
  dsimp only
  rw [e]
theorem zcell_offA {g : zG} {μ : zMem} {c c' : Nat} {r : Nat → Int32} (h : c' ≠ c) : zcell g (zuA μ.1 c r, μ.2) c' = zcell g μ c' := by
  have e : zuA μ.1 c r c' = μ.1 c' := by simp [zuA, h]
  unfold zcell zfv zarr
  dsimp only
  rw [e]
theorem zcell_offAL {g : zG} {μ : zMem} {c c' : Nat} {r : Nat → Int64} (h : c' ≠ c) : zcell g (μ.1, zuAL μ.2.1 c r, μ.2.2) c' = zcell g μ c' := by
  have e : zuAL μ.2.1 c r c' = μ.2.1 c' := by simp [zuAL, h]
  unfold zcell zfv zarr
  dsimp only
  rw [e]
/-- an int field becomes x -/
theorem zws_put {g : zG} {μ : zMem} {c ci k : Nat} {x : Int32} (h : c < zN) (hk : zkd c = .inl ci) (hf : zfk ci k = 0 ∨ zfk ci k = 1) (hlt : k < zNF ci) :
    (zws g μ).set c (zad g c, .inr (ci, ((List.range (zNF ci)).map (zfv g μ c ci)).set k (.int x))) = zws g (zu μ.1 c k x, μ.2) := by
  refine zws_set h ?_ (fun c' h' => zcell_off h')
  unfold zcell
  rw [hk]
  refine congrArg (fun z => Sum.inr (ci, z)) ?_
  apply List.ext_getElem?
  intro i
  by_cases hi : i = k
  · subst hi
    rw [List.getElem?_set_self (by rw [List.length_map, List.length_range]; exact hlt), List.getElem?_map, List.getElem?_range hlt]
    rw [Option.map_some]
    unfold zfv
    rcases hf with hf | hf <;> rw [hf] <;> simp [zu]
  · rw [List.getElem?_set_ne (Ne.symm hi), List.getElem?_map, List.getElem?_map]
    by_cases hN : i < zNF ci
    · rw [List.getElem?_range hN]
      simp [zfv, zu, hi]
    · rw [List.getElem?_eq_none (by rw [List.length_range]; omega)]
      rfl
/-- a reference that changes becomes q -/
theorem zws_putR {g : zG} {μ : zMem} {c ci k i q : Nat} (h : c < zN) (hk : zkd c = .inl ci) (hf : zfk ci k = 3) (hr : zrf c k = .inr i) (hlt : k < zNF ci)
    (hone : ∀ c' ci' k', zkd c' = .inl ci' → k' < zNF ci' → zfk ci' k' = 3 → zrf c' k' = .inr i → c' = c ∧ k' = k) :
    (zws g μ).set c (zad g c, .inr (ci, ((List.range (zNF ci)).map (zfv g μ c ci)).set k (.ref (zad g q)))) = zws g (μ.1, μ.2.1, zuR μ.2.2 i q) := by
  have key : ∀ c' ci' k', zkd c' = .inl ci' → k' < zNF ci' → ¬ (c' = c ∧ k' = k) → zfv g (μ.1, μ.2.1, zuR μ.2.2 i q) c' ci' k' = zfv g μ c' ci' k' := by
    intro c' ci' k' h1 h2 h3
    unfold zfv
    split
    · rfl
    · rfl
    · rfl
    · rename_i h9
      cases hz : zrf c' k' with
      | inl _ => rfl
      | inr j =>
        dsimp only
        by_cases hj : j = i
        · subst hj
          exact absurd (hone c' ci' k' h1 h2 h9 hz) h3
        · simp [zuR, hj]
    · rfl
  refine zws_set h ?_ (fun c' h' => ?_)
  · unfold zcell
    rw [hk]
    refine congrArg (fun z => Sum.inr (ci, z)) ?_
    apply List.ext_getElem?
    intro j
    by_cases hi : j = k
    · subst hi
      rw [List.getElem?_set_self (by rw [List.length_map, List.length_range]; exact hlt), List.getElem?_map, List.getElem?_range hlt]
      rw [Option.map_some]
      unfold zfv
      rw [hf, hr]
      simp [zuR]
    · rw [List.getElem?_set_ne (Ne.symm hi), List.getElem?_map, List.getElem?_map]
      by_cases hN : j < zNF ci
      · rw [List.getElem?_range hN]
        exact congrArg some (key c ci j hk hN (fun z => hi z.2))
      · rw [List.getElem?_eq_none (by rw [List.length_range]; omega)]
        rfl
  · unfold zcell
    cases hc : zkd c' with
    | inl ci' =>
      refine congrArg (fun z => Sum.inr (ci', z)) ?_
      apply List.map_congr_left
      intro k' hk'
      exact key c' ci' k' hc (List.mem_range.mp hk') (fun z => h' z.1)
    | inr t => rfl
/-- an element of a row of ints becomes x -/
theorem zws_arrI {g : zG} {μ : zMem} {c t n i : Nat} {x : Int32} (h : c < zN) (hk : zkd c = .inr (t, n)) (ht : t = 0 ∨ t = 2) :
    (zws g μ).set c (zad g c, .inl (g.2.2.1 t, n, .inl (upd (μ.1 c) i x))) = zws g (zu μ.1 c i x, μ.2) := by
  refine zws_set h ?_ (fun c' h' => zcell_off h')
  unfold zcell
  rw [hk]
  have e : zu μ.1 c i x c = upd (μ.1 c) i x := by funext j; simp [zu, upd]
  rcases ht with rfl | rfl <;> simp [zarr, e]
theorem zws_arrL {g : zG} {μ : zMem} {c n i : Nat} {x : Int64} (h : c < zN) (hk : zkd c = .inr (1, n)) :
    (zws g μ).set c (zad g c, .inl (g.2.2.1 1, n, .inr (.inl (vp_updL (μ.2.1 c) i x)))) = zws g (μ.1, zuL μ.2.1 c i x, μ.2.2) := by
  refine zws_set h ?_ (fun c' h' => zcell_offL h')
  unfold zcell
  rw [hk]
  have e : zuL μ.2.1 c i x c = vp_updL (μ.2.1 c) i x := by funext j; simp [zuL, vp_updL]
  simp [zarr, e]
theorem zws_rowI {g : zG} {μ : zMem} {c n : Nat} {r : Nat → Int32} (h : c < zN) (hk : zkd c = .inr (0, n)) :
    (zws g μ).set c (zad g c, .inl (g.2.2.1 0, n, .inl r)) = zws g (zuA μ.1 c r, μ.2) := by
  refine zws_set h ?_ (fun c' h' => zcell_offA h')
  unfold zcell
  rw [hk]
  simp [zarr, zuA]
theorem zws_rowL {g : zG} {μ : zMem} {c n : Nat} {r : Nat → Int64} (h : c < zN) (hk : zkd c = .inr (1, n)) :
    (zws g μ).set c (zad g c, .inl (g.2.2.1 1, n, .inr (.inl r))) = zws g (μ.1, zuAL μ.2.1 c r, μ.2.2) := by
  refine zws_set h ?_ (fun c' h' => zcell_offAL h')
  unfold zcell
  rw [hk]
  simp [zarr, zuAL]
/-- what stands outside the two objects: the script, the class's own rows, the text of names -/
def zABOVE : Nat → Int32 := fun k => zget [-1, 0, 0, 2, 1, 3, 0, 4] k 0
def zOWN : Nat → Int32 := fun k => zget [1, 10, 11, 2, 20, 0, 0, 0, 0, 30, 0, 0, 0, 41, 40, 0, 0, 0, 50, 0, 0, 0, 0, 60, 70, 0, 0, 0, 0, 80, 0, 81] k 0
def zTXT : List (List Int32) := [[119, 107, 100, 104, 98, 112]]
def zro (g : zG) (c L : Nat) (f : Nat → Int32) (U : State) (H : Heap) : Prop := va_T .int (zad g c) L (fun j => .int (f j)) (zA g) U H ∧ zad g c < H.size ∧ ¬ zA g (zad g c)
def zRO (g : zG) (U : State) (H : Heap) : Prop := zro g 100 g.2.2.2.2.2.1 g.2.2.2.2.2.2 U H ∧ zro g 101 8 zABOVE U H ∧ zro g 102 32 zOWN U H ∧
  va_Z "CastWithVows$Acts" "ABOVE" "[I" (.ref (zad g 101)) (zA g) U H ∧ va_Z "CastWithVows$Acts" "OWN" "[I" (.ref (zad g 102)) (zA g) U H ∧
  va_Z "java/lang/String" "COMPACT_STRINGS" "Z" (.int 1) (zA g) U H ∧ vk_S 1 [6] zTXT (fun _ => zad g 103) (fun _ => zad g 104) (zA g) U H
theorem zro.kept {g : zG} {c L : Nat} {f : Nat → Int32} {U : State} {H H1 : Heap} (h : zro g c L f U H) (hz : H.size ≤ H1.size) (hq : ∀ a : Nat, a < H.size → ¬ zA g a → H1[a]? = H[a]?) : zro g c L f U H1 :=
  ⟨h.1.kept hq, Nat.lt_of_lt_of_le h.2.1 hz, h.2.2⟩
theorem zro.moved {g : zG} {c L : Nat} {f : Nat → Int32} {u U : State} {H : Heap} (hvm : u.vm.Alike U.vm) (h : zro g c L f u H) : zro g c L f U H := ⟨va_T.moved hvm h.1, h.2⟩
theorem zRO.kept {g : zG} {U : State} {H H1 : Heap} (h : zRO g U H) (hz : H.size ≤ H1.size) (hq : ∀ a : Nat, a < H.size → ¬ zA g a → H1[a]? = H[a]?) : zRO g U H1 :=
  ⟨h.1.kept hz hq, h.2.1.kept hz hq, h.2.2.1.kept hz hq, h.2.2.2.1.kept hq, h.2.2.2.2.1.kept hq, h.2.2.2.2.2.1.kept hq, h.2.2.2.2.2.2.kept hq⟩
theorem zRO.moved {g : zG} {u U : State} {H : Heap} (hvm : u.vm.Alike U.vm) (h : zRO g u H) : zRO g U H :=
  ⟨h.1.moved hvm, h.2.1.moved hvm, h.2.2.1.moved hvm, va_Z.moved hvm h.2.2.2.1, va_Z.moved hvm h.2.2.2.2.1, va_Z.moved hvm h.2.2.2.2.2.1, vk_S.moved hvm h.2.2.2.2.2.2⟩
/-- the nest's words, which no state forgets either, and the text's -/
def znest : List (String × Nat × MethodName) := [("CastWithVows$Foundry", 54, ⟨"CastWithVows", "isWithin", "(II)Z"⟩), ("CastWithVows$Foundry", 74, ⟨"CastWithVows", "bit", "(Z)I"⟩), ("CastWithVows$Program", 32, ⟨"CastWithVows", "bit", "(Z)I"⟩), ("CastWithVows$Sounds", 40, ⟨"CastWithVows", "bit", "(Z)I"⟩), ("CastWithVows$Caster", 64, ⟨"CastWithVows", "bit", "(Z)I"⟩), ("CastWithVows$Deeds", 48, ⟨"CastWithVows", "bit", "(Z)I"⟩), ("CastWithVows$Shelf", 49, ⟨"CastWithVows", "bit", "(Z)I"⟩)]
def zNW (g : zG) (U : State) : Prop := (∀ q ∈ znest, va_Nw (.methodLinkNest q.1 q.2.1 q.2.2 "CastWithVows") U) ∧ vk_R "CastWithVows$Reader" 74 "wkdhbp" (zad g 103) U
theorem zNW.warm {g : zG} {s U : State} (hW : s.WarmedH U.vm) (h : zNW g s) : zNW g U := ⟨fun q hq => va_Nw.warmM hW (h.1 q hq), vk_R.warm hW h.2⟩
theorem zNW.same {g : zG} {u U : State} (hv : U.vm = u.vm) (h : zNW g u) : zNW g U := ⟨fun q hq => va_Nw.same rfl hv.symm (h.1 q hq), vk_R.same hv h.2⟩
/-- the cells lie apart, and behind what was there before -/
def zGok (g : zG) : Prop := (∀ i j, i < zN → j < zN → zad g i = zad g j → i = j) ∧ ∀ i, i < zN → zbase g ≤ zad g i
theorem zws_D {g : zG} {μ : zMem} (h : zGok g) : va_D (zA g) (zws g μ) := by
  have key : ∀ (k : Nat) (q : Nat × va_E), (zws g μ)[k]? = some q → k < zN ∧ q.1 = zad g k := by
    intro k q hk
    have hl : k < zN := by
      have := (List.getElem?_eq_some_iff.mp hk).1
      unfold zws at this
      rw [List.length_map, List.length_range] at this
      exact this
    rw [zws_at hl] at hk
    cases hk
    exact ⟨hl, rfl⟩
  refine ⟨fun i j p q hp hq e => ?_, fun k q hk => ?_⟩
  · obtain ⟨h1, h2⟩ := key i p hp
    obtain ⟨h3, h4⟩ := key j q hq
    exact h.1 i j h1 h3 (by rw [← h2, ← h4]; exact e)
  · obtain ⟨h1, h2⟩ := key k q hk
    rw [h2]
    exact h.2 k h1
/-- what a method finds: its memory in the machine's cells -/
def zWorld (g : zG) (μ : zMem) (U : State) : Prop := va_P (zDD g) vwCl (zws g μ) U.heap ∧ va_K (zDD g) vwCl (ztys g) U ∧ zRO g U U.heap ∧ zNW g U ∧ zGok g ∧ zbase g ≤ U.heap.size
theorem zWorld_blind (g : zG) (μ : zMem) (av : List Value) : FrameBlind (va_Pc av (zWorld g μ)) := by
  intro a U f mk h
  obtain ⟨h0, h1, h2, h3, h4, h5, h6⟩ := h
  exact ⟨h0, h1, va_K.moved (u := U) (U := U.calling f mk a) (Vm.Alike.refl _) h2, zRO.moved (u := U) (U := U.calling f mk a) (Vm.Alike.refl _) h3, zNW.same (u := U) (U := U.calling f mk a) rfl h4, h5, h6⟩
/-- a method: name, code, locals, answer, class -/
abbrev zY : Type := MethodName × ByteArray × Nat × Option FieldType × Nat
def zwsY (Y : zY) : List Cond := .code Y.1 Y.2.1 Y.2.2.1 Y.2.2.2.1 :: ztbl
def zrm (d : Nat) : Room := { frames := d, cells := 0, slots := 0, locals := 64 * d }
/-- THE CONTRACT of a method, for one memory -/
def zM (g : zG) (d : Nat) (Y : zY) (av : List Value) (μ : zMem) (Q : Option Value → zMem → Prop) : Prop :=
  ∀ l : Launch, Met l Y.1 (zwsY Y) (zrm d) (va_Pc (av.map (ztr g)) (zWorld g μ)) (fun _ st o t => ∃ (v : Option Value) (μ' : zMem), o = .returned (v.map (ztr g)) ∧ Q v μ' ∧ va_P (zDD g) vwCl (zws g μ') t.heap ∧ va_F (zA g) st t) 0 0 (zA g)
