/-! building: the walk of a constructor over a list of cells that grows -/
def bDy (g : zG) (s : State) (H : Heap) (locs : List Loc) (ws : va_W) : Prop := va_P (zDD g) vwCl ws H ∧ va_D (zA g) ws ∧ va_S (zA g) s.heap H locs
/-- the nest's words for the constructors, and the class of rows of shelves -/
def bnest : List (String × Nat × MethodName) := [("CastWithVows", 9, ⟨"CastWithVows$Foundry", "<init>", "()V"⟩), ("CastWithVows$Foundry", 39, ⟨"CastWithVows$Program", "<init>", "()V"⟩), ("CastWithVows", 18, ⟨"CastWithVows$Reader", "<init>", "()V"⟩), ("CastWithVows$Reader", 15, ⟨"CastWithVows$Program", "<init>", "()V"⟩), ("CastWithVows", 55, ⟨"CastWithVows$Changes", "<init>", "()V"⟩), ("CastWithVows", 62, ⟨"CastWithVows$Acts", "<init>", "()V"⟩), ("CastWithVows", 73, ⟨"CastWithVows$Shelf", "<init>", "()V"⟩)]
def bNW (U : State) : Prop := (∀ q ∈ bnest, va_Nw (.methodLinkNest q.1 q.2.1 q.2.2 "CastWithVows") U) ∧ va_AO "CastWithVows$Shelf" U
def bC (g : zG) (Y : zY) (d : Nat) (p : Program) (R : Room) (s : State) (m : MethodId) (args : Array Value) (meth : Method) (c : Code) (C1 S1 : Nat) : Prop :=
  p.tables.exec = Jvm.exec ∧ c.code = zcode Y ∧ c.maxLocals = zmaxL Y ∧ meth.sig.returnType = zretT Y ∧ meth.locks = false ∧ s.vm.findClass (zR (zown Y)) = some m.cls ∧ (∀ w ∈ ztbl, w.before args s = true) ∧ va_K (zDD g) vwCl (ztys g) s ∧ (∀ q, zad g q = q) ∧ zbase g ≤ s.heap.size ∧ d ≤ R.frames ∧ 64 * d ≤ R.locals ∧ C1 ≤ R.cells ∧ S1 ≤ R.slots ∧ (Y.1.name = "<init>" → meth.name = "<init>") ∧ bNW s
abbrev bQ : Type := Nat → List (Option Value) → List Value → va_W → Prop
def bW (g : zG) (Y : zY) (d nc ns pc : Nat) (ls : List (Option Value)) (st : List Value) (ws : va_W) (Q : bQ) : Prop :=
  ∀ (p : Program) (l : Launch) (e : Env) (R : Room) (s : State) (m : MethodId) (args : Array Value) (below : List Frame) (meth : Method) (c : Code) (H : Heap) (locs : List Loc) (cells slots C1 S1 : Nat) (Qf : State → Prop),
    bC g Y d p R s m args meth c C1 S1 → cells + nc ≤ C1 → slots + ns ≤ S1 → bDy g s H locs ws →
    (∀ (pc' : Nat) (ls' : List (Option Value)) (st' : List Value) (ws' : va_W) (H' : Heap) (locs' : List Loc) (a' : Array Slot), Q pc' ls' st' ws' → bDy g s H' locs' ws' → zL g (zmaxL Y) ls' a' → W p l e R s m args below meth c H' locs' C1 S1 Qf (F0 m pc' a' st')) →
    ∀ a : Array Slot, zL g (zmaxL Y) ls a → W p l e R s m args below meth c H locs cells slots Qf (F0 m pc a st)
section BW
variable {g : zG} {Y : zY} {d nc ns pc : Nat} {ls : List (Option Value)} {st : List Value} {ws : va_W} {Q : bQ}
theorem b_stop (h : Q pc ls st ws) : bW g Y d nc ns pc ls st ws Q :=
  fun p l e R s m args below meth c H locs cells slots C1 S1 Qf hC h1 h2 hD hK a ha => W.widen (by omega) (by omega) (hK pc ls st ws H locs a h hD ha)
theorem b_iconst {n : Int} {v : Int32} (hd : decode (zcode Y) pc = .ok (.iconst n, 1)) (hv : Int32.ofInt n = v) (k : bW g Y d nc ns (pc + 1) ls (.int v :: st) ws Q) : bW g Y d nc ns pc ls st ws Q :=
  fun p l e R s m args below meth c H locs cells slots C1 S1 Qf hC h1 h2 hD hK a ha => lv_iconst hC.1 hC.2.1 hd hv (k p l e R s m args below meth c H locs cells slots C1 S1 Qf hC h1 h2 hD hK a ha)
theorem b_bipush {n : Int} {v : Int32} (hd : decode (zcode Y) pc = .ok (.bipush n, 2)) (hv : (Int8.ofInt n).toInt32 = v) (k : bW g Y d nc ns (pc + 2) ls (.int v :: st) ws Q) : bW g Y d nc ns pc ls st ws Q :=
  fun p l e R s m args below meth c H locs cells slots C1 S1 Qf hC h1 h2 hD hK a ha => lv_bipush hC.1 hC.2.1 hd hv (k p l e R s m args below meth c H locs cells slots C1 S1 Qf hC h1 h2 hD hK a ha)
theorem b_sipush {n : Int} {v : Int32} (hd : decode (zcode Y) pc = .ok (.sipush n, 3)) (hv : (Int16.ofInt n).toInt32 = v) (k : bW g Y d nc ns (pc + 3) ls (.int v :: st) ws Q) : bW g Y d nc ns pc ls st ws Q :=
  fun p l e R s m args below meth c H locs cells slots C1 S1 Qf hC h1 h2 hD hK a ha => lv_sipush hC.1 hC.2.1 hd hv (k p l e R s m args below meth c H locs cells slots C1 S1 Qf hC h1 h2 hD hK a ha)
theorem b_dup {x : Nat} (hd : decode (zcode Y) pc = .ok (.dup, 1)) (k : bW g Y d nc ns (pc + 1) ls (.ref x :: .ref x :: st) ws Q) : bW g Y d nc ns pc ls (.ref x :: st) ws Q :=
  fun p l e R s m args below meth c H locs cells slots C1 S1 Qf hC h1 h2 hD hK a ha => lv_dup hC.1 hC.2.1 hd rfl (k p l e R s m args below meth c H locs cells slots C1 S1 Qf hC h1 h2 hD hK a ha)
theorem b_aload {i : Fin 4} {x : Nat} (hd : decode (zcode Y) pc = .ok (.aload_n i, 1)) (hl : zget ls i none = some (.ref x)) (k : bW g Y d nc ns (pc + 1) ls (.ref x :: st) ws Q) : bW g Y d nc ns pc ls st ws Q :=
  fun p l e R s m args below meth c H locs cells slots C1 S1 Qf hC h1 h2 hD hK a ha => lv_aload_n hC.1 hC.2.1 hd rfl (by
    have := zL_get ha hl
    rw [this]
    show some (Slot.val (.ref (zad g x))) = _
    rw [hC.2.2.2.2.2.2.2.2.1 x]) (k p l e R s m args below meth c H locs cells slots C1 S1 Qf hC h1 h2 hD hK a ha)
/-- a row of n ints, longs or booleans, all 0 -/
theorem b_newa {at0 : ArrayType} {t : Nat} {n : Int32} {N : Nat} {f0 : (Nat → Int32) ⊕ (Nat → Int64) ⊕ (Nat → UInt32) ⊕ (Nat → UInt64) ⊕ (Nat → Option Nat)} (hd : decode (zcode Y) pc = .ok (.newarray at0, 2)) (hw : Cond.arrayClass (newarray.typeOf at0) ∈ ztbl) (ht : (ztys g)[t]? = some (g.2.2.1 t, newarray.typeOf at0)) (hRA : ∀ (U : State) (cA : ClassId), va_RA U cA (newarray.typeOf at0) → U.vm.findClass ("[" ++ (newarray.typeOf at0).toString) = some cA)
    (ha : ∀ cA : ClassId, vp_cell cA (N, f0) = arrV cA N (fun _ => defaultValue (newarray.typeOf at0))) (hn : ¬ n < 0) (hN : n.toNatClampNeg = N) (hby : N * componentBytes (newarray.typeOf at0) ≤ 536870912)
    (k : ∀ q : Nat, bW g Y d nc ns (pc + 2) ls (.ref q :: st) (ws ++ [(q, .inl (g.2.2.1 t, N, f0))]) Q) : bW g Y d (nc + 1) (ns + N) pc ls (.int n :: st) ws Q := by
  intro p l e R s m args below meth c H locs cells slots C1 S1 Qf hC h1 h2 hD hK a ha9
  obtain ⟨hx, hb, hml, hrt, hlk, hown, hts, hKK, hid, hbs, r1, r2, r3, r4, hin⟩ := hC
  refine va_newa hx hb (hts _ hw) rfl hKK hD.1 hD.2.1 hD.2.2 (fun q hq => Nat.le_trans hbs hq) (a0 := (N, f0)) ha hn hN hby (by omega) (by omega) hd (fun q cA H1 hK1 hP1 hD1 hS1 => ?_)
  have e1 := hRA s _ (hKK.2 t _ ht).2
  have e2 := hRA s cA (hK1.2 (ztys g).length _ (by rw [List.getElem?_append_right (Nat.le_refl _), Nat.sub_self]; rfl)).2
  have e : cA = g.2.2.1 t := Option.some.inj (e2.symm.trans e1)
  subst e
  exact k q p l e R s m args below meth c H1 locs (cells + 1) (slots + N) C1 S1 Qf ⟨hx, hb, hml, hrt, hlk, hown, hts, hKK, hid, hbs, r1, r2, r3, r4, hin⟩ (by omega) (by omega) ⟨hP1, hD1, hS1⟩ hK a ha9
end BW
