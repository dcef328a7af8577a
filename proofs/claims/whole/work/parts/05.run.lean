/-! the machine over memories: straight stretches by computing, soundly -/
def zas (g : zG) : List (Option Value) → Nat → List (Nat × Value)
  | [], _ => []
  | none :: l, i => zas g l (i + 1)
  | some v :: l, i => (i, ztr g v) :: zas g l (i + 1)
def zL (g : zG) (n : Nat) (ls : List (Option Value)) (a : Array Slot) : Prop := lv_has a n (zas g ls 0) ∧ ls.length = n
theorem zas_get {g : zG} {v : Value} : ∀ (ls : List (Option Value)) (i k : Nat), ls[k]? = some (some v) → (i + k, ztr g v) ∈ zas g ls i
  | [], i, k, h => by simp at h
  | a :: l, i, 0, h => by
    simp only [List.getElem?_cons_zero, Option.some.injEq] at h
    subst h
    exact List.mem_cons_self
  | a :: l, i, k + 1, h => by
    rw [List.getElem?_cons_succ] at h
    have h1 := zas_get (g := g) l (i + 1) k h
    have e : i + 1 + k = i + (k + 1) := by omega
    rw [e] at h1
    cases a with
    | none => exact h1
    | some w => exact List.mem_cons_of_mem _ h1
theorem zas_mem {g : zG} {j : Nat} {w : Value} : ∀ (ls : List (Option Value)) (i : Nat), (j, w) ∈ zas g ls i → ∃ (k : Nat) (v : Value), j = i + k ∧ ls[k]? = some (some v) ∧ w = ztr g v
  | [], i, h => by cases h
  | none :: l, i, h => by
    obtain ⟨k, v, h1, h2, h3⟩ := zas_mem l (i + 1) h
    exact ⟨k + 1, v, by omega, by rw [List.getElem?_cons_succ]; exact h2, h3⟩
  | some u :: l, i, h => by
    rcases List.mem_cons.mp h with h | h
    · cases h
      exact ⟨0, u, rfl, rfl, rfl⟩
    · obtain ⟨k, v, h1, h2, h3⟩ := zas_mem l (i + 1) h
      exact ⟨k + 1, v, by omega, by rw [List.getElem?_cons_succ]; exact h2, h3⟩
def zset : List (Option Value) → Nat → Option Value → Option (List (Option Value))
  | [], _, _ => none
  | _ :: l, 0, v => some (v :: l)
  | a :: l, i + 1, v => match zset l i v with
    | some l' => some (a :: l')
    | none => none
theorem zset_get {v : Option Value} : ∀ (ls ls' : List (Option Value)) (i : Nat), zset ls i v = some ls' → i < ls.length ∧ ls'.length = ls.length ∧ ∀ k, ls'[k]? = if k = i then some v else ls[k]?
  | [], ls', i, h => by simp [zset] at h
  | a :: l, ls', 0, h => by
    simp only [zset, Option.some.injEq] at h
    subst h
    refine ⟨by simp, by simp, fun k => ?_⟩
    cases k <;> simp
  | a :: l, ls', i + 1, h => by
    simp only [zset] at h
    split at h
    · rename_i l' hl
      cases h
      obtain ⟨h1, h2, h3⟩ := zset_get l l' i hl
      refine ⟨by simp; exact h1, by simp; exact h2, fun k => ?_⟩
      cases k with
      | zero => simp
      | succ k => rw [List.getElem?_cons_succ, List.getElem?_cons_succ, h3 k]; simp
    · cases h
def zlong : Option Value → Bool
  | some (.long _) => true
  | some (.double _) => true
  | _ => false
def zsto (ls : List (Option Value)) (i : Nat) (v : Value) : Option (List (Option Value)) := match i with
  | 0 => zset ls 0 (some v)
  | j + 1 => match zlong (zget ls j none) with
    | true => none
    | false => zset ls (j + 1) (some v)
def zstoL (ls : List (Option Value)) (i : Nat) (v : Value) : Option (List (Option Value)) := match zsto ls i v with
  | some l => zset l (i + 1) none
  | none => none
theorem zget_at {α : Type} {d : α} : ∀ (l : List α) (k : Nat), zget l k d = (l[k]?).getD d
  | [], k => by simp [zget]
  | a :: l, 0 => by simp [zget]
  | a :: l, k + 1 => by rw [zget, zget_at l k, List.getElem?_cons_succ]
theorem zlong_cat {v : Value} (h : v.category = 2) : zlong (some v) = true := by cases v <;> simp_all [Value.category, zlong]
theorem ztr_cat (g : zG) (v : Value) : (ztr g v).category = v.category := by cases v <;> rfl
theorem zsto_get {ls ls' : List (Option Value)} {i : Nat} {v : Value} (h : zsto ls i v = some ls') : i < ls.length ∧ ls'.length = ls.length ∧ (∀ k, ls'[k]? = if k = i then some (some v) else ls[k]?) ∧ ∀ j w, j + 1 = i → ls[j]? = some (some w) → ¬ w.category = 2 := by
  cases i with
  | zero =>
    obtain ⟨h1, h2, h3⟩ := zset_get ls ls' 0 h
    exact ⟨h1, h2, h3, fun j w e => by omega⟩
  | succ j =>
    simp only [zsto] at h
    split at h
    · cases h
    · rename_i hz
      obtain ⟨h1, h2, h3⟩ := zset_get ls ls' (j + 1) h
      refine ⟨h1, h2, h3, fun j' w e hw hc => ?_⟩
      have : j' = j := by omega
      subst this
      rw [zget_at, hw] at hz
      rw [show (some (some w) : Option (Option Value)).getD none = some w from rfl, zlong_cat hc] at hz
      cases hz
theorem zL_get {g : zG} {n k : Nat} {ls : List (Option Value)} {a : Array Slot} {v : Value} (h : zL g n ls a) (hk : zget ls k none = some v) : a[k]? = some (.val (ztr g v)) := by
  rw [zget_at] at hk
  cases hq : ls[k]? with
  | none => rw [hq] at hk; cases hk
  | some o =>
    rw [hq] at hk
    have e : o = some v := hk
    subst e
    have h1 := h.1.2.2 _ (zas_get (g := g) ls 0 k hq)
    rw [Nat.zero_add] at h1
    exact h1
theorem zL_sto {g : zG} {n i : Nat} {ls ls' : List (Option Value)} {a a' : Array Slot} {v : Value} (h : zL g n ls a) (hs : zsto ls i v = some ls')
    (h' : lv_has a' n ((i, ztr g v) :: (zas g ls 0).filter (fun q => !(q.1 == i) && !(q.1 + 1 == i && q.2.category == 2)))) : zL g n ls' a' := by
  obtain ⟨h1, h2, h3, h4⟩ := zsto_get hs
  refine ⟨⟨h'.1, h'.2.1, fun q hq => h'.2.2 q ?_⟩, h2.trans h.2⟩
  obtain ⟨j, w⟩ := q
  obtain ⟨k, u, e1, e2, e3⟩ := zas_mem ls' 0 hq
  have ej : j = k := by omega
  subst ej
  subst e3
  rw [h3] at e2
  by_cases hi : j = i
  · rw [if_pos hi] at e2
    cases e2
    subst hi
    exact List.mem_cons_self
  · rw [if_neg hi] at e2
    refine List.mem_cons_of_mem _ (List.mem_filter.mpr ⟨?_, ?_⟩)
    · have := zas_get (g := g) ls 0 j e2
      rw [Nat.zero_add] at this
      exact this
    · by_cases hj : j + 1 = i
      · have := h4 j u hj e2
        simp [hi, ztr_cat, this]
      · simp [hi, hj]
theorem zL_stoL {g : zG} {n i : Nat} {ls ls' : List (Option Value)} {a a' : Array Slot} {v : Value} (h : zL g n ls a) (hs : zstoL ls i v = some ls')
    (h' : lv_has a' n ((i, ztr g v) :: (zas g ls 0).filter (fun q => !(q.1 == i) && (!(q.1 == i + 1) && !(q.1 + 1 == i && q.2.category == 2))))) : zL g n ls' a' := by
  unfold zstoL at hs
  split at hs
  · rename_i l hl
    obtain ⟨h1, h2, h3, h4⟩ := zsto_get hl
    obtain ⟨g1, g2, g3⟩ := zset_get l ls' (i + 1) hs
    refine ⟨⟨h'.1, h'.2.1, fun q hq => h'.2.2 q ?_⟩, by rw [g2, h2]; exact h.2⟩
    obtain ⟨j, w⟩ := q
    obtain ⟨k, u, e1, e2, e3⟩ := zas_mem ls' 0 hq
    have ej : j = k := by omega
    subst ej
    subst e3
    rw [g3] at e2
    by_cases hi1 : j = i + 1
    · rw [if_pos hi1] at e2
      cases e2
    · rw [if_neg hi1, h3] at e2
      by_cases hi : j = i
      · rw [if_pos hi] at e2
        cases e2
        subst hi
        exact List.mem_cons_self
      · rw [if_neg hi] at e2
        refine List.mem_cons_of_mem _ (List.mem_filter.mpr ⟨?_, ?_⟩)
        · have := zas_get (g := g) ls 0 j e2
          rw [Nat.zero_add] at this
          exact this
        · by_cases hj : j + 1 = i
          · have := h4 j u hj e2
            simp [hi, hi1, ztr_cat, this]
          · simp [hi, hi1, hj]
  · cases hs
theorem zL_lt {g : zG} {n i : Nat} {ls ls' : List (Option Value)} {a : Array Slot} {v : Value} (h : zL g n ls a) (hs : zsto ls i v = some ls') : i < n := by rw [← h.2]; exact (zsto_get hs).1
theorem zL_ltL {g : zG} {n i : Nat} {ls ls' : List (Option Value)} {a : Array Slot} {v : Value} (h : zL g n ls a) (hs : zstoL ls i v = some ls') : i + 1 < n := by
  unfold zstoL at hs
  split at hs
  · rename_i l hl
    have h1 := (zset_get l ls' (i + 1) hs).1
    rw [(zsto_get hl).2.1, h.2] at h1
    exact h1
  · cases hs
abbrev zcode (Y : zY) : ByteArray := Y.2.1
abbrev zmaxL (Y : zY) : Nat := Y.2.2.1
abbrev zretT (Y : zY) : Option FieldType := Y.2.2.2.1
abbrev zown (Y : zY) : Nat := Y.2.2.2.2
/-- what a walk in a method has at hand -/
def zC (g : zG) (Y : zY) (d : Nat) (p : Program) (R : Room) (s : State) (m : MethodId) (args : Array Value) (meth : Method) (c : Code) (cells slots : Nat) : Prop :=
  p.tables.exec = Jvm.exec ∧ c.code = zcode Y ∧ c.maxLocals = zmaxL Y ∧ meth.sig.returnType = zretT Y ∧ meth.locks = false ∧ s.vm.findClass (zR (zown Y)) = some m.cls ∧ (∀ w ∈ ztbl, w.before args s = true) ∧ va_K (zDD g) vwCl (ztys g) s ∧ zRO g s s.heap ∧ zNW g s ∧ zGok g ∧ zbase g ≤ s.heap.size ∧ d ≤ R.frames ∧ 64 * d ≤ R.locals ∧ cells ≤ R.cells ∧ slots ≤ R.slots
def zDy (g : zG) (s : State) (H : Heap) (locs : List Loc) (μ : zMem) : Prop := va_P (zDD g) vwCl (zws g μ) H ∧ va_S (zA g) s.heap H locs
/-- at a return instruction with its value -/
def zRet (Y : zY) (pc : Nat) (v : Option Value) : Prop := match v with
  | none => decode (zcode Y) pc = .ok (.return_, 1) ∧ zretT Y = none
  | some (.int x) => decode (zcode Y) pc = .ok (.ireturn, 1) ∧ ∃ ty, zretT Y = some ty ∧ narrow ty (.int x) = .int x
  | some (.long _) => decode (zcode Y) pc = .ok (.lreturn, 1) ∧ zretT Y = some .long
  | some (.ref _) => decode (zcode Y) pc = .ok (.areturn, 1) ∧ ∃ rt, zretT Y = some rt ∧ ((∃ n, rt = .object n) ∨ ∃ t, rt = .array t)
  | some .null => decode (zcode Y) pc = .ok (.areturn, 1) ∧ ∃ rt, zretT Y = some rt ∧ ((∃ n, rt = .object n) ∨ ∃ t, rt = .array t)
  | _ => False
/-- THE WALK: from here the machine comes to a return, with an answer and a memory that Q has -/
def zW (g : zG) (Y : zY) (d : Nat) (pc : Nat) (ls : List (Option Value)) (st : List Value) (μ : zMem) (Q : Option Value → zMem → Prop) : Prop :=
  ∀ (p : Program) (l : Launch) (e : Env) (R : Room) (s : State) (m : MethodId) (args : Array Value) (below : List Frame) (meth : Method) (c : Code) (H : Heap) (locs : List Loc) (cells slots : Nat) (Qf : State → Prop),
    zC g Y d p R s m args meth c cells slots → zDy g s H locs μ →
    (∀ (v : Option Value) (μ' : zMem) (H' : Heap) (locs' : List Loc) (pc' : Nat) (a' : Array Slot), Q v μ' → zDy g s H' locs' μ' → zRet Y pc' v → W p l e R s m args below meth c H' locs' cells slots Qf (F0 m pc' a' (v.map (ztr g)).toList)) →
    ∀ a : Array Slot, zL g (zmaxL Y) ls a → W p l e R s m args below meth c H locs cells slots Qf (F0 m pc a (st.map (ztr g)))
theorem zW.mono {g : zG} {Y : zY} {d pc : Nat} {ls : List (Option Value)} {st : List Value} {μ : zMem} {Q Q' : Option Value → zMem → Prop} (h : zW g Y d pc ls st μ Q) (hq : ∀ v μ', Q v μ' → Q' v μ') : zW g Y d pc ls st μ Q' :=
  fun p l e R s m args below meth c H locs cells slots Qf hC hD hK => h p l e R s m args below meth c H locs cells slots Qf hC hD (fun v μ' H' locs' pc' a' hQ => hK v μ' H' locs' pc' a' (hq v μ' hQ))
