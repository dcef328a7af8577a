/-! what holds at the start: the classes of rows, the nest's words, what stands outside -/
theorem ac_one {s : State} {args : Array Value} {ty : FieldType} (hno : ∀ (U : State) (cA : ClassId), U.vm.findClass ("[" ++ ty.toString) = some cA → va_RA U cA ty) (h : (Cond.arrayClass ty).before args s = true) : ∃ c : ClassId, ArrOfT s c ty ∧ va_RA s c ty := by
  obtain ⟨c, k, comp, h1, h2, h3⟩ := Cond.arrayClass_spec (args := args) (first := s) (o := none) (s := s) (idx := []) (type := ty) h
  exact ⟨c, fun N z => ⟨(fun k h => by cases h), k, h2, comp, h3⟩, hno s c h1⟩
theorem k_tys {s : State} {args : Array Value} (hts : ∀ w ∈ lw_tbl, w.before args s = true) : ∃ T : Nat → ClassId, ∀ (k : Nat) (q : ClassId × FieldType), ([(T 0, .int), (T 1, .long), (T 2, .boolean), (T 3, .object "CastWithVows$Shelf")] : List (ClassId × FieldType))[k]? = some q → ArrOfT s q.1 q.2 ∧ va_RA s q.1 q.2 := by
  obtain ⟨c0, h0⟩ := ac_one (ty := .int) (fun U cA h => h) (hts (.arrayClass .int) (List.mem_of_getElem? (i := 161) (by decide +kernel)))
  obtain ⟨c1, h1⟩ := ac_one (ty := .long) (fun U cA h => h) (hts (.arrayClass .long) (List.mem_of_getElem? (i := 441) (by decide +kernel)))
  obtain ⟨c2, h2⟩ := ac_one (ty := .boolean) (fun U cA h => h) (hts (.arrayClass .boolean) (List.mem_of_getElem? (i := 1391) (by decide +kernel)))
  obtain ⟨comp, c3, k3, g1, -, g2, g3, g4⟩ := Cond.arrayOver_spec (args := args) (first := s) (o := none) (idx := []) (n := "CastWithVows$Shelf") (hts (.arrayOver (.object "CastWithVows$Shelf")) (List.mem_of_getElem? (i := 416) (by decide +kernel)))
  have h3 : ArrOfT s c3 (.object "CastWithVows$Shelf") ∧ va_RA s c3 (.object "CastWithVows$Shelf") := ⟨fun N z => ⟨(fun k h => by cases h), k3, g2, comp, g3⟩, k3, comp, g2, g3, g1, g4⟩
  refine ⟨fun k => if k = 0 then c0 else if k = 1 then c1 else if k = 2 then c2 else c3, fun k q hk => ?_⟩
  match k, hk with
  | 0, hk => cases hk; exact h0
  | 1, hk => cases hk; exact h1
  | 2, hk => cases hk; exact h2
  | 3, hk => cases hk; exact h3
  | _ + 4, hk => cases hk
theorem k_bnw {s : State} {args : Array Value} (hts : ∀ w ∈ lw_tbl, w.before args s = true) : bNW s := by
  refine ⟨?_, va_AO.of (hts (.arrayOver (.object "CastWithVows$Shelf")) (List.mem_of_getElem? (i := 416) (by decide +kernel)))⟩
  intro q hq
  simp only [bnest, List.mem_cons, List.not_mem_nil, or_false] at hq
  rcases hq with rfl | rfl | rfl | rfl | rfl | rfl | rfl
  · exact va_Nw.of rfl (hts _ (List.mem_of_getElem? (i := 132) (by decide +kernel)))
  · exact va_Nw.of rfl (hts _ (List.mem_of_getElem? (i := 138) (by decide +kernel)))
  · exact va_Nw.of rfl (hts _ (List.mem_of_getElem? (i := 220) (by decide +kernel)))
  · exact va_Nw.of rfl (hts _ (List.mem_of_getElem? (i := 225) (by decide +kernel)))
  · exact va_Nw.of rfl (hts _ (List.mem_of_getElem? (i := 364) (by decide +kernel)))
  · exact va_Nw.of rfl (hts _ (List.mem_of_getElem? (i := 391) (by decide +kernel)))
  · exact va_Nw.of rfl (hts _ (List.mem_of_getElem? (i := 418) (by decide +kernel)))
theorem k_nest {s : State} {args : Array Value} (hts : ∀ w ∈ lw_tbl, w.before args s = true) : ∀ q ∈ znest, va_Nw (.methodLinkNest q.1 q.2.1 q.2.2 "CastWithVows") s := by
  intro q hq
  simp only [znest, List.mem_cons, List.not_mem_nil, or_false] at hq
  rcases hq with rfl | rfl | rfl | rfl | rfl | rfl | rfl
  · exact va_Nw.of rfl (hts _ (List.mem_of_getElem? (i := 490) (by decide +kernel)))
  · exact va_Nw.of rfl (hts _ (List.mem_of_getElem? (i := 752) (by decide +kernel)))
  · exact va_Nw.of rfl (hts _ (List.mem_of_getElem? (i := 766) (by decide +kernel)))
  · exact va_Nw.of rfl (hts _ (List.mem_of_getElem? (i := 798) (by decide +kernel)))
  · exact va_Nw.of rfl (hts _ (List.mem_of_getElem? (i := 1001) (by decide +kernel)))
  · exact va_Nw.of rfl (hts _ (List.mem_of_getElem? (i := 1087) (by decide +kernel)))
  · exact va_Nw.of rfl (hts _ (List.mem_of_getElem? (i := 1212) (by decide +kernel)))
def g_all : List Cond := flatC (Jvm.Cond.and given_1 narrow_1)
theorem k_ro {s : State} {b L : Nat} {xs : Nat → Int32} {args : Array Value} (hts : ∀ w ∈ lw_tbl, w.before args s = true) (hX : va_X b L xs s s.heap) (hbl : b < s.heap.size) (hgv : (Jvm.Cond.and given_1 narrow_1).before args s = true) :
    ∃ ab ow tx by0 : Nat, ∀ g : zG, zbase g = s.heap.size → zLn g = L → g.2.2.2.2.2.2 = xs → zad g 100 = b → zad g 101 = ab → zad g 102 = ow → zad g 103 = tx → zad g 104 = by0 → zRO g s s.heap ∧ zNW g s := by
  have hs : ∀ w ∈ g_all, w.before args s = true := flat_of_before _ hgv
  have hA : ∀ a : Nat, a < s.heap.size → ¬ (fun q : Nat => s.heap.size ≤ q) a := fun a ha h => absurd h (Nat.not_le.mpr ha)
  obtain ⟨ow, how, hOW⟩ := va_Tof (tm := (.static "CastWithVows$Acts" "OWN" "[I")) (ty := .int) (N := 32) (f := fun j => .int (zOWN j)) (by decide) (hs (.arrayOf (.static "CastWithVows$Acts" "OWN" "[I") .int) (by decide +kernel)) (va_eqt (hs (.eq (.length (.static "CastWithVows$Acts" "OWN" "[I")) (.int 32)) (by decide +kernel)))
    (fun j hj => va_eqt (hs (.eq (.elem (.static "CastWithVows$Acts" "OWN" "[I") (.int (Int32.ofNat j))) (.int (zOWN j))) ((show ∀ j, j < 32 → (Cond.eq (.elem (.static "CastWithVows$Acts" "OWN" "[I") (.int (Int32.ofNat j))) (.int (zOWN j))) ∈ g_all by decide +kernel) j hj))) hA
  obtain ⟨ab, hab, hAB⟩ := va_Tof (tm := (.static "CastWithVows$Acts" "ABOVE" "[I")) (ty := .int) (N := 8) (f := fun j => .int (zABOVE j)) (by decide) (hs (.arrayOf (.static "CastWithVows$Acts" "ABOVE" "[I") .int) (by decide +kernel)) (va_eqt (hs (.eq (.length (.static "CastWithVows$Acts" "ABOVE" "[I")) (.int 8)) (by decide +kernel)))
    (fun j hj => va_eqt (hs (.eq (.elem (.static "CastWithVows$Acts" "ABOVE" "[I") (.int (Int32.ofNat j))) (.int (zABOVE j))) ((show ∀ j, j < 8 → (Cond.eq (.elem (.static "CastWithVows$Acts" "ABOVE" "[I") (.int (Int32.ofNat j))) (.int (zABOVE j))) ∈ g_all by decide +kernel) j hj))) hA
  obtain ⟨adK, adV, hST, hev⟩ := vk_Sof (N := 1) (tm := fun _ => (.string "CastWithVows$Reader" 74)) (len := [6]) (byt := zTXT) (args := args) (s := s) (by decide) (fun i _ => hs (.exactly (.string "CastWithVows$Reader" 74) "java/lang/String") (by decide +kernel)) (fun i _ => hs (.eq (.field (.string "CastWithVows$Reader" 74) "java/lang/String" "coder" "B") (.int 0)) (by decide +kernel))
    (fun i _ => hs (.arrayOf (.field (.string "CastWithVows$Reader" 74) "java/lang/String" "value" "[B") .byte) (by decide +kernel)) (fun i hi => by
      obtain rfl : i = 0 := by omega
      exact hs (.eq (.length (.field (.string "CastWithVows$Reader" 74) "java/lang/String" "value" "[B")) (.int 6)) (by decide +kernel)) (fun i hi j hj => by
      obtain rfl : i = 0 := by omega
      exact hs (.eq (.elem (.field (.string "CastWithVows$Reader" 74) "java/lang/String" "value" "[B") (.int (Int32.ofNat j))) (.int ((zTXT.getD 0 []).getD j 0))) ((show ∀ j, j < 6 → (Cond.eq (.elem (.field (.string "CastWithVows$Reader" 74) "java/lang/String" "value" "[B") (.int (Int32.ofNat j))) (.int ((zTXT.getD 0 []).getD j 0))) ∈ g_all by decide +kernel) j hj)) (fun i j hi hj hne => absurd (show i = j by omega) hne) hA
  have hzo := va_Zof (C := "CastWithVows$Acts") (n := "OWN") (d := "[I") (hts _ (List.mem_of_getElem? (i := 1155) (by decide +kernel))) (hts _ (List.mem_of_getElem? (i := 110) (by decide +kernel))) how hA
  have hza := va_Zof (C := "CastWithVows$Acts") (n := "ABOVE") (d := "[I") (hts _ (List.mem_of_getElem? (i := 1157) (by decide +kernel))) (hts _ (List.mem_of_getElem? (i := 110) (by decide +kernel))) hab hA
  have hzc := va_Zof (C := "java/lang/String") (n := "COMPACT_STRINGS") (d := "Z") (hts _ (List.mem_of_getElem? (i := 653) (by decide +kernel))) (hts _ (List.mem_of_getElem? (i := 114) (by decide +kernel))) (va_eqi (hs (.eq (.static "java/lang/String" "COMPACT_STRINGS" "Z") (.int 1)) (by decide +kernel))) hA
  refine ⟨ab, ow, adK 0, adV 0, fun g e1 e2 e3 e4 e5 e6 e7 e8 => ?_⟩
  obtain ⟨g1, g2, g3, g4, g5, g6, g7⟩ := g
  change g5 = s.heap.size at e1
  change g6 = L at e2
  change g7 = xs at e3
  change g4 100 = b at e4
  change g4 101 = ab at e5
  change g4 102 = ow at e6
  change g4 103 = adK 0 at e7
  change g4 104 = adV 0 at e8
  subst e1 e2 e3
  have hT0 : va_T .int b g6 (fun j => .int (g7 j)) (fun q : Nat => s.heap.size ≤ q) s s.heap := by
    obtain ⟨scr, h1, h2, h3, h4, h5⟩ := hX
    exact ⟨scr, h1, h2, h3, Nat.le_of_eq h4.symm, by rw [h4], h5, hA b hbl⟩
  have hlt : ∀ {t N : Nat} {ty : FieldType} {f : Nat → Value} {A : Nat → Prop}, va_T ty t N f A s s.heap → t < s.heap.size := fun h => by
    obtain ⟨c, h1, -⟩ := h
    exact (Array.getElem?_eq_some_iff.mp h1).1
  refine ⟨⟨?_, ?_, ?_, ?_, ?_, hzc, ?_⟩, k_nest hts, ?_⟩
  · show va_T .int (g4 100) _ _ _ s s.heap ∧ g4 100 < _ ∧ ¬ (s.heap.size ≤ g4 100)
    rw [e4]
    exact ⟨hT0, hlt hT0, hA _ hbl⟩
  · show va_T .int (g4 101) _ _ _ s s.heap ∧ g4 101 < _ ∧ ¬ (s.heap.size ≤ g4 101)
    rw [e5]
    exact ⟨hAB, hlt hAB, hA _ (hlt hAB)⟩
  · show va_T .int (g4 102) _ _ _ s s.heap ∧ g4 102 < _ ∧ ¬ (s.heap.size ≤ g4 102)
    rw [e6]
    exact ⟨hOW, hlt hOW, hA _ (hlt hOW)⟩
  · show va_Z _ _ _ (.ref (g4 101)) _ s s.heap
    rw [e5]
    exact hza
  · show va_Z _ _ _ (.ref (g4 102)) _ s s.heap
    rw [e6]
    exact hzo
  · show vk_S 1 [6] zTXT (fun _ => g4 103) (fun _ => g4 104) _ s s.heap
    rw [e7, e8]
    exact ⟨fun i hi => by
      obtain rfl : i = 0 := by omega
      exact hST.1 0 hi, fun i j hi hj _ => by omega⟩
  · show vk_R _ _ _ (g4 103) s
    rw [e7]
    refine vk_R.of (hts _ (List.mem_of_getElem? (i := 639) (by decide +kernel))) (hev 0 (by decide))
