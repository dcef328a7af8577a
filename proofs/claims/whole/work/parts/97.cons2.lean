/-! building: counts and rows of shelves; the reference's constructor -/
section BX
variable {g : zG} {Y : zY} {d nc ns pc q0 idx : Nat} {ls ls2 : List (Option Value)} {st : List Value} {ws l : va_W} {y z : Nat × va_E} {Q : bQ}
theorem b_iload {i : Fin 4} {x : Int32} (hd : decode (zcode Y) pc = .ok (.iload_n i, 1)) (hl : zget ls i none = some (.int x)) (k : bW g Y d nc ns (pc + 1) ls (.int x :: st) ws Q) : bW g Y d nc ns pc ls st ws Q :=
  fun p l e R s m args below meth c H locs cells slots C1 S1 Qf hC h1 h2 hD hK a ha => lv_iload_n hC.1 hC.2.1 hd rfl (zL_get ha hl) (k p l e R s m args below meth c H locs cells slots C1 S1 Qf hC h1 h2 hD hK a ha)
theorem b_istore {i : Fin 4} {x : Int32} (hd : decode (zcode Y) pc = .ok (.istore_n i, 1)) (hs : zsto ls i (.int x) = some ls2) (k : bW g Y d nc ns (pc + 1) ls2 st ws Q) : bW g Y d nc ns pc ls (.int x :: st) ws Q :=
  fun p l e R s m args below meth c H locs cells slots C1 S1 Qf hC h1 h2 hD hK a ha => lv_istore_n hC.1 hC.2.1 hd rfl ha.1 (zL_lt ha hs) rfl (fun a' ha' => k p l e R s m args below meth c H locs cells slots C1 S1 Qf hC h1 h2 hD hK a' (zL_sto ha hs ha'))
theorem b_goto {off : Int} {tgt : Nat} (hd : decode (zcode Y) pc = .ok (.goto off, 3)) (ht : (pc : Int) + off = (tgt : Int)) (k : bW g Y d nc ns tgt ls st ws Q) : bW g Y d nc ns pc ls st ws Q :=
  fun p l e R s m args below meth c H locs cells slots C1 S1 Qf hC h1 h2 hD hK a ha => lv_goto hC.1 hC.2.1 hd ht (k p l e R s m args below meth c H locs cells slots C1 S1 Qf hC h1 h2 hD hK a ha)
theorem b_geF {off : Int} {tgt : Nat} {u v : Int32} (hd : decode (zcode Y) pc = .ok (.if_icmp .ge off, 3)) (ht : (pc : Int) + off = (tgt : Int)) (hu : ¬ v ≤ u) (k : bW g Y d nc ns (pc + 3) ls st ws Q) : bW g Y d nc ns pc ls (.int v :: .int u :: st) ws Q :=
  fun p l e R s m args below meth c H locs cells slots C1 S1 Qf hC h1 h2 hD hK a ha => lv_icmp_ge hC.1 hC.2.1 hd ht (fun h => absurd h hu) (fun _ => k p l e R s m args below meth c H locs cells slots C1 S1 Qf hC h1 h2 hD hK a ha)
theorem b_geT {off : Int} {tgt : Nat} {u v : Int32} (hd : decode (zcode Y) pc = .ok (.if_icmp .ge off, 3)) (ht : (pc : Int) + off = (tgt : Int)) (hu : v ≤ u) (k : bW g Y d nc ns tgt ls st ws Q) : bW g Y d nc ns pc ls (.int v :: .int u :: st) ws Q :=
  fun p l e R s m args below meth c H locs cells slots C1 S1 Qf hC h1 h2 hD hK a ha => lv_icmp_ge hC.1 hC.2.1 hd ht (fun _ => k p l e R s m args below meth c H locs cells slots C1 S1 Qf hC h1 h2 hD hK a ha) (fun h => absurd hu h)
theorem b_iinc {i : Nat} {w : Int} {x x2 : Int32} (hd : decode (zcode Y) pc = .ok (.iinc i w, 3)) (hl : zget ls i none = some (.int x)) (hx : x2 = x + Int32.ofInt w) (hs : zsto ls i (.int x2) = some ls2) (k : bW g Y d nc ns (pc + 3) ls2 st ws Q) : bW g Y d nc ns pc ls st ws Q := by
  intro p l e R s m args below meth c H locs cells slots C1 S1 Qf hC h1 h2 hD hK a ha
  have hm : (i, Value.int x) ∈ zas g ls 0 := by
    rw [zget_at] at hl
    cases hq : ls[i]? with
    | none => rw [hq] at hl; cases hl
    | some o =>
      rw [hq] at hl
      have e1 : o = some (.int x) := hl
      subst e1
      have h1 := zas_get (g := g) ls 0 i hq
      rw [Nat.zero_add] at h1
      exact h1
  obtain ⟨kx, hkx⟩ := List.getElem?_of_mem hm
  exact lv_iinc hC.1 hC.2.1 hd ha.1 hkx (by rw [hx]) (zL_lt ha hs) rfl (fun a' ha' => k p l e R s m args below meth c H locs cells slots C1 S1 Qf hC h1 h2 hD hK a' (zL_sto ha hs ha'))
theorem b_newq {n : Int32} {N p0 : Nat} (hd : decode (zcode Y) pc = .ok (.anewarray idx, 3)) (hw : lw_tbl[p0]? = some (.classLink (zR (zown Y)) idx "CastWithVows$Shelf")) (hn : ¬ n < 0) (hN : n.toNatClampNeg = N) (hby : N * 4 ≤ 536870912)
    (k : ∀ q : Nat, bW g Y d nc ns (pc + 3) ls (.ref q :: st) (ws ++ [(q, .inl (g.2.2.1 3, N, .inr (.inr (.inr (.inr (fun _ => none))))))]) Q) : bW g Y d (nc + 1) (ns + N) pc ls (.int n :: st) ws Q := by
  intro p l e R s m args below meth c H locs cells slots C1 S1 Qf hC h1 h2 hD hK a ha
  have hX := hC
  obtain ⟨hx, hb, hml, hrt, hlk, hown, hts, hKK, hid, hbs, r1, r2, r3, r4, hin⟩ := hX
  refine va_newq hx hb hown (hts _ (zt_in hw rfl)) hin.2.2 hKK hD.1 hD.2.1 hD.2.2 (fun q hq => Nat.le_trans hbs hq) hn hN hby (by omega) (by omega) hd (fun q cA H1 hK1 hP1 hD1 hS1 => ?_)
  obtain ⟨-, -, -, -, -, e1⟩ := (hKK.2 3 _ rfl).2
  obtain ⟨-, -, -, -, -, e2⟩ := (hK1.2 (ztys g).length _ (by rw [List.getElem?_append_right (Nat.le_refl _), Nat.sub_self]; rfl)).2
  have e : cA = g.2.2.1 3 := Option.some.inj (e2.symm.trans e1)
  subst e
  exact k q p l e R s m args below meth c H1 locs (cells + 1) (slots + N) C1 S1 Qf hC (by omega) (by omega) ⟨hP1, hD1, hS1⟩ hK a ha
theorem b_ast {q1 q2 a1 v n : Nat} {i : Int32} {vs : List Value} {f : Nat → Option Nat} (hd : decode (zcode Y) pc = .ok (.aastore, 1)) (h1 : ws[q1]? = some (a1, .inl (g.2.2.1 3, n, .inr (.inr (.inr (.inr f)))))) (h2 : ws[q2]? = some (v, .inr (8, vs))) (hi : vp_in i n)
    (k : bW g Y d nc ns (pc + 1) ls st (ws.set q1 (a1, .inl (g.2.2.1 3, n, .inr (.inr (.inr (.inr (va_up f i.toNatClampNeg (some v)))))))) Q) : bW g Y d nc ns pc ls (.ref v :: .int i :: .ref a1 :: st) ws Q := by
  intro p l e R s m args below meth c H locs cells slots C1 S1 Qf hC e1 e2 hD hK a ha
  exact va_astq (r := (RX8, TX8, 4)) hC.1 hC.2.1 hC.2.2.2.2.2.2.2.1 hD.1 hD.2.1 hD.2.2 q1 3 q2 8 h1 rfl h2 rfl hi hd (fun H1 locs1 hP1 hD1 hS1 => k p l e R s m args below meth c H1 locs1 cells slots C1 S1 Qf hC e1 e2 ⟨hP1, hD1, hS1⟩ hK a ha)
theorem bW_setl {k : Nat} (h : bW g Y d nc ns pc ls st (bN ws q0 y (l.set k z)) Q) : bW g Y d nc ns pc ls st ((bN ws q0 y l).set (ws.length + k) z) Q := by
  have e : (bN ws q0 y l).set (ws.length + k) z = bN ws q0 y (l.set k z) := by
    unfold bN
    rw [List.set_append_right _ _ (by rw [List.length_set]; omega), List.length_set, Nat.add_sub_cancel_left]
  rw [e]
  exact h
end BX
