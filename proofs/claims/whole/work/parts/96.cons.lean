/-! the constructors -/
def bN (ws : va_W) (q0 : Nat) (y : Nat × va_E) (l : va_W) : va_W := ws.set q0 y ++ l
section BN
variable {g : zG} {Y : zY} {d nc ns pc q0 : Nat} {ls : List (Option Value)} {st : List Value} {ws l m : va_W} {y z : Nat × va_E} {Q : bQ}
theorem bN_get (h : q0 < ws.length) : (bN ws q0 y l)[q0]? = some y := by
  unfold bN
  rw [List.getElem?_append_left (by rw [List.length_set]; exact h), List.getElem?_set_self h]
theorem bN_l {k : Nat} : (bN ws q0 y l)[ws.length + k]? = l[k]? := by
  unfold bN
  rw [List.getElem?_append_right (by rw [List.length_set]; omega), List.length_set, Nat.add_sub_cancel_left]
theorem bW_0 (he : ws[q0]? = some y) (h : bW g Y d nc ns pc ls st (bN ws q0 y []) Q) : bW g Y d nc ns pc ls st ws Q := by
  have e : bN ws q0 y [] = ws := by
    unfold bN
    rw [List.append_nil]
    obtain ⟨hl, hv⟩ := List.getElem?_eq_some_iff.mp he
    rw [← hv]
    exact List.set_getElem_self hl
  rw [e] at h
  exact h
theorem bW_app (h : bW g Y d nc ns pc ls st (bN ws q0 y (l ++ m)) Q) : bW g Y d nc ns pc ls st (bN ws q0 y l ++ m) Q := by
  have e : bN ws q0 y l ++ m = bN ws q0 y (l ++ m) := by unfold bN; rw [List.append_assoc]
  rw [e]
  exact h
theorem bW_set (hq : q0 < ws.length) (h : bW g Y d nc ns pc ls st (bN ws q0 z l) Q) : bW g Y d nc ns pc ls st ((bN ws q0 y l).set q0 z) Q := by
  have e : (bN ws q0 y l).set q0 z = bN ws q0 z l := by
    unfold bN
    rw [List.set_append_left _ _ (by rw [List.length_set]; exact hq), List.set_set]
  rw [e]
  exact h
theorem bW_in {k : Nat} (h : bW g Y d nc ns pc ls st (bN ws q0 y (l.set k z ++ m)) Q) : bW g Y d nc ns pc ls st (bN (bN ws q0 y l) (ws.length + k) z m) Q := by
  have e : bN (bN ws q0 y l) (ws.length + k) z m = bN ws q0 y (l.set k z ++ m) := by
    unfold bN
    rw [List.set_append_right _ _ (by rw [List.length_set]; omega), List.length_set, Nat.add_sub_cancel_left, List.append_assoc]
  rw [e]
  exact h
theorem b_newI {n : Int32} {N : Nat} (hd : decode (zcode Y) pc = .ok (.newarray .int, 2)) (hn : ¬ n < 0) (hN : n.toNatClampNeg = N) (hby : N * 4 ≤ 536870912) (k : ∀ q : Nat, bW g Y d nc ns (pc + 2) ls (.ref q :: st) (ws ++ [(q, .inl (g.2.2.1 0, N, .inl (fun _ => 0)))]) Q) : bW g Y d (nc + 1) (ns + N) pc ls (.int n :: st) ws Q :=
  b_newa (at0 := .int) (t := 0) (f0 := .inl (fun _ => 0)) hd (zt_in (i := 161) (by decide +kernel) rfl) rfl (fun _ _ h => h) (fun _ => rfl) hn hN hby k
theorem b_newL {n : Int32} {N : Nat} (hd : decode (zcode Y) pc = .ok (.newarray .long, 2)) (hn : ¬ n < 0) (hN : n.toNatClampNeg = N) (hby : N * 8 ≤ 536870912) (k : ∀ q : Nat, bW g Y d nc ns (pc + 2) ls (.ref q :: st) (ws ++ [(q, .inl (g.2.2.1 1, N, .inr (.inl (fun _ => 0))))]) Q) : bW g Y d (nc + 1) (ns + N) pc ls (.int n :: st) ws Q :=
  b_newa (at0 := .long) (t := 1) (f0 := .inr (.inl (fun _ => 0))) hd (zt_in (i := 441) (by decide +kernel) rfl) rfl (fun _ _ h => h) (fun _ => rfl) hn hN hby k
theorem b_newZ {n : Int32} {N : Nat} (hd : decode (zcode Y) pc = .ok (.newarray .boolean, 2)) (hn : ¬ n < 0) (hN : n.toNatClampNeg = N) (hby : N * 1 ≤ 536870912) (k : ∀ q : Nat, bW g Y d nc ns (pc + 2) ls (.ref q :: st) (ws ++ [(q, .inl (g.2.2.1 2, N, .inl (fun _ => 0)))]) Q) : bW g Y d (nc + 1) (ns + N) pc ls (.int n :: st) ws Q :=
  b_newa (at0 := .boolean) (t := 2) (f0 := .inl (fun _ => 0)) hd (zt_in (i := 1391) (by decide +kernel) rfl) rfl (fun _ _ h => h) (fun _ => rfl) hn hN hby k
end BN
theorem bd_P_init_0 : decode (zcode P_init) 0 = .ok (.aload_n 0, 1) := by decide +kernel
theorem bd_P_init_1 : decode (zcode P_init) 1 = .ok (.invokespecial 3, 3) := by decide +kernel
theorem bd_P_init_4 : decode (zcode P_init) 4 = .ok (.aload_n 0, 1) := by decide +kernel
theorem bd_P_init_5 : decode (zcode P_init) 5 = .ok (.bipush 121, 2) := by decide +kernel
theorem bd_P_init_7 : decode (zcode P_init) 7 = .ok (.newarray .int, 2) := by decide +kernel
theorem bd_P_init_9 : decode (zcode P_init) 9 = .ok (.putfield 11, 3) := by decide +kernel
theorem bd_P_init_12 : decode (zcode P_init) 12 = .ok (.aload_n 0, 1) := by decide +kernel
theorem bd_P_init_13 : decode (zcode P_init) 13 = .ok (.bipush 121, 2) := by decide +kernel
theorem bd_P_init_15 : decode (zcode P_init) 15 = .ok (.newarray .int, 2) := by decide +kernel
theorem bd_P_init_17 : decode (zcode P_init) 17 = .ok (.putfield 15, 3) := by decide +kernel
theorem bd_P_init_20 : decode (zcode P_init) 20 = .ok (.aload_n 0, 1) := by decide +kernel
theorem bd_P_init_21 : decode (zcode P_init) 21 = .ok (.bipush 121, 2) := by decide +kernel
theorem bd_P_init_23 : decode (zcode P_init) 23 = .ok (.newarray .int, 2) := by decide +kernel
theorem bd_P_init_25 : decode (zcode P_init) 25 = .ok (.putfield 18, 3) := by decide +kernel
theorem bd_P_init_28 : decode (zcode P_init) 28 = .ok (.aload_n 0, 1) := by decide +kernel
theorem bd_P_init_29 : decode (zcode P_init) 29 = .ok (.bipush 6, 2) := by decide +kernel
theorem bd_P_init_31 : decode (zcode P_init) 31 = .ok (.newarray .int, 2) := by decide +kernel
theorem bd_P_init_33 : decode (zcode P_init) 33 = .ok (.putfield 21, 3) := by decide +kernel
theorem bd_P_init_36 : decode (zcode P_init) 36 = .ok (.return_, 1) := by decide +kernel
set_option maxRecDepth 100000 in
set_option maxHeartbeats 4000000 in
theorem bc_P_init {g : zG} {d h0 q0 : Nat} {ws : va_W} (hid : ∀ q, zad g q = q) (hd : 1 ≤ d) (he : ws[q0]? = some (h0, .inr (6, zdef 6))) : zMB g d 4 369 P_init [.ref h0] ws (fun ws2 => ∃ q1 q2 q3 q4 : Nat, ws2 = bN ws q0 (h0, .inr (6, [.ref q1, .ref q2, .ref q3, .ref q4, .int 0])) [(q1, .inl (g.2.2.1 0, 121, .inl (fun _ => 0))), (q2, .inl (g.2.2.1 0, 121, .inl (fun _ => 0))), (q3, .inl (g.2.2.1 0, 121, .inl (fun _ => 0))), (q4, .inl (g.2.2.1 0, 6, .inl (fun _ => 0)))]) := by
  have hq0 : q0 < ws.length := (List.getElem?_eq_some_iff.mp he).1
  refine zMB_of (ls := [some (.ref h0)]) hid (by decide +kernel) rfl rfl (Nat.le_of_ble_eq_true rfl) rfl rfl ?_
  refine bW_0 he ?_
  refine b_aload bd_P_init_0 rfl ?_
  refine b_obj (p0 := 141) (p1 := 128) (p2 := 129) bd_P_init_1 (by decide +kernel) (by omega) (Nat.le_of_ble_eq_true rfl) ?_
  refine b_aload bd_P_init_4 rfl ?_
  refine b_bipush (v := 121) bd_P_init_5 rfl ?_
  refine b_newI (nc := 3) (ns := 248) (n := 121) (N := 121) bd_P_init_7 (by decide) rfl (Nat.le_of_ble_eq_true rfl) (fun q1 => ?_)
  refine bW_app ?_
  refine b_putR (ci := 6) (k0 := 0) bd_P_init_9 (by decide +kernel) (by decide) (by decide) rfl rfl (bN_get hq0) (Nat.le_of_ble_eq_true rfl) ?_
  refine bW_set hq0 ?_
  refine b_aload bd_P_init_12 rfl ?_
  refine b_bipush (v := 121) bd_P_init_13 rfl ?_
  refine b_newI (nc := 2) (ns := 127) (n := 121) (N := 121) bd_P_init_15 (by decide) rfl (Nat.le_of_ble_eq_true rfl) (fun q2 => ?_)
  refine bW_app ?_
  refine b_putR (ci := 6) (k0 := 1) bd_P_init_17 (by decide +kernel) (by decide) (by decide) rfl rfl (bN_get hq0) (Nat.le_of_ble_eq_true rfl) ?_
  refine bW_set hq0 ?_
  refine b_aload bd_P_init_20 rfl ?_
  refine b_bipush (v := 121) bd_P_init_21 rfl ?_
  refine b_newI (nc := 1) (ns := 6) (n := 121) (N := 121) bd_P_init_23 (by decide) rfl (Nat.le_of_ble_eq_true rfl) (fun q3 => ?_)
  refine bW_app ?_
  refine b_putR (ci := 6) (k0 := 2) bd_P_init_25 (by decide +kernel) (by decide) (by decide) rfl rfl (bN_get hq0) (Nat.le_of_ble_eq_true rfl) ?_
  refine bW_set hq0 ?_
  refine b_aload bd_P_init_28 rfl ?_
  refine b_bipush (v := 6) bd_P_init_29 rfl ?_
  refine b_newI (nc := 0) (ns := 0) (n := 6) (N := 6) bd_P_init_31 (by decide) rfl (Nat.le_of_ble_eq_true rfl) (fun q4 => ?_)
  refine bW_app ?_
  refine b_putR (ci := 6) (k0 := 3) bd_P_init_33 (by decide +kernel) (by decide) (by decide) rfl rfl (bN_get hq0) (Nat.le_of_ble_eq_true rfl) ?_
  refine bW_set hq0 ?_
  exact b_stop ⟨bd_P_init_36, rfl, q1, q2, q3, q4, rfl⟩
theorem bd_H_init_0 : decode (zcode H_init) 0 = .ok (.aload_n 0, 1) := by decide +kernel
theorem bd_H_init_1 : decode (zcode H_init) 1 = .ok (.invokespecial 1, 3) := by decide +kernel
theorem bd_H_init_4 : decode (zcode H_init) 4 = .ok (.aload_n 0, 1) := by decide +kernel
theorem bd_H_init_5 : decode (zcode H_init) 5 = .ok (.bipush 40, 2) := by decide +kernel
theorem bd_H_init_7 : decode (zcode H_init) 7 = .ok (.newarray .int, 2) := by decide +kernel
theorem bd_H_init_9 : decode (zcode H_init) 9 = .ok (.putfield 9, 3) := by decide +kernel
theorem bd_H_init_12 : decode (zcode H_init) 12 = .ok (.aload_n 0, 1) := by decide +kernel
theorem bd_H_init_13 : decode (zcode H_init) 13 = .ok (.bipush 40, 2) := by decide +kernel
theorem bd_H_init_15 : decode (zcode H_init) 15 = .ok (.newarray .int, 2) := by decide +kernel
theorem bd_H_init_17 : decode (zcode H_init) 17 = .ok (.putfield 13, 3) := by decide +kernel
theorem bd_H_init_20 : decode (zcode H_init) 20 = .ok (.aload_n 0, 1) := by decide +kernel
theorem bd_H_init_21 : decode (zcode H_init) 21 = .ok (.bipush 40, 2) := by decide +kernel
theorem bd_H_init_23 : decode (zcode H_init) 23 = .ok (.newarray .int, 2) := by decide +kernel
theorem bd_H_init_25 : decode (zcode H_init) 25 = .ok (.putfield 16, 3) := by decide +kernel
theorem bd_H_init_28 : decode (zcode H_init) 28 = .ok (.aload_n 0, 1) := by decide +kernel
theorem bd_H_init_29 : decode (zcode H_init) 29 = .ok (.bipush 40, 2) := by decide +kernel
theorem bd_H_init_31 : decode (zcode H_init) 31 = .ok (.newarray .int, 2) := by decide +kernel
theorem bd_H_init_33 : decode (zcode H_init) 33 = .ok (.putfield 19, 3) := by decide +kernel
theorem bd_H_init_36 : decode (zcode H_init) 36 = .ok (.return_, 1) := by decide +kernel
set_option maxRecDepth 100000 in
set_option maxHeartbeats 4000000 in
theorem bc_H_init {g : zG} {d h0 q0 : Nat} {ws : va_W} (hid : ∀ q, zad g q = q) (hd : 1 ≤ d) (he : ws[q0]? = some (h0, .inr (2, zdef 2))) : zMB g d 4 160 H_init [.ref h0] ws (fun ws2 => ∃ q1 q2 q3 q4 : Nat, ws2 = bN ws q0 (h0, .inr (2, [.ref q1, .ref q2, .ref q3, .ref q4, .int 0, .int 0])) [(q1, .inl (g.2.2.1 0, 40, .inl (fun _ => 0))), (q2, .inl (g.2.2.1 0, 40, .inl (fun _ => 0))), (q3, .inl (g.2.2.1 0, 40, .inl (fun _ => 0))), (q4, .inl (g.2.2.1 0, 40, .inl (fun _ => 0)))]) := by
  have hq0 : q0 < ws.length := (List.getElem?_eq_some_iff.mp he).1
  refine zMB_of (ls := [some (.ref h0)]) hid (by decide +kernel) rfl rfl (Nat.le_of_ble_eq_true rfl) rfl rfl ?_
  refine bW_0 he ?_
  refine b_aload bd_H_init_0 rfl ?_
  refine b_obj (p0 := 367) (p1 := 128) (p2 := 129) bd_H_init_1 (by decide +kernel) (by omega) (Nat.le_of_ble_eq_true rfl) ?_
  refine b_aload bd_H_init_4 rfl ?_
  refine b_bipush (v := 40) bd_H_init_5 rfl ?_
  refine b_newI (nc := 3) (ns := 120) (n := 40) (N := 40) bd_H_init_7 (by decide) rfl (Nat.le_of_ble_eq_true rfl) (fun q1 => ?_)
  refine bW_app ?_
  refine b_putR (ci := 2) (k0 := 0) bd_H_init_9 (by decide +kernel) (by decide) (by decide) rfl rfl (bN_get hq0) (Nat.le_of_ble_eq_true rfl) ?_
  refine bW_set hq0 ?_
  refine b_aload bd_H_init_12 rfl ?_
  refine b_bipush (v := 40) bd_H_init_13 rfl ?_
  refine b_newI (nc := 2) (ns := 80) (n := 40) (N := 40) bd_H_init_15 (by decide) rfl (Nat.le_of_ble_eq_true rfl) (fun q2 => ?_)
  refine bW_app ?_
  refine b_putR (ci := 2) (k0 := 1) bd_H_init_17 (by decide +kernel) (by decide) (by decide) rfl rfl (bN_get hq0) (Nat.le_of_ble_eq_true rfl) ?_
  refine bW_set hq0 ?_
  refine b_aload bd_H_init_20 rfl ?_
  refine b_bipush (v := 40) bd_H_init_21 rfl ?_
  refine b_newI (nc := 1) (ns := 40) (n := 40) (N := 40) bd_H_init_23 (by decide) rfl (Nat.le_of_ble_eq_true rfl) (fun q3 => ?_)
  refine bW_app ?_
  refine b_putR (ci := 2) (k0 := 2) bd_H_init_25 (by decide +kernel) (by decide) (by decide) rfl rfl (bN_get hq0) (Nat.le_of_ble_eq_true rfl) ?_
  refine bW_set hq0 ?_
  refine b_aload bd_H_init_28 rfl ?_
  refine b_bipush (v := 40) bd_H_init_29 rfl ?_
  refine b_newI (nc := 0) (ns := 0) (n := 40) (N := 40) bd_H_init_31 (by decide) rfl (Nat.le_of_ble_eq_true rfl) (fun q4 => ?_)
  refine bW_app ?_
  refine b_putR (ci := 2) (k0 := 3) bd_H_init_33 (by decide +kernel) (by decide) (by decide) rfl rfl (bN_get hq0) (Nat.le_of_ble_eq_true rfl) ?_
  refine bW_set hq0 ?_
  exact b_stop ⟨bd_H_init_36, rfl, q1, q2, q3, q4, rfl⟩
theorem bd_A_init_0 : decode (zcode A_init) 0 = .ok (.aload_n 0, 1) := by decide +kernel
theorem bd_A_init_1 : decode (zcode A_init) 1 = .ok (.invokespecial 3, 3) := by decide +kernel
theorem bd_A_init_4 : decode (zcode A_init) 4 = .ok (.aload_n 0, 1) := by decide +kernel
theorem bd_A_init_5 : decode (zcode A_init) 5 = .ok (.bipush 50, 2) := by decide +kernel
theorem bd_A_init_7 : decode (zcode A_init) 7 = .ok (.newarray .int, 2) := by decide +kernel
theorem bd_A_init_9 : decode (zcode A_init) 9 = .ok (.putfield 11, 3) := by decide +kernel
theorem bd_A_init_12 : decode (zcode A_init) 12 = .ok (.aload_n 0, 1) := by decide +kernel
theorem bd_A_init_13 : decode (zcode A_init) 13 = .ok (.bipush 24, 2) := by decide +kernel
theorem bd_A_init_15 : decode (zcode A_init) 15 = .ok (.newarray .int, 2) := by decide +kernel
theorem bd_A_init_17 : decode (zcode A_init) 17 = .ok (.putfield 15, 3) := by decide +kernel
theorem bd_A_init_20 : decode (zcode A_init) 20 = .ok (.return_, 1) := by decide +kernel
set_option maxRecDepth 100000 in
set_option maxHeartbeats 4000000 in
theorem bc_A_init {g : zG} {d h0 q0 : Nat} {ws : va_W} (hid : ∀ q, zad g q = q) (hd : 1 ≤ d) (he : ws[q0]? = some (h0, .inr (0, zdef 0))) : zMB g d 2 74 A_init [.ref h0] ws (fun ws2 => ∃ q1 q2 : Nat, ws2 = bN ws q0 (h0, .inr (0, [.ref q1, .ref q2, .int 0, .int 0, .int 0])) [(q1, .inl (g.2.2.1 0, 50, .inl (fun _ => 0))), (q2, .inl (g.2.2.1 0, 24, .inl (fun _ => 0)))]) := by
  have hq0 : q0 < ws.length := (List.getElem?_eq_some_iff.mp he).1
  refine zMB_of (ls := [some (.ref h0)]) hid (by decide +kernel) rfl rfl (Nat.le_of_ble_eq_true rfl) rfl rfl ?_
  refine bW_0 he ?_
  refine b_aload bd_A_init_0 rfl ?_
  refine b_obj (p0 := 394) (p1 := 128) (p2 := 129) bd_A_init_1 (by decide +kernel) (by omega) (Nat.le_of_ble_eq_true rfl) ?_
  refine b_aload bd_A_init_4 rfl ?_
  refine b_bipush (v := 50) bd_A_init_5 rfl ?_
  refine b_newI (nc := 1) (ns := 24) (n := 50) (N := 50) bd_A_init_7 (by decide) rfl (Nat.le_of_ble_eq_true rfl) (fun q1 => ?_)
  refine bW_app ?_
  refine b_putR (ci := 0) (k0 := 0) bd_A_init_9 (by decide +kernel) (by decide) (by decide) rfl rfl (bN_get hq0) (Nat.le_of_ble_eq_true rfl) ?_
  refine bW_set hq0 ?_
  refine b_aload bd_A_init_12 rfl ?_
  refine b_bipush (v := 24) bd_A_init_13 rfl ?_
  refine b_newI (nc := 0) (ns := 0) (n := 24) (N := 24) bd_A_init_15 (by decide) rfl (Nat.le_of_ble_eq_true rfl) (fun q2 => ?_)
  refine bW_app ?_
  refine b_putR (ci := 0) (k0 := 1) bd_A_init_17 (by decide +kernel) (by decide) (by decide) rfl rfl (bN_get hq0) (Nat.le_of_ble_eq_true rfl) ?_
  refine bW_set hq0 ?_
  exact b_stop ⟨bd_A_init_20, rfl, q1, q2, rfl⟩
theorem bd_S_init_0 : decode (zcode S_init) 0 = .ok (.aload_n 0, 1) := by decide +kernel
theorem bd_S_init_1 : decode (zcode S_init) 1 = .ok (.invokespecial 3, 3) := by decide +kernel
theorem bd_S_init_4 : decode (zcode S_init) 4 = .ok (.aload_n 0, 1) := by decide +kernel
theorem bd_S_init_5 : decode (zcode S_init) 5 = .ok (.bipush 60, 2) := by decide +kernel
theorem bd_S_init_7 : decode (zcode S_init) 7 = .ok (.newarray .long, 2) := by decide +kernel
theorem bd_S_init_9 : decode (zcode S_init) 9 = .ok (.putfield 11, 3) := by decide +kernel
theorem bd_S_init_12 : decode (zcode S_init) 12 = .ok (.aload_n 0, 1) := by decide +kernel
theorem bd_S_init_13 : decode (zcode S_init) 13 = .ok (.iconst (-1), 1) := by decide +kernel
theorem bd_S_init_14 : decode (zcode S_init) 14 = .ok (.putfield 15, 3) := by decide +kernel
theorem bd_S_init_17 : decode (zcode S_init) 17 = .ok (.aload_n 0, 1) := by decide +kernel
theorem bd_S_init_18 : decode (zcode S_init) 18 = .ok (.iconst (-1), 1) := by decide +kernel
theorem bd_S_init_19 : decode (zcode S_init) 19 = .ok (.putfield 19, 3) := by decide +kernel
theorem bd_S_init_22 : decode (zcode S_init) 22 = .ok (.return_, 1) := by decide +kernel
set_option maxRecDepth 100000 in
set_option maxHeartbeats 4000000 in
theorem bc_S_init {g : zG} {d h0 q0 : Nat} {ws : va_W} (hid : ∀ q, zad g q = q) (hd : 1 ≤ d) (he : ws[q0]? = some (h0, .inr (8, zdef 8))) : zMB g d 1 60 S_init [.ref h0] ws (fun ws2 => ∃ q1 : Nat, ws2 = bN ws q0 (h0, .inr (8, [.ref q1, .int (-1), .int (-1), .int 0])) [(q1, .inl (g.2.2.1 1, 60, .inr (.inl (fun _ => 0))))]) := by
  have hq0 : q0 < ws.length := (List.getElem?_eq_some_iff.mp he).1
  refine zMB_of (ls := [some (.ref h0)]) hid (by decide +kernel) rfl rfl (Nat.le_of_ble_eq_true rfl) rfl rfl ?_
  refine bW_0 he ?_
  refine b_aload bd_S_init_0 rfl ?_
  refine b_obj (p0 := 421) (p1 := 128) (p2 := 129) bd_S_init_1 (by decide +kernel) (by omega) (Nat.le_of_ble_eq_true rfl) ?_
  refine b_aload bd_S_init_4 rfl ?_
  refine b_bipush (v := 60) bd_S_init_5 rfl ?_
  refine b_newL (nc := 0) (ns := 0) (n := 60) (N := 60) bd_S_init_7 (by decide) rfl (Nat.le_of_ble_eq_true rfl) (fun q1 => ?_)
  refine bW_app ?_
  refine b_putR (ci := 8) (k0 := 0) bd_S_init_9 (by decide +kernel) (by decide) (by decide) rfl rfl (bN_get hq0) (Nat.le_of_ble_eq_true rfl) ?_
  refine bW_set hq0 ?_
  refine b_aload bd_S_init_12 rfl ?_
  refine b_iconst (v := (-1)) bd_S_init_13 rfl ?_
  refine b_putI (ci := 8) (k0 := 1) bd_S_init_14 (by decide +kernel) rfl (by decide) rfl rfl (bN_get hq0) (Nat.le_of_ble_eq_true rfl) ?_
  refine bW_set hq0 ?_
  refine b_aload bd_S_init_17 rfl ?_
  refine b_iconst (v := (-1)) bd_S_init_18 rfl ?_
  refine b_putI (ci := 8) (k0 := 2) bd_S_init_19 (by decide +kernel) rfl (by decide) rfl rfl (bN_get hq0) (Nat.le_of_ble_eq_true rfl) ?_
  refine bW_set hq0 ?_
  exact b_stop ⟨bd_S_init_22, rfl, q1, rfl⟩
theorem bd_D_init_0 : decode (zcode D_init) 0 = .ok (.aload_n 0, 1) := by decide +kernel
theorem bd_D_init_1 : decode (zcode D_init) 1 = .ok (.invokespecial 3, 3) := by decide +kernel
theorem bd_D_init_4 : decode (zcode D_init) 4 = .ok (.aload_n 0, 1) := by decide +kernel
theorem bd_D_init_5 : decode (zcode D_init) 5 = .ok (.iconst 4, 1) := by decide +kernel
theorem bd_D_init_6 : decode (zcode D_init) 6 = .ok (.newarray .int, 2) := by decide +kernel
theorem bd_D_init_8 : decode (zcode D_init) 8 = .ok (.putfield 11, 3) := by decide +kernel
theorem bd_D_init_11 : decode (zcode D_init) 11 = .ok (.aload_n 0, 1) := by decide +kernel
theorem bd_D_init_12 : decode (zcode D_init) 12 = .ok (.iconst 4, 1) := by decide +kernel
theorem bd_D_init_13 : decode (zcode D_init) 13 = .ok (.newarray .int, 2) := by decide +kernel
theorem bd_D_init_15 : decode (zcode D_init) 15 = .ok (.putfield 15, 3) := by decide +kernel
theorem bd_D_init_18 : decode (zcode D_init) 18 = .ok (.aload_n 0, 1) := by decide +kernel
theorem bd_D_init_19 : decode (zcode D_init) 19 = .ok (.bipush 12, 2) := by decide +kernel
theorem bd_D_init_21 : decode (zcode D_init) 21 = .ok (.newarray .int, 2) := by decide +kernel
theorem bd_D_init_23 : decode (zcode D_init) 23 = .ok (.putfield 18, 3) := by decide +kernel
theorem bd_D_init_26 : decode (zcode D_init) 26 = .ok (.aload_n 0, 1) := by decide +kernel
theorem bd_D_init_27 : decode (zcode D_init) 27 = .ok (.bipush 12, 2) := by decide +kernel
theorem bd_D_init_29 : decode (zcode D_init) 29 = .ok (.newarray .int, 2) := by decide +kernel
theorem bd_D_init_31 : decode (zcode D_init) 31 = .ok (.putfield 21, 3) := by decide +kernel
theorem bd_D_init_34 : decode (zcode D_init) 34 = .ok (.aload_n 0, 1) := by decide +kernel
theorem bd_D_init_35 : decode (zcode D_init) 35 = .ok (.aload_n 1, 1) := by decide +kernel
theorem bd_D_init_36 : decode (zcode D_init) 36 = .ok (.putfield 24, 3) := by decide +kernel
theorem bd_D_init_39 : decode (zcode D_init) 39 = .ok (.return_, 1) := by decide +kernel
set_option maxRecDepth 100000 in
set_option maxHeartbeats 4000000 in
theorem bc_D_init {g : zG} {d h0 q0 f0 : Nat} {ws : va_W} (hid : ∀ q, zad g q = q) (hd : 1 ≤ d) (he : ws[q0]? = some (h0, .inr (3, zdef 3))) : zMB g d 4 32 D_init [.ref h0, .ref f0] ws (fun ws2 => ∃ q1 q2 q3 q4 : Nat, ws2 = bN ws q0 (h0, .inr (3, [.ref f0, .ref q1, .int 0, .int 0, .ref q2, .ref q3, .ref q4, .int 0, .int 0])) [(q1, .inl (g.2.2.1 0, 4, .inl (fun _ => 0))), (q2, .inl (g.2.2.1 0, 4, .inl (fun _ => 0))), (q3, .inl (g.2.2.1 0, 12, .inl (fun _ => 0))), (q4, .inl (g.2.2.1 0, 12, .inl (fun _ => 0)))]) := by
  have hq0 : q0 < ws.length := (List.getElem?_eq_some_iff.mp he).1
  refine zMB_of (ls := [some (.ref h0), some (.ref f0)]) hid (by decide +kernel) rfl rfl (Nat.le_of_ble_eq_true rfl) rfl rfl ?_
  refine bW_0 he ?_
  refine b_aload bd_D_init_0 rfl ?_
  refine b_obj (p0 := 330) (p1 := 128) (p2 := 129) bd_D_init_1 (by decide +kernel) (by omega) (Nat.le_of_ble_eq_true rfl) ?_
  refine b_aload bd_D_init_4 rfl ?_
  refine b_iconst (v := 4) bd_D_init_5 rfl ?_
  refine b_newI (nc := 3) (ns := 28) (n := 4) (N := 4) bd_D_init_6 (by decide) rfl (Nat.le_of_ble_eq_true rfl) (fun q1 => ?_)
  refine bW_app ?_
  refine b_putR (ci := 3) (k0 := 1) bd_D_init_8 (by decide +kernel) (by decide) (by decide) rfl rfl (bN_get hq0) (Nat.le_of_ble_eq_true rfl) ?_
  refine bW_set hq0 ?_
  refine b_aload bd_D_init_11 rfl ?_
  refine b_iconst (v := 4) bd_D_init_12 rfl ?_
  refine b_newI (nc := 2) (ns := 24) (n := 4) (N := 4) bd_D_init_13 (by decide) rfl (Nat.le_of_ble_eq_true rfl) (fun q2 => ?_)
  refine bW_app ?_
  refine b_putR (ci := 3) (k0 := 4) bd_D_init_15 (by decide +kernel) (by decide) (by decide) rfl rfl (bN_get hq0) (Nat.le_of_ble_eq_true rfl) ?_
  refine bW_set hq0 ?_
  refine b_aload bd_D_init_18 rfl ?_
  refine b_bipush (v := 12) bd_D_init_19 rfl ?_
  refine b_newI (nc := 1) (ns := 12) (n := 12) (N := 12) bd_D_init_21 (by decide) rfl (Nat.le_of_ble_eq_true rfl) (fun q3 => ?_)
  refine bW_app ?_
  refine b_putR (ci := 3) (k0 := 5) bd_D_init_23 (by decide +kernel) (by decide) (by decide) rfl rfl (bN_get hq0) (Nat.le_of_ble_eq_true rfl) ?_
  refine bW_set hq0 ?_
  refine b_aload bd_D_init_26 rfl ?_
  refine b_bipush (v := 12) bd_D_init_27 rfl ?_
  refine b_newI (nc := 0) (ns := 0) (n := 12) (N := 12) bd_D_init_29 (by decide) rfl (Nat.le_of_ble_eq_true rfl) (fun q4 => ?_)
  refine bW_app ?_
  refine b_putR (ci := 3) (k0 := 6) bd_D_init_31 (by decide +kernel) (by decide) (by decide) rfl rfl (bN_get hq0) (Nat.le_of_ble_eq_true rfl) ?_
  refine bW_set hq0 ?_
  refine b_aload bd_D_init_34 rfl ?_
  refine b_aload bd_D_init_35 rfl ?_
  refine b_putR (ci := 3) (k0 := 0) bd_D_init_36 (by decide +kernel) (by decide) (by decide) rfl rfl (bN_get hq0) (Nat.le_of_ble_eq_true rfl) ?_
  refine bW_set hq0 ?_
  exact b_stop ⟨bd_D_init_39, rfl, q1, q2, q3, q4, rfl⟩
theorem bd_O_init_0 : decode (zcode O_init) 0 = .ok (.aload_n 0, 1) := by decide +kernel
theorem bd_O_init_1 : decode (zcode O_init) 1 = .ok (.invokespecial 3, 3) := by decide +kernel
theorem bd_O_init_4 : decode (zcode O_init) 4 = .ok (.aload_n 0, 1) := by decide +kernel
theorem bd_O_init_5 : decode (zcode O_init) 5 = .ok (.bipush 6, 2) := by decide +kernel
theorem bd_O_init_7 : decode (zcode O_init) 7 = .ok (.newarray .int, 2) := by decide +kernel
theorem bd_O_init_9 : decode (zcode O_init) 9 = .ok (.putfield 9, 3) := by decide +kernel
theorem bd_O_init_12 : decode (zcode O_init) 12 = .ok (.aload_n 0, 1) := by decide +kernel
theorem bd_O_init_13 : decode (zcode O_init) 13 = .ok (.bipush 6, 2) := by decide +kernel
theorem bd_O_init_15 : decode (zcode O_init) 15 = .ok (.newarray .int, 2) := by decide +kernel
theorem bd_O_init_17 : decode (zcode O_init) 17 = .ok (.putfield 15, 3) := by decide +kernel
theorem bd_O_init_20 : decode (zcode O_init) 20 = .ok (.aload_n 0, 1) := by decide +kernel
theorem bd_O_init_21 : decode (zcode O_init) 21 = .ok (.aload_n 1, 1) := by decide +kernel
theorem bd_O_init_22 : decode (zcode O_init) 22 = .ok (.putfield 18, 3) := by decide +kernel
theorem bd_O_init_25 : decode (zcode O_init) 25 = .ok (.return_, 1) := by decide +kernel
set_option maxRecDepth 100000 in
set_option maxHeartbeats 4000000 in
theorem bc_O_init {g : zG} {d h0 q0 f0 : Nat} {ws : va_W} (hid : ∀ q, zad g q = q) (hd : 1 ≤ d) (he : ws[q0]? = some (h0, .inr (9, zdef 9))) : zMB g d 2 12 O_init [.ref h0, .ref f0] ws (fun ws2 => ∃ q1 q2 : Nat, ws2 = bN ws q0 (h0, .inr (9, [.ref f0, .ref q1, .ref q2])) [(q1, .inl (g.2.2.1 0, 6, .inl (fun _ => 0))), (q2, .inl (g.2.2.1 0, 6, .inl (fun _ => 0)))]) := by
  have hq0 : q0 < ws.length := (List.getElem?_eq_some_iff.mp he).1
  refine zMB_of (ls := [some (.ref h0), some (.ref f0)]) hid (by decide +kernel) rfl rfl (Nat.le_of_ble_eq_true rfl) rfl rfl ?_
  refine bW_0 he ?_
  refine b_aload bd_O_init_0 rfl ?_
  refine b_obj (p0 := 246) (p1 := 128) (p2 := 129) bd_O_init_1 (by decide +kernel) (by omega) (Nat.le_of_ble_eq_true rfl) ?_
  refine b_aload bd_O_init_4 rfl ?_
  refine b_bipush (v := 6) bd_O_init_5 rfl ?_
  refine b_newI (nc := 1) (ns := 6) (n := 6) (N := 6) bd_O_init_7 (by decide) rfl (Nat.le_of_ble_eq_true rfl) (fun q1 => ?_)
  refine bW_app ?_
  refine b_putR (ci := 9) (k0 := 1) bd_O_init_9 (by decide +kernel) (by decide) (by decide) rfl rfl (bN_get hq0) (Nat.le_of_ble_eq_true rfl) ?_
  refine bW_set hq0 ?_
  refine b_aload bd_O_init_12 rfl ?_
  refine b_bipush (v := 6) bd_O_init_13 rfl ?_
  refine b_newI (nc := 0) (ns := 0) (n := 6) (N := 6) bd_O_init_15 (by decide) rfl (Nat.le_of_ble_eq_true rfl) (fun q2 => ?_)
  refine bW_app ?_
  refine b_putR (ci := 9) (k0 := 2) bd_O_init_17 (by decide +kernel) (by decide) (by decide) rfl rfl (bN_get hq0) (Nat.le_of_ble_eq_true rfl) ?_
  refine bW_set hq0 ?_
  refine b_aload bd_O_init_20 rfl ?_
  refine b_aload bd_O_init_21 rfl ?_
  refine b_putR (ci := 9) (k0 := 0) bd_O_init_22 (by decide +kernel) (by decide) (by decide) rfl rfl (bN_get hq0) (Nat.le_of_ble_eq_true rfl) ?_
  refine bW_set hq0 ?_
  exact b_stop ⟨bd_O_init_25, rfl, q1, q2, rfl⟩
theorem bd_L_init_0 : decode (zcode L_init) 0 = .ok (.aload_n 0, 1) := by decide +kernel
theorem bd_L_init_1 : decode (zcode L_init) 1 = .ok (.invokespecial 3, 3) := by decide +kernel
theorem bd_L_init_4 : decode (zcode L_init) 4 = .ok (.aload_n 0, 1) := by decide +kernel
theorem bd_L_init_5 : decode (zcode L_init) 5 = .ok (.bipush 12, 2) := by decide +kernel
theorem bd_L_init_7 : decode (zcode L_init) 7 = .ok (.newarray .int, 2) := by decide +kernel
theorem bd_L_init_9 : decode (zcode L_init) 9 = .ok (.putfield 9, 3) := by decide +kernel
theorem bd_L_init_12 : decode (zcode L_init) 12 = .ok (.aload_n 0, 1) := by decide +kernel
theorem bd_L_init_13 : decode (zcode L_init) 13 = .ok (.sipush 217, 3) := by decide +kernel
theorem bd_L_init_16 : decode (zcode L_init) 16 = .ok (.newarray .int, 2) := by decide +kernel
theorem bd_L_init_18 : decode (zcode L_init) 18 = .ok (.putfield 15, 3) := by decide +kernel
theorem bd_L_init_21 : decode (zcode L_init) 21 = .ok (.aload_n 0, 1) := by decide +kernel
theorem bd_L_init_22 : decode (zcode L_init) 22 = .ok (.bipush 60, 2) := by decide +kernel
theorem bd_L_init_24 : decode (zcode L_init) 24 = .ok (.newarray .int, 2) := by decide +kernel
theorem bd_L_init_26 : decode (zcode L_init) 26 = .ok (.putfield 20, 3) := by decide +kernel
theorem bd_L_init_29 : decode (zcode L_init) 29 = .ok (.aload_n 0, 1) := by decide +kernel
theorem bd_L_init_30 : decode (zcode L_init) 30 = .ok (.bipush 60, 2) := by decide +kernel
theorem bd_L_init_32 : decode (zcode L_init) 32 = .ok (.newarray .int, 2) := by decide +kernel
theorem bd_L_init_34 : decode (zcode L_init) 34 = .ok (.putfield 23, 3) := by decide +kernel
theorem bd_L_init_37 : decode (zcode L_init) 37 = .ok (.aload_n 0, 1) := by decide +kernel
theorem bd_L_init_38 : decode (zcode L_init) 38 = .ok (.sipush 999, 3) := by decide +kernel
theorem bd_L_init_41 : decode (zcode L_init) 41 = .ok (.newarray .int, 2) := by decide +kernel
theorem bd_L_init_43 : decode (zcode L_init) 43 = .ok (.putfield 26, 3) := by decide +kernel
theorem bd_L_init_46 : decode (zcode L_init) 46 = .ok (.aload_n 0, 1) := by decide +kernel
theorem bd_L_init_47 : decode (zcode L_init) 47 = .ok (.aload_n 1, 1) := by decide +kernel
theorem bd_L_init_48 : decode (zcode L_init) 48 = .ok (.putfield 29, 3) := by decide +kernel
theorem bd_L_init_51 : decode (zcode L_init) 51 = .ok (.return_, 1) := by decide +kernel
set_option maxRecDepth 100000 in
set_option maxHeartbeats 4000000 in
theorem bc_L_init {g : zG} {d h0 q0 f0 : Nat} {ws : va_W} (hid : ∀ q, zad g q = q) (hd : 1 ≤ d) (he : ws[q0]? = some (h0, .inr (5, zdef 5))) : zMB g d 5 1348 L_init [.ref h0, .ref f0] ws (fun ws2 => ∃ q1 q2 q3 q4 q5 : Nat, ws2 = bN ws q0 (h0, .inr (5, [.ref f0, .ref q1, .ref q2, .ref q3, .ref q4, .ref q5, .int 0, .int 0, .int 0, .int 0, .int 0])) [(q1, .inl (g.2.2.1 0, 12, .inl (fun _ => 0))), (q2, .inl (g.2.2.1 0, 217, .inl (fun _ => 0))), (q3, .inl (g.2.2.1 0, 60, .inl (fun _ => 0))), (q4, .inl (g.2.2.1 0, 60, .inl (fun _ => 0))), (q5, .inl (g.2.2.1 0, 999, .inl (fun _ => 0)))]) := by
  have hq0 : q0 < ws.length := (List.getElem?_eq_some_iff.mp he).1
  refine zMB_of (ls := [some (.ref h0), some (.ref f0)]) hid (by decide +kernel) rfl rfl (Nat.le_of_ble_eq_true rfl) rfl rfl ?_
  refine bW_0 he ?_
  refine b_aload bd_L_init_0 rfl ?_
  refine b_obj (p0 := 262) (p1 := 128) (p2 := 129) bd_L_init_1 (by decide +kernel) (by omega) (Nat.le_of_ble_eq_true rfl) ?_
  refine b_aload bd_L_init_4 rfl ?_
  refine b_bipush (v := 12) bd_L_init_5 rfl ?_
  refine b_newI (nc := 4) (ns := 1336) (n := 12) (N := 12) bd_L_init_7 (by decide) rfl (Nat.le_of_ble_eq_true rfl) (fun q1 => ?_)
  refine bW_app ?_
  refine b_putR (ci := 5) (k0 := 1) bd_L_init_9 (by decide +kernel) (by decide) (by decide) rfl rfl (bN_get hq0) (Nat.le_of_ble_eq_true rfl) ?_
  refine bW_set hq0 ?_
  refine b_aload bd_L_init_12 rfl ?_
  refine b_sipush (v := 217) bd_L_init_13 rfl ?_
  refine b_newI (nc := 3) (ns := 1119) (n := 217) (N := 217) bd_L_init_16 (by decide) rfl (Nat.le_of_ble_eq_true rfl) (fun q2 => ?_)
  refine bW_app ?_
  refine b_putR (ci := 5) (k0 := 2) bd_L_init_18 (by decide +kernel) (by decide) (by decide) rfl rfl (bN_get hq0) (Nat.le_of_ble_eq_true rfl) ?_
  refine bW_set hq0 ?_
  refine b_aload bd_L_init_21 rfl ?_
  refine b_bipush (v := 60) bd_L_init_22 rfl ?_
  refine b_newI (nc := 2) (ns := 1059) (n := 60) (N := 60) bd_L_init_24 (by decide) rfl (Nat.le_of_ble_eq_true rfl) (fun q3 => ?_)
  refine bW_app ?_
  refine b_putR (ci := 5) (k0 := 3) bd_L_init_26 (by decide +kernel) (by decide) (by decide) rfl rfl (bN_get hq0) (Nat.le_of_ble_eq_true rfl) ?_
  refine bW_set hq0 ?_
  refine b_aload bd_L_init_29 rfl ?_
  refine b_bipush (v := 60) bd_L_init_30 rfl ?_
  refine b_newI (nc := 1) (ns := 999) (n := 60) (N := 60) bd_L_init_32 (by decide) rfl (Nat.le_of_ble_eq_true rfl) (fun q4 => ?_)
  refine bW_app ?_
  refine b_putR (ci := 5) (k0 := 4) bd_L_init_34 (by decide +kernel) (by decide) (by decide) rfl rfl (bN_get hq0) (Nat.le_of_ble_eq_true rfl) ?_
  refine bW_set hq0 ?_
  refine b_aload bd_L_init_37 rfl ?_
  refine b_sipush (v := 999) bd_L_init_38 rfl ?_
  refine b_newI (nc := 0) (ns := 0) (n := 999) (N := 999) bd_L_init_41 (by decide) rfl (Nat.le_of_ble_eq_true rfl) (fun q5 => ?_)
  refine bW_app ?_
  refine b_putR (ci := 5) (k0 := 5) bd_L_init_43 (by decide +kernel) (by decide) (by decide) rfl rfl (bN_get hq0) (Nat.le_of_ble_eq_true rfl) ?_
  refine bW_set hq0 ?_
  refine b_aload bd_L_init_46 rfl ?_
  refine b_aload bd_L_init_47 rfl ?_
  refine b_putR (ci := 5) (k0 := 0) bd_L_init_48 (by decide +kernel) (by decide) (by decide) rfl rfl (bN_get hq0) (Nat.le_of_ble_eq_true rfl) ?_
  refine bW_set hq0 ?_
  exact b_stop ⟨bd_L_init_51, rfl, q1, q2, q3, q4, q5, rfl⟩
theorem bd_C_init_0 : decode (zcode C_init) 0 = .ok (.aload_n 0, 1) := by decide +kernel
theorem bd_C_init_1 : decode (zcode C_init) 1 = .ok (.invokespecial 3, 3) := by decide +kernel
theorem bd_C_init_4 : decode (zcode C_init) 4 = .ok (.aload_n 0, 1) := by decide +kernel
theorem bd_C_init_5 : decode (zcode C_init) 5 = .ok (.bipush 6, 2) := by decide +kernel
theorem bd_C_init_7 : decode (zcode C_init) 7 = .ok (.newarray .int, 2) := by decide +kernel
theorem bd_C_init_9 : decode (zcode C_init) 9 = .ok (.putfield 9, 3) := by decide +kernel
theorem bd_C_init_12 : decode (zcode C_init) 12 = .ok (.aload_n 0, 1) := by decide +kernel
theorem bd_C_init_13 : decode (zcode C_init) 13 = .ok (.bipush 6, 2) := by decide +kernel
theorem bd_C_init_15 : decode (zcode C_init) 15 = .ok (.newarray .int, 2) := by decide +kernel
theorem bd_C_init_17 : decode (zcode C_init) 17 = .ok (.putfield 15, 3) := by decide +kernel
theorem bd_C_init_20 : decode (zcode C_init) 20 = .ok (.aload_n 0, 1) := by decide +kernel
theorem bd_C_init_21 : decode (zcode C_init) 21 = .ok (.bipush 6, 2) := by decide +kernel
theorem bd_C_init_23 : decode (zcode C_init) 23 = .ok (.newarray .int, 2) := by decide +kernel
theorem bd_C_init_25 : decode (zcode C_init) 25 = .ok (.putfield 18, 3) := by decide +kernel
theorem bd_C_init_28 : decode (zcode C_init) 28 = .ok (.aload_n 0, 1) := by decide +kernel
theorem bd_C_init_29 : decode (zcode C_init) 29 = .ok (.bipush 12, 2) := by decide +kernel
theorem bd_C_init_31 : decode (zcode C_init) 31 = .ok (.newarray .int, 2) := by decide +kernel
theorem bd_C_init_33 : decode (zcode C_init) 33 = .ok (.putfield 21, 3) := by decide +kernel
theorem bd_C_init_36 : decode (zcode C_init) 36 = .ok (.aload_n 0, 1) := by decide +kernel
theorem bd_C_init_37 : decode (zcode C_init) 37 = .ok (.iconst 5, 1) := by decide +kernel
theorem bd_C_init_38 : decode (zcode C_init) 38 = .ok (.newarray .int, 2) := by decide +kernel
theorem bd_C_init_40 : decode (zcode C_init) 40 = .ok (.putfield 24, 3) := by decide +kernel
theorem bd_C_init_43 : decode (zcode C_init) 43 = .ok (.aload_n 0, 1) := by decide +kernel
theorem bd_C_init_44 : decode (zcode C_init) 44 = .ok (.bipush 30, 2) := by decide +kernel
theorem bd_C_init_46 : decode (zcode C_init) 46 = .ok (.newarray .int, 2) := by decide +kernel
theorem bd_C_init_48 : decode (zcode C_init) 48 = .ok (.putfield 27, 3) := by decide +kernel
theorem bd_C_init_51 : decode (zcode C_init) 51 = .ok (.aload_n 0, 1) := by decide +kernel
theorem bd_C_init_52 : decode (zcode C_init) 52 = .ok (.aload_n 1, 1) := by decide +kernel
theorem bd_C_init_53 : decode (zcode C_init) 53 = .ok (.putfield 30, 3) := by decide +kernel
theorem bd_C_init_56 : decode (zcode C_init) 56 = .ok (.return_, 1) := by decide +kernel
set_option maxRecDepth 100000 in
set_option maxHeartbeats 4000000 in
theorem bc_C_init {g : zG} {d h0 q0 f0 : Nat} {ws : va_W} (hid : ∀ q, zad g q = q) (hd : 1 ≤ d) (he : ws[q0]? = some (h0, .inr (1, zdef 1))) : zMB g d 6 65 C_init [.ref h0, .ref f0] ws (fun ws2 => ∃ q1 q2 q3 q4 q5 q6 : Nat, ws2 = bN ws q0 (h0, .inr (1, [.ref f0, .ref q1, .ref q2, .ref q3, .ref q4, .ref q5, .ref q6])) [(q1, .inl (g.2.2.1 0, 6, .inl (fun _ => 0))), (q2, .inl (g.2.2.1 0, 6, .inl (fun _ => 0))), (q3, .inl (g.2.2.1 0, 6, .inl (fun _ => 0))), (q4, .inl (g.2.2.1 0, 12, .inl (fun _ => 0))), (q5, .inl (g.2.2.1 0, 5, .inl (fun _ => 0))), (q6, .inl (g.2.2.1 0, 30, .inl (fun _ => 0)))]) := by
  have hq0 : q0 < ws.length := (List.getElem?_eq_some_iff.mp he).1
  refine zMB_of (ls := [some (.ref h0), some (.ref f0)]) hid (by decide +kernel) rfl rfl (Nat.le_of_ble_eq_true rfl) rfl rfl ?_
  refine bW_0 he ?_
  refine b_aload bd_C_init_0 rfl ?_
  refine b_obj (p0 := 302) (p1 := 128) (p2 := 129) bd_C_init_1 (by decide +kernel) (by omega) (Nat.le_of_ble_eq_true rfl) ?_
  refine b_aload bd_C_init_4 rfl ?_
  refine b_bipush (v := 6) bd_C_init_5 rfl ?_
  refine b_newI (nc := 5) (ns := 59) (n := 6) (N := 6) bd_C_init_7 (by decide) rfl (Nat.le_of_ble_eq_true rfl) (fun q1 => ?_)
  refine bW_app ?_
  refine b_putR (ci := 1) (k0 := 1) bd_C_init_9 (by decide +kernel) (by decide) (by decide) rfl rfl (bN_get hq0) (Nat.le_of_ble_eq_true rfl) ?_
  refine bW_set hq0 ?_
  refine b_aload bd_C_init_12 rfl ?_
  refine b_bipush (v := 6) bd_C_init_13 rfl ?_
  refine b_newI (nc := 4) (ns := 53) (n := 6) (N := 6) bd_C_init_15 (by decide) rfl (Nat.le_of_ble_eq_true rfl) (fun q2 => ?_)
  refine bW_app ?_
  refine b_putR (ci := 1) (k0 := 2) bd_C_init_17 (by decide +kernel) (by decide) (by decide) rfl rfl (bN_get hq0) (Nat.le_of_ble_eq_true rfl) ?_
  refine bW_set hq0 ?_
  refine b_aload bd_C_init_20 rfl ?_
  refine b_bipush (v := 6) bd_C_init_21 rfl ?_
  refine b_newI (nc := 3) (ns := 47) (n := 6) (N := 6) bd_C_init_23 (by decide) rfl (Nat.le_of_ble_eq_true rfl) (fun q3 => ?_)
  refine bW_app ?_
  refine b_putR (ci := 1) (k0 := 3) bd_C_init_25 (by decide +kernel) (by decide) (by decide) rfl rfl (bN_get hq0) (Nat.le_of_ble_eq_true rfl) ?_
  refine bW_set hq0 ?_
  refine b_aload bd_C_init_28 rfl ?_
  refine b_bipush (v := 12) bd_C_init_29 rfl ?_
  refine b_newI (nc := 2) (ns := 35) (n := 12) (N := 12) bd_C_init_31 (by decide) rfl (Nat.le_of_ble_eq_true rfl) (fun q4 => ?_)
  refine bW_app ?_
  refine b_putR (ci := 1) (k0 := 4) bd_C_init_33 (by decide +kernel) (by decide) (by decide) rfl rfl (bN_get hq0) (Nat.le_of_ble_eq_true rfl) ?_
  refine bW_set hq0 ?_
  refine b_aload bd_C_init_36 rfl ?_
  refine b_iconst (v := 5) bd_C_init_37 rfl ?_
  refine b_newI (nc := 1) (ns := 30) (n := 5) (N := 5) bd_C_init_38 (by decide) rfl (Nat.le_of_ble_eq_true rfl) (fun q5 => ?_)
  refine bW_app ?_
  refine b_putR (ci := 1) (k0 := 5) bd_C_init_40 (by decide +kernel) (by decide) (by decide) rfl rfl (bN_get hq0) (Nat.le_of_ble_eq_true rfl) ?_
  refine bW_set hq0 ?_
  refine b_aload bd_C_init_43 rfl ?_
  refine b_bipush (v := 30) bd_C_init_44 rfl ?_
  refine b_newI (nc := 0) (ns := 0) (n := 30) (N := 30) bd_C_init_46 (by decide) rfl (Nat.le_of_ble_eq_true rfl) (fun q6 => ?_)
  refine bW_app ?_
  refine b_putR (ci := 1) (k0 := 6) bd_C_init_48 (by decide +kernel) (by decide) (by decide) rfl rfl (bN_get hq0) (Nat.le_of_ble_eq_true rfl) ?_
  refine bW_set hq0 ?_
  refine b_aload bd_C_init_51 rfl ?_
  refine b_aload bd_C_init_52 rfl ?_
  refine b_putR (ci := 1) (k0 := 0) bd_C_init_53 (by decide +kernel) (by decide) (by decide) rfl rfl (bN_get hq0) (Nat.le_of_ble_eq_true rfl) ?_
  refine bW_set hq0 ?_
  exact b_stop ⟨bd_C_init_56, rfl, q1, q2, q3, q4, q5, q6, rfl⟩
theorem bd_R_init_0 : decode (zcode R_init) 0 = .ok (.aload_n 0, 1) := by decide +kernel
theorem bd_R_init_1 : decode (zcode R_init) 1 = .ok (.invokespecial 1, 3) := by decide +kernel
theorem bd_R_init_4 : decode (zcode R_init) 4 = .ok (.aload_n 0, 1) := by decide +kernel
theorem bd_R_init_5 : decode (zcode R_init) 5 = .ok (.bipush 120, 2) := by decide +kernel
theorem bd_R_init_7 : decode (zcode R_init) 7 = .ok (.newarray .int, 2) := by decide +kernel
theorem bd_R_init_9 : decode (zcode R_init) 9 = .ok (.putfield 9, 3) := by decide +kernel
theorem bd_R_init_12 : decode (zcode R_init) 12 = .ok (.aload_n 0, 1) := by decide +kernel
theorem bd_R_init_13 : decode (zcode R_init) 13 = .ok (.new 13, 3) := by decide +kernel
theorem bd_R_init_16 : decode (zcode R_init) 16 = .ok (.dup, 1) := by decide +kernel
theorem bd_R_init_17 : decode (zcode R_init) 17 = .ok (.invokespecial 15, 3) := by decide +kernel
theorem bd_R_init_20 : decode (zcode R_init) 20 = .ok (.putfield 16, 3) := by decide +kernel
theorem bd_R_init_23 : decode (zcode R_init) 23 = .ok (.return_, 1) := by decide +kernel
set_option maxRecDepth 100000 in
set_option maxHeartbeats 4000000 in
theorem bc_R_init {g : zG} {d h0 q0 : Nat} {ws : va_W} (hid : ∀ q, zad g q = q) (hd : 2 ≤ d) (he : ws[q0]? = some (h0, .inr (7, zdef 7))) : zMB g d 6 494 R_init [.ref h0] ws (fun ws2 => ∃ q1 q2 q3 q4 q5 q6 : Nat, ws2 = bN ws q0 (h0, .inr (7, [.ref q1, .int 0, .int 0, .ref q2])) [(q1, .inl (g.2.2.1 0, 120, .inl (fun _ => 0))), (q2, .inr (6, [.ref q3, .ref q4, .ref q5, .ref q6, .int 0])), (q3, .inl (g.2.2.1 0, 121, .inl (fun _ => 0))), (q4, .inl (g.2.2.1 0, 121, .inl (fun _ => 0))), (q5, .inl (g.2.2.1 0, 121, .inl (fun _ => 0))), (q6, .inl (g.2.2.1 0, 6, .inl (fun _ => 0)))]) := by
  have hq0 : q0 < ws.length := (List.getElem?_eq_some_iff.mp he).1
  refine zMB_of (ls := [some (.ref h0)]) hid (by decide +kernel) rfl rfl (Nat.le_of_ble_eq_true rfl) rfl rfl ?_
  refine bW_0 he ?_
  refine b_aload bd_R_init_0 rfl ?_
  refine b_obj (p0 := 223) (p1 := 128) (p2 := 129) bd_R_init_1 (by decide +kernel) (by omega) (Nat.le_of_ble_eq_true rfl) ?_
  refine b_aload bd_R_init_4 rfl ?_
  refine b_bipush (v := 120) bd_R_init_5 rfl ?_
  refine b_newI (nc := 5) (ns := 374) (n := 120) (N := 120) bd_R_init_7 (by decide) rfl (Nat.le_of_ble_eq_true rfl) (fun q1 => ?_)
  refine bW_app ?_
  refine b_putR (ci := 7) (k0 := 0) bd_R_init_9 (by decide +kernel) (by decide) (by decide) rfl rfl (bN_get hq0) (Nat.le_of_ble_eq_true rfl) ?_
  refine bW_set hq0 ?_
  refine b_aload bd_R_init_12 rfl ?_
  refine b_new (nc := 4) (ns := 369) (ci := 6) (p0 := 224) (p1 := 137) (p2 := 103) bd_R_init_13 (by decide +kernel) (fun q2 => ?_)
  refine bW_app ?_
  refine b_dup bd_R_init_16 ?_
  refine b_callN (nc := 0) (ns := 0) (mc := 4) (ms := 369) (n := 0) (p1 := 139) (p3 := 103) (p4 := 140) bd_R_init_17 (by decide +kernel) (by omega) (bc_P_init hid (by omega) (bN_l (k := 1))) rfl rfl (Nat.le_of_ble_eq_true rfl) ?_
  rintro _ ⟨q3, q4, q5, q6, rfl⟩
  refine bW_in ?_
  refine b_putR (ci := 7) (k0 := 3) bd_R_init_20 (by decide +kernel) (by decide) (by decide) rfl rfl (bN_get hq0) (Nat.le_of_ble_eq_true rfl) ?_
  refine bW_set hq0 ?_
  exact b_stop ⟨bd_R_init_23, rfl, q1, q2, q3, q4, q5, q6, rfl⟩
theorem bd_F_init_0 : decode (zcode F_init) 0 = .ok (.aload_n 0, 1) := by decide +kernel
theorem bd_F_init_1 : decode (zcode F_init) 1 = .ok (.invokespecial 3, 3) := by decide +kernel
theorem bd_F_init_4 : decode (zcode F_init) 4 = .ok (.aload_n 0, 1) := by decide +kernel
theorem bd_F_init_5 : decode (zcode F_init) 5 = .ok (.bipush 6, 2) := by decide +kernel
theorem bd_F_init_7 : decode (zcode F_init) 7 = .ok (.newarray .int, 2) := by decide +kernel
theorem bd_F_init_9 : decode (zcode F_init) 9 = .ok (.putfield 9, 3) := by decide +kernel
theorem bd_F_init_12 : decode (zcode F_init) 12 = .ok (.aload_n 0, 1) := by decide +kernel
theorem bd_F_init_13 : decode (zcode F_init) 13 = .ok (.bipush 6, 2) := by decide +kernel
theorem bd_F_init_15 : decode (zcode F_init) 15 = .ok (.newarray .int, 2) := by decide +kernel
theorem bd_F_init_17 : decode (zcode F_init) 17 = .ok (.putfield 15, 3) := by decide +kernel
theorem bd_F_init_20 : decode (zcode F_init) 20 = .ok (.aload_n 0, 1) := by decide +kernel
theorem bd_F_init_21 : decode (zcode F_init) 21 = .ok (.bipush 12, 2) := by decide +kernel
theorem bd_F_init_23 : decode (zcode F_init) 23 = .ok (.newarray .int, 2) := by decide +kernel
theorem bd_F_init_25 : decode (zcode F_init) 25 = .ok (.putfield 18, 3) := by decide +kernel
theorem bd_F_init_28 : decode (zcode F_init) 28 = .ok (.aload_n 0, 1) := by decide +kernel
theorem bd_F_init_29 : decode (zcode F_init) 29 = .ok (.bipush 12, 2) := by decide +kernel
theorem bd_F_init_31 : decode (zcode F_init) 31 = .ok (.newarray .int, 2) := by decide +kernel
theorem bd_F_init_33 : decode (zcode F_init) 33 = .ok (.putfield 21, 3) := by decide +kernel
theorem bd_F_init_36 : decode (zcode F_init) 36 = .ok (.aload_n 0, 1) := by decide +kernel
theorem bd_F_init_37 : decode (zcode F_init) 37 = .ok (.bipush 12, 2) := by decide +kernel
theorem bd_F_init_39 : decode (zcode F_init) 39 = .ok (.newarray .int, 2) := by decide +kernel
theorem bd_F_init_41 : decode (zcode F_init) 41 = .ok (.putfield 24, 3) := by decide +kernel
theorem bd_F_init_44 : decode (zcode F_init) 44 = .ok (.aload_n 0, 1) := by decide +kernel
theorem bd_F_init_45 : decode (zcode F_init) 45 = .ok (.bipush 12, 2) := by decide +kernel
theorem bd_F_init_47 : decode (zcode F_init) 47 = .ok (.newarray .int, 2) := by decide +kernel
theorem bd_F_init_49 : decode (zcode F_init) 49 = .ok (.putfield 27, 3) := by decide +kernel
theorem bd_F_init_52 : decode (zcode F_init) 52 = .ok (.aload_n 0, 1) := by decide +kernel
theorem bd_F_init_53 : decode (zcode F_init) 53 = .ok (.bipush 12, 2) := by decide +kernel
theorem bd_F_init_55 : decode (zcode F_init) 55 = .ok (.newarray .int, 2) := by decide +kernel
theorem bd_F_init_57 : decode (zcode F_init) 57 = .ok (.putfield 30, 3) := by decide +kernel
theorem bd_F_init_60 : decode (zcode F_init) 60 = .ok (.aload_n 0, 1) := by decide +kernel
theorem bd_F_init_61 : decode (zcode F_init) 61 = .ok (.iconst 1, 1) := by decide +kernel
theorem bd_F_init_62 : decode (zcode F_init) 62 = .ok (.putfield 33, 3) := by decide +kernel
theorem bd_F_init_65 : decode (zcode F_init) 65 = .ok (.aload_n 0, 1) := by decide +kernel
theorem bd_F_init_66 : decode (zcode F_init) 66 = .ok (.new 37, 3) := by decide +kernel
theorem bd_F_init_69 : decode (zcode F_init) 69 = .ok (.dup, 1) := by decide +kernel
theorem bd_F_init_70 : decode (zcode F_init) 70 = .ok (.invokespecial 39, 3) := by decide +kernel
theorem bd_F_init_73 : decode (zcode F_init) 73 = .ok (.putfield 40, 3) := by decide +kernel
theorem bd_F_init_76 : decode (zcode F_init) 76 = .ok (.return_, 1) := by decide +kernel
set_option maxRecDepth 100000 in
set_option maxHeartbeats 4000000 in
theorem bc_F_init {g : zG} {d h0 q0 : Nat} {ws : va_W} (hid : ∀ q, zad g q = q) (hd : 2 ≤ d) (he : ws[q0]? = some (h0, .inr (4, zdef 4))) : zMB g d 12 446 F_init [.ref h0] ws (fun ws2 => ∃ q1 q2 q3 q4 q5 q6 q7 q8 q9 q10 q11 q12 : Nat, ws2 = bN ws q0 (h0, .inr (4, [.ref q1, .ref q2, .ref q3, .ref q4, .ref q5, .ref q6, .ref q7, .int 0, .int 0, .int 1, .ref q8])) [(q1, .inl (g.2.2.1 0, 6, .inl (fun _ => 0))), (q2, .inl (g.2.2.1 0, 6, .inl (fun _ => 0))), (q3, .inl (g.2.2.1 0, 12, .inl (fun _ => 0))), (q4, .inl (g.2.2.1 0, 12, .inl (fun _ => 0))), (q5, .inl (g.2.2.1 0, 12, .inl (fun _ => 0))), (q6, .inl (g.2.2.1 0, 12, .inl (fun _ => 0))), (q7, .inl (g.2.2.1 0, 12, .inl (fun _ => 0))), (q8, .inr (6, [.ref q9, .ref q10, .ref q11, .ref q12, .int 0])), (q9, .inl (g.2.2.1 0, 121, .inl (fun _ => 0))), (q10, .inl (g.2.2.1 0, 121, .inl (fun _ => 0))), (q11, .inl (g.2.2.1 0, 121, .inl (fun _ => 0))), (q12, .inl (g.2.2.1 0, 6, .inl (fun _ => 0)))]) := by
  have hq0 : q0 < ws.length := (List.getElem?_eq_some_iff.mp he).1
  refine zMB_of (ls := [some (.ref h0)]) hid (by decide +kernel) rfl rfl (Nat.le_of_ble_eq_true rfl) rfl rfl ?_
  refine bW_0 he ?_
  refine b_aload bd_F_init_0 rfl ?_
  refine b_obj (p0 := 135) (p1 := 128) (p2 := 129) bd_F_init_1 (by decide +kernel) (by omega) (Nat.le_of_ble_eq_true rfl) ?_
  refine b_aload bd_F_init_4 rfl ?_
  refine b_bipush (v := 6) bd_F_init_5 rfl ?_
  refine b_newI (nc := 11) (ns := 440) (n := 6) (N := 6) bd_F_init_7 (by decide) rfl (Nat.le_of_ble_eq_true rfl) (fun q1 => ?_)
  refine bW_app ?_
  refine b_putR (ci := 4) (k0 := 0) bd_F_init_9 (by decide +kernel) (by decide) (by decide) rfl rfl (bN_get hq0) (Nat.le_of_ble_eq_true rfl) ?_
  refine bW_set hq0 ?_
  refine b_aload bd_F_init_12 rfl ?_
  refine b_bipush (v := 6) bd_F_init_13 rfl ?_
  refine b_newI (nc := 10) (ns := 434) (n := 6) (N := 6) bd_F_init_15 (by decide) rfl (Nat.le_of_ble_eq_true rfl) (fun q2 => ?_)
  refine bW_app ?_
  refine b_putR (ci := 4) (k0 := 1) bd_F_init_17 (by decide +kernel) (by decide) (by decide) rfl rfl (bN_get hq0) (Nat.le_of_ble_eq_true rfl) ?_
  refine bW_set hq0 ?_
  refine b_aload bd_F_init_20 rfl ?_
  refine b_bipush (v := 12) bd_F_init_21 rfl ?_
  refine b_newI (nc := 9) (ns := 422) (n := 12) (N := 12) bd_F_init_23 (by decide) rfl (Nat.le_of_ble_eq_true rfl) (fun q3 => ?_)
  refine bW_app ?_
  refine b_putR (ci := 4) (k0 := 2) bd_F_init_25 (by decide +kernel) (by decide) (by decide) rfl rfl (bN_get hq0) (Nat.le_of_ble_eq_true rfl) ?_
  refine bW_set hq0 ?_
  refine b_aload bd_F_init_28 rfl ?_
  refine b_bipush (v := 12) bd_F_init_29 rfl ?_
  refine b_newI (nc := 8) (ns := 410) (n := 12) (N := 12) bd_F_init_31 (by decide) rfl (Nat.le_of_ble_eq_true rfl) (fun q4 => ?_)
  refine bW_app ?_
  refine b_putR (ci := 4) (k0 := 3) bd_F_init_33 (by decide +kernel) (by decide) (by decide) rfl rfl (bN_get hq0) (Nat.le_of_ble_eq_true rfl) ?_
  refine bW_set hq0 ?_
  refine b_aload bd_F_init_36 rfl ?_
  refine b_bipush (v := 12) bd_F_init_37 rfl ?_
  refine b_newI (nc := 7) (ns := 398) (n := 12) (N := 12) bd_F_init_39 (by decide) rfl (Nat.le_of_ble_eq_true rfl) (fun q5 => ?_)
  refine bW_app ?_
  refine b_putR (ci := 4) (k0 := 4) bd_F_init_41 (by decide +kernel) (by decide) (by decide) rfl rfl (bN_get hq0) (Nat.le_of_ble_eq_true rfl) ?_
  refine bW_set hq0 ?_
  refine b_aload bd_F_init_44 rfl ?_
  refine b_bipush (v := 12) bd_F_init_45 rfl ?_
  refine b_newI (nc := 6) (ns := 386) (n := 12) (N := 12) bd_F_init_47 (by decide) rfl (Nat.le_of_ble_eq_true rfl) (fun q6 => ?_)
  refine bW_app ?_
  refine b_putR (ci := 4) (k0 := 5) bd_F_init_49 (by decide +kernel) (by decide) (by decide) rfl rfl (bN_get hq0) (Nat.le_of_ble_eq_true rfl) ?_
  refine bW_set hq0 ?_
  refine b_aload bd_F_init_52 rfl ?_
  refine b_bipush (v := 12) bd_F_init_53 rfl ?_
  refine b_newI (nc := 5) (ns := 374) (n := 12) (N := 12) bd_F_init_55 (by decide) rfl (Nat.le_of_ble_eq_true rfl) (fun q7 => ?_)
  refine bW_app ?_
  refine b_putR (ci := 4) (k0 := 6) bd_F_init_57 (by decide +kernel) (by decide) (by decide) rfl rfl (bN_get hq0) (Nat.le_of_ble_eq_true rfl) ?_
  refine bW_set hq0 ?_
  refine b_aload bd_F_init_60 rfl ?_
  refine b_iconst (v := 1) bd_F_init_61 rfl ?_
  refine b_putI (ci := 4) (k0 := 9) bd_F_init_62 (by decide +kernel) rfl (by decide) rfl rfl (bN_get hq0) (Nat.le_of_ble_eq_true rfl) ?_
  refine bW_set hq0 ?_
  refine b_aload bd_F_init_65 rfl ?_
  refine b_new (nc := 4) (ns := 369) (ci := 6) (p0 := 136) (p1 := 137) (p2 := 103) bd_F_init_66 (by decide +kernel) (fun q8 => ?_)
  refine bW_app ?_
  refine b_dup bd_F_init_69 ?_
  refine b_callN (nc := 0) (ns := 0) (mc := 4) (ms := 369) (n := 0) (p1 := 139) (p3 := 103) (p4 := 140) bd_F_init_70 (by decide +kernel) (by omega) (bc_P_init hid (by omega) (bN_l (k := 7))) rfl rfl (Nat.le_of_ble_eq_true rfl) ?_
  rintro _ ⟨q9, q10, q11, q12, rfl⟩
  refine bW_in ?_
  refine b_putR (ci := 4) (k0 := 10) bd_F_init_73 (by decide +kernel) (by decide) (by decide) rfl rfl (bN_get hq0) (Nat.le_of_ble_eq_true rfl) ?_
  refine bW_set hq0 ?_
  exact b_stop ⟨bd_F_init_76, rfl, q1, q2, q3, q4, q5, q6, q7, q8, q9, q10, q11, q12, rfl⟩
