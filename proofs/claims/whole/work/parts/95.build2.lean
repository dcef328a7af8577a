/-! building: objects, fields, constructors called -/
def zlkO (o idx p0 p1 p2 : Nat) : Bool := decide (lw_tbl[p0]? = some (.methodLink (zR o) idx objectInit)) && decide (lw_tbl[p1]? = some (.instanceMethod objectInit)) && decide (lw_tbl[p2]? = some (.code objectInit ⟨#[0xb1]⟩ 1 none))
def zlkC (o idx ci p0 p1 p2 : Nat) : Bool := decide (lw_tbl[p0]? = some (.classLink (zR o) idx (zR ci))) && decide (lw_tbl[p1]? = some (.instantiable (zR ci) (zNF ci))) && decide (lw_tbl[p2]? = some (.initialized (zR ci))) && decide (ci < 12)
def zlkI (o idx : Nat) (Y : zY) (n p0 p1 p3 p4 : Nat) : Bool := decide (lw_tbl[p0]? = some (.methodLink (zR o) idx Y.1)) && decide (lw_tbl[p1]? = some (.instanceMethod Y.1)) && decide (lw_tbl[p3]? = some (.initialized Y.1.cls)) && decide (lw_tbl[p4]? = some (.code Y.1 Y.2.1 Y.2.2.1 Y.2.2.2.1)) && decide (Y.1.cls ≠ "java/lang/invoke/MethodHandle") && decide (Y.1.cls ≠ "java/lang/invoke/VarHandle") && decide ((parseMethodDescriptor Y.1.desc).map (fun d => d.parameters.length) = some n) && decide (Y.2.2.1 ≤ 40) && decide (Y.1.name = "<init>") && decide (Y.2.2.2.1 = none)
def zdef (ci : Nat) : List Value := (List.range (zNF ci)).map (fun k => match zfk ci k with
  | 0 => .int 0
  | 1 => .int 0
  | _ => .null)
theorem zdef_ok {ci : Nat} {r : vw_C} (h : vwCl[ci]? = some r) : ∃ ty : Nat → FieldType, (∀ k, k < r.2.2 → parseFieldDescriptor (r.2.1 k).2.2.1 = some (ty k)) ∧ ∀ j, j < r.2.2 → defaultValue (ty j) = vp_V (zdef ci) j := by
  have hl := zvw_lt h
  match ci, hl, h with
  | 0, _, h => cases h; exact ⟨tyX0, tyX0_ok, by decide +kernel⟩
  | 1, _, h => cases h; exact ⟨tyX1, tyX1_ok, by decide +kernel⟩
  | 2, _, h => cases h; exact ⟨tyX2, tyX2_ok, by decide +kernel⟩
  | 3, _, h => cases h; exact ⟨tyX3, tyX3_ok, by decide +kernel⟩
  | 4, _, h => cases h; exact ⟨tyX4, tyX4_ok, by decide +kernel⟩
  | 5, _, h => cases h; exact ⟨tyX5, tyX5_ok, by decide +kernel⟩
  | 6, _, h => cases h; exact ⟨tyX6, tyX6_ok, by decide +kernel⟩
  | 7, _, h => cases h; exact ⟨tyX7, tyX7_ok, by decide +kernel⟩
  | 8, _, h => cases h; exact ⟨tyX8, tyX8_ok, by decide +kernel⟩
  | 9, _, h => cases h; exact ⟨tyX9, tyX9_ok, by decide +kernel⟩
  | 10, _, h => cases h; exact ⟨tyX10, tyX10_ok, by decide +kernel⟩
  | 11, _, h => cases h; exact ⟨tyX11, tyX11_ok, by decide +kernel⟩
def zfkRb (ci k : Nat) : Bool := match vwCl[ci]? with
  | some r => decide ((r.2.1 k).1 = zR ci) && (match zfk ci k with
    | 0 => true
    | 1 => true
    | _ => (match parseFieldDescriptor (r.2.1 k).2.2.1 with
      | some (.object _) => true
      | some (.array _) => true
      | _ => false))
  | none => true
theorem zfkR_all : (List.range 12).all (fun ci => (List.range (zNF ci)).all (fun k => zfkRb ci k)) = true := by decide +kernel
theorem zfkR_ok {ci k : Nat} {r : vw_C} (h : vwCl[ci]? = some r) (hk : k < zNF ci) : (r.2.1 k).1 = zR ci ∧ (zfk ci k ≠ 0 → zfk ci k ≠ 1 → ∃ ty, parseFieldDescriptor (r.2.1 k).2.2.1 = some ty ∧ ((∃ n, ty = .object n) ∨ ∃ t, ty = .array t)) := by
  have h1 := List.all_eq_true.mp (List.all_eq_true.mp zfkR_all ci (List.mem_range.mpr (zvw_lt h))) k (List.mem_range.mpr hk)
  simp only [zfkRb, h, Bool.and_eq_true, decide_eq_true_eq] at h1
  refine ⟨h1.1, fun n0 n1 => ?_⟩
  have h2 := h1.2
  split at h2
  · rename_i e; exact absurd e n0
  · rename_i e; exact absurd e n1
  · split at h2
    · rename_i n e; exact ⟨_, e, Or.inl ⟨n, rfl⟩⟩
    · rename_i n e; exact ⟨_, e, Or.inr ⟨n, rfl⟩⟩
    · cases h2
theorem bNW.warm {s U : State} (hW : s.WarmedH U.vm) (h : bNW s) : bNW U := ⟨fun q hq => va_Nw.warmM hW (h.1 q hq), va_AO.moved hW.alike h.2⟩
theorem bNW.same {u U : State} (hv : U.vm = u.vm) (h : bNW u) : bNW U := ⟨fun q hq => va_Nw.same rfl hv.symm (h.1 q hq), va_AO.moved (by rw [hv]; exact Vm.Alike.refl _) h.2⟩
def zlkNI (o idx : Nat) (Y : zY) (n p1 p3 p4 : Nat) : Bool := decide ((zR o, idx, Y.1) ∈ bnest) && decide (lw_tbl[p1]? = some (.instanceMethod Y.1)) && decide (lw_tbl[p3]? = some (.initialized Y.1.cls)) && decide (lw_tbl[p4]? = some (.code Y.1 Y.2.1 Y.2.2.1 Y.2.2.2.1)) && decide (Y.1.cls ≠ "java/lang/invoke/MethodHandle") && decide (Y.1.cls ≠ "java/lang/invoke/VarHandle") && decide ((parseMethodDescriptor Y.1.desc).map (fun d => d.parameters.length) = some n) && decide (Y.2.2.1 ≤ 40) && decide (Y.1.name = "<init>") && decide (Y.2.2.2.1 = none)
/-- THE CONTRACT of a constructor -/
def zMB (g : zG) (d nc ns : Nat) (Y : zY) (av : List Value) (ws : va_W) (P : va_W → Prop) : Prop :=
  ∀ l : Launch, Met l Y.1 (zwsY Y) { frames := d, cells := nc, slots := ns, locals := 64 * d } (va_Pc av (fun U => va_P (zDD g) vwCl ws U.heap ∧ va_K (zDD g) vwCl (ztys g) U ∧ va_D (zA g) ws ∧ zbase g ≤ U.heap.size ∧ bNW U)) (fun _ st o t => ∃ ws' : va_W, o = .returned none ∧ P ws' ∧ va_P (zDD g) vwCl ws' t.heap ∧ va_D (zA g) ws' ∧ va_F (zA g) st t) nc ns (zA g)
section BW2
variable {g : zG} {Y Y' : zY} {d nc ns pc idx : Nat} {ls : List (Option Value)} {st : List Value} {ws : va_W} {Q : bQ}
theorem b_obj {a0 p0 p1 p2 : Nat} (hd : decode (zcode Y) pc = .ok (.invokespecial idx, 3)) (hl : zlkO (zown Y) idx p0 p1 p2 = true) (hd1 : 1 ≤ d) (h8 : (st.map fun v => v.category).sum ≤ 8) (k : bW g Y d nc ns (pc + 3) ls st ws Q) : bW g Y d nc ns pc ls (.ref a0 :: st) ws Q := by
  intro p l e R s m args below meth c H locs cells slots C1 S1 Qf hC h1 h2 hD hK a ha
  simp only [zlkO, Bool.and_eq_true, decide_eq_true_eq] at hl
  obtain ⟨⟨w0, w1⟩, w2⟩ := hl
  have hX := hC
  obtain ⟨hx, hb, hml, hrt, hlk, hown, hts, hKK, hid, hbs, r1, r2, r3, r4, hin⟩ := hX
  refine W.objInit hx hb hown (hts _ (zt_in w0 rfl)) (hts _ (zt_in w1 rfl)) (hts _ (zt_in w2 rfl)) rfl (by rw [hml]; exact ha.1.1) rfl hd (by omega) (by show 2 * 0 + _ + 12 ≤ _; omega) ?_
  exact W.eq (g2 := F0 m (pc + 3) a st) rfl (k p l e R s m args below meth c H locs cells slots C1 S1 Qf hC h1 h2 hD hK a ha)
theorem b_new {ci p0 p1 p2 : Nat} (hd : decode (zcode Y) pc = .ok (.new idx, 3)) (hl : zlkC (zown Y) idx ci p0 p1 p2 = true)
    (k : ∀ q : Nat, bW g Y d nc ns (pc + 3) ls (.ref q :: st) (ws ++ [(q, .inr (ci, zdef ci))]) Q) : bW g Y d (nc + 1) (ns + zNF ci) pc ls st ws Q := by
  intro p l e R s m args below meth c H locs cells slots C1 S1 Qf hC h1 h2 hD hK a ha
  simp only [zlkC, Bool.and_eq_true, decide_eq_true_eq] at hl
  obtain ⟨⟨⟨w0, w1⟩, w2⟩, hci⟩ := hl
  have hX := hC
  obtain ⟨hx, hb, hml, hrt, hlk, hown, hts, hKK, hid, hbs, r1, r2, r3, r4, hin⟩ := hX
  obtain ⟨r, hr⟩ : ∃ r, vwCl[ci]? = some r := ⟨_, List.getElem?_eq_getElem hci⟩
  obtain ⟨ty, hty, hdf⟩ := zdef_ok hr
  have hN := zvw_N hr
  have hC0 : r.1 = zR ci := zvw_R hr
  obtain ⟨rC, rT, rN⟩ := r
  simp only at hN hC0
  subst hN
  subst hC0
  refine va_new hx hb hts (zlay_in hr) ty hty hown (hts _ (zt_in w0 rfl)) (hts _ (zt_in w1 rfl)) (hts _ (zt_in w2 rfl)) hKK hD.1 hD.2.1 hD.2.2 (fun q hq => Nat.le_trans hbs hq) hr hdf (by omega) (by show slots + zNF ci ≤ R.slots; omega) hd (fun q H1 hP1 hD1 hS1 => ?_)
  exact k q p l e R s m args below meth c H1 locs (cells + 1) (slots + zNF ci) C1 S1 Qf hC (by omega) (by omega) ⟨hP1, hD1, hS1⟩ hK a ha
theorem b_put {ci k0 q0 a0 : Nat} {fs : List Value} {v : Value} {ty : FieldType} (hd : decode (zcode Y) pc = .ok (.putfield idx, 3)) (hF : zFT.any (fun t => t.1 == zown Y && t.2.1 == idx && t.2.2.1 == ci && t.2.2.2.1 == k0) = true)
    (hty : ∀ r, vwCl[ci]? = some r → parseFieldDescriptor (r.2.1 k0).2.2.1 = some ty) (hn : narrow ty v = v) (hf : fits ty v = true) (hci : zown Y = ci) (hin : Y.1.name = "<init>") (he : ws[q0]? = some (a0, .inr (ci, fs))) (hl : k0 < fs.length)
    (k : bW g Y d nc ns (pc + 3) ls st (ws.set q0 (a0, .inr (ci, fs.set k0 v))) Q) : bW g Y d nc ns pc ls (v :: .ref a0 :: st) ws Q := by
  intro p l e R s m args below meth c H locs cells slots C1 S1 Qf hC h1 h2 hD hK a ha
  have hX := hC
  obtain ⟨hx, hb, hml, hrt, hlk, hown, hts, hKK, hid, hbs, r1, r2, r3, r4, hin2⟩ := hX
  obtain ⟨r, hr, hlt, hw⟩ := zfl_ok hF
  obtain ⟨⟨ty0, hty0⟩, hnm⟩ := zvw_ty hr
  have hdecl : (r.2.1 k0).1 = zR (zown Y) := by rw [hci]; exact (zfkR_ok hr (by rw [← zvw_N hr]; exact hlt)).1
  obtain ⟨rC, rT, rN⟩ := r
  cases hfin : (rT k0).2.2.2 with
  | true => exact va_putF hx hb hts (zlay_in hr) ty0 hty0 hnm hown hKK hD.1 hD.2.1 hD.2.2 q0 he hr k0 hlt (hts _ hw) (fun _ z => z) hfin (hin2.1 hin) hdecl (hty _ hr) hn hf hl hd (fun H1 locs1 hP1 hD1 hS1 => k p l e R s m args below meth c H1 locs1 cells slots C1 S1 Qf hC h1 h2 ⟨hP1, hD1, hS1⟩ hK a ha)
  | false => exact va_put hx hb hts (zlay_in hr) ty0 hty0 hnm hown hKK hD.1 hD.2.1 hD.2.2 q0 he hr k0 hlt (hts _ hw) (fun _ z => z) hfin (hty _ hr) hn hf hl hd (fun H1 locs1 hP1 hD1 hS1 => k p l e R s m args below meth c H1 locs1 cells slots C1 S1 Qf hC h1 h2 ⟨hP1, hD1, hS1⟩ hK a ha)
/-- a reference into a field -/
theorem b_putR {ci k0 q0 a0 q : Nat} {fs : List Value} (hd : decode (zcode Y) pc = .ok (.putfield idx, 3)) (hF : zFT.any (fun t => t.1 == zown Y && t.2.1 == idx && t.2.2.1 == ci && t.2.2.2.1 == k0) = true) (hk0 : zfk ci k0 ≠ 0 ∧ zfk ci k0 ≠ 1) (hkN : k0 < zNF ci)
    (hci : zown Y = ci) (hin : Y.1.name = "<init>") (he : ws[q0]? = some (a0, .inr (ci, fs))) (hl : k0 < fs.length)
    (k : bW g Y d nc ns (pc + 3) ls st (ws.set q0 (a0, .inr (ci, fs.set k0 (.ref q)))) Q) : bW g Y d nc ns pc ls (.ref q :: .ref a0 :: st) ws Q := by
  obtain ⟨r, hr, hlt, hw⟩ := zfl_ok hF
  obtain ⟨ty, h1, h2⟩ := (zfkR_ok hr hkN).2 hk0.1 hk0.2
  refine b_put hd hF (ty := ty) (fun r' hr' => ?_) ?_ ?_ hci hin he hl k
  · have := hr.symm.trans hr'
    cases this
    exact h1
  · rcases h2 with ⟨n, rfl⟩ | ⟨t, rfl⟩ <;> rfl
  · rcases h2 with ⟨n, rfl⟩ | ⟨t, rfl⟩ <;> rfl
/-- an int into a field -/
theorem b_putI {ci k0 q0 a0 : Nat} {x : Int32} {fs : List Value} (hd : decode (zcode Y) pc = .ok (.putfield idx, 3)) (hF : zFT.any (fun t => t.1 == zown Y && t.2.1 == idx && t.2.2.1 == ci && t.2.2.2.1 == k0) = true) (hk0 : zfk ci k0 = 0) (hkN : k0 < zNF ci)
    (hci : zown Y = ci) (hin : Y.1.name = "<init>") (he : ws[q0]? = some (a0, .inr (ci, fs))) (hl : k0 < fs.length)
    (k : bW g Y d nc ns (pc + 3) ls st (ws.set q0 (a0, .inr (ci, fs.set k0 (.int x)))) Q) : bW g Y d nc ns pc ls (.int x :: .ref a0 :: st) ws Q :=
  b_put hd hF (ty := .int) (fun r' hr' => ((zfk_ok hr' hkN).1 hk0).1) (vp_nar_int x) rfl hci hin he hl k
theorem b_get {ci k0 q0 a0 : Nat} {fs : List Value} {v : Value} (hd : decode (zcode Y) pc = .ok (.getfield idx, 3)) (hF : zFT.any (fun t => t.1 == zown Y && t.2.1 == idx && t.2.2.1 == ci && t.2.2.2.1 == k0) = true) (he : ws[q0]? = some (a0, .inr (ci, fs))) (hv : fs[k0]? = some v)
    (k : bW g Y d nc ns (pc + 3) ls (v :: st) ws Q) : bW g Y d nc ns pc ls (.ref a0 :: st) ws Q := by
  intro p l e R s m args below meth c H locs cells slots C1 S1 Qf hC h1 h2 hD hK a ha
  have hX := hC
  obtain ⟨hx, hb, hml, hrt, hlk, hown, hts, hKK, hid, hbs, r1, r2, r3, r4, hin2⟩ := hX
  obtain ⟨r, hr, hlt, hw⟩ := zfl_ok hF
  obtain ⟨rC, rT, rN⟩ := r
  exact va_get hx hb hts (zlay_in hr) hown hKK hD.1 q0 he hr k0 hlt (hts _ hw) (fun _ z => z) hv hd (k p l e R s m args below meth c H locs cells slots C1 S1 Qf hC h1 h2 hD hK a ha)
/-- a constructor called -/
theorem b_call {a0 n mc ms p0 p1 p3 p4 : Nat} {av st0 : List Value} {P : va_W → Prop} (hd : decode (zcode Y) pc = .ok (.invokespecial idx, 3)) (hl : zlkI (zown Y) idx Y' n p0 p1 p3 p4 = true) (hd1 : 1 ≤ d) (hM : zMB g (d - 1) mc ms Y' (.ref a0 :: av) ws P) (hs : st0 = av.reverse ++ .ref a0 :: st) (hn : av.length = n) (h8 : (st.map fun v => v.category).sum ≤ 8)
    (k : ∀ ws', P ws' → bW g Y d nc ns (pc + 3) ls st ws' Q) : bW g Y d (nc + mc) (ns + ms) pc ls st0 ws Q := by
  intro p l e R s m args below meth c H locs cells slots C1 S1 Qf hC h1 h2 hD hK a ha
  simp only [zlkI, Bool.and_eq_true, decide_eq_true_eq] at hl
  obtain ⟨⟨⟨⟨⟨⟨⟨⟨⟨w0, w1⟩, w3⟩, w4⟩, y1⟩, y2⟩, y3⟩, y4⟩, y5⟩, y6⟩ := hl
  have hX := hC
  obtain ⟨hx, hb, hml, hrt, hlk, hown, hts, hKK, hid, hbs, r1, r2, r3, r4, hin2⟩ := hX
  have hcode := zt_in w4 rfl
  have cb : CallB R s args (zR (zown Y)) idx Y'.1 Y'.2.1 Y'.2.2.1 none (zwsY Y') { frames := d - 1, cells := mc, slots := ms, locals := 64 * (d - 1) } mc ms n :=
    callB_of n hts (zgood hcode) (by rw [← y6]; rfl) rfl rfl (hts _ (zt_in w3 rfl)) (hts _ (zt_in w0 rfl)) ⟨y1, y2, y3⟩ ⟨by show d - 1 + 1 ≤ _; omega, by show 8 + (Y'.2.2.1 + 11) + 64 * (d - 1) ≤ _; omega⟩
  have hp : PreS s H (va_Pc (.ref a0 :: av) (fun U => va_P (zDD g) vwCl ws U.heap ∧ va_K (zDD g) vwCl (ztys g) U ∧ va_D (zA g) ws ∧ zbase g ≤ U.heap.size ∧ bNW U)) (.ref a0 :: av) := by
    refine ⟨fun a U f mk q => ?_, fun U hU hW => ?_⟩
    · obtain ⟨e0, e1, e2, e3, e4, e5⟩ := q
      exact ⟨e0, e1, va_K.moved (u := U) (U := U.calling f mk a) (Vm.Alike.refl _) e2, e3, e4, bNW.same (u := U) (U := U.calling f mk a) rfl e5⟩
    · refine ⟨rfl, by rw [hU]; exact hD.1, va_K.moved hW.alike hKK, hD.2.1, ?_, bNW.warm hW hin2.2⟩
      rw [hU]
      exact Nat.le_trans hbs hD.2.2.1
  have hr := va_runI (nL := zmaxL Y) (meth := meth) (cells := cells) (slots := slots) (locs := locs) (p := p) (e := e) (below := below) (g := F0 m pc a st0) (As := av) (rest := st) ⟨hx, hb, hml, hown, hts⟩ (hM l) ⟨cb, y5, hts _ (zt_in w1 rfl)⟩ hp rfl hn ha.1.1 (by show st0 = _; exact hs) (by show 2 * 0 + _ ≤ 8; omega) hd ⟨by omega, by omega⟩
  intro T hT X
  obtain ⟨v, st₀, t, T', L, h0, X', hL, e1, e2, ⟨ws', hv, hP, hP1, hD1, hz, hk⟩, hgo⟩ := hr T hT X
  cases hv
  rw [h0] at hz hk
  have hS := hD.2.2
  have hD' : bDy g s T'.heap (locs ++ L) ws' := by
    refine ⟨by rw [e1]; exact hP1, hD1, Nat.le_trans hS.1 (by rw [e1]; exact hz), fun q h1 h2 => ?_, fun q hq => ?_⟩
    · rw [e1, hk q (Nat.lt_of_lt_of_le h1 hS.1) h2]
      exact hS.2.1 q h1 h2
    · rcases List.mem_append.mp hq with h | h
      · exact hS.2.2 q h
      · exact hL q h
  obtain ⟨t2, a1, b1⟩ := k ws' hP p l e R s m args below meth c T'.heap (locs ++ L) (cells + mc) (slots + ms) C1 S1 Qf hC (by omega) (by omega) hD' hK a ha T' rfl X'
  exact ⟨t2, hgo t2 a1, b1⟩
/-- a nest mate's constructor called -/
theorem b_callN {a0 n mc ms p1 p3 p4 : Nat} {av st0 : List Value} {P : va_W → Prop} (hd : decode (zcode Y) pc = .ok (.invokespecial idx, 3)) (hl : zlkNI (zown Y) idx Y' n p1 p3 p4 = true) (hd1 : 1 ≤ d) (hM : zMB g (d - 1) mc ms Y' (.ref a0 :: av) ws P) (hs : st0 = av.reverse ++ .ref a0 :: st) (hn : av.length = n) (h8 : (st.map fun v => v.category).sum ≤ 8)
    (k : ∀ ws', P ws' → bW g Y d nc ns (pc + 3) ls st ws' Q) : bW g Y d (nc + mc) (ns + ms) pc ls st0 ws Q := by
  intro p l e R s m args below meth c H locs cells slots C1 S1 Qf hC h1 h2 hD hK a ha
  simp only [zlkNI, Bool.and_eq_true, decide_eq_true_eq] at hl
  obtain ⟨⟨⟨⟨⟨⟨⟨⟨⟨w0, w1⟩, w3⟩, w4⟩, y1⟩, y2⟩, y3⟩, y4⟩, y5⟩, y6⟩ := hl
  have hX := hC
  obtain ⟨hx, hb, hml, hrt, hlk, hown, hts, hKK, hid, hbs, r1, r2, r3, r4, hin2⟩ := hX
  have hcode := zt_in w4 rfl
  have cb : va_CN R s args (zR (zown Y)) idx Y'.1 "CastWithVows" Y'.2.1 Y'.2.2.1 none (zwsY Y') { frames := d - 1, cells := mc, slots := ms, locals := 64 * (d - 1) } mc ms n :=
    va_cnB n hts (zgood hcode) (by rw [← y6]; rfl) rfl rfl (hin2.2.1 _ w0) (hts _ (zt_in w3 rfl)) ⟨y1, y2, y3⟩ ⟨by show d - 1 + 1 ≤ _; omega, by show 8 + (Y'.2.2.1 + 11) + 64 * (d - 1) ≤ _; omega⟩
  have hp : PreS s H (va_Pc (.ref a0 :: av) (fun U => va_P (zDD g) vwCl ws U.heap ∧ va_K (zDD g) vwCl (ztys g) U ∧ va_D (zA g) ws ∧ zbase g ≤ U.heap.size ∧ bNW U)) (.ref a0 :: av) := by
    refine ⟨fun a U f mk q => ?_, fun U hU hW => ?_⟩
    · obtain ⟨e0, e1, e2, e3, e4, e5⟩ := q
      exact ⟨e0, e1, va_K.moved (u := U) (U := U.calling f mk a) (Vm.Alike.refl _) e2, e3, e4, bNW.same (u := U) (U := U.calling f mk a) rfl e5⟩
    · refine ⟨rfl, by rw [hU]; exact hD.1, va_K.moved hW.alike hKK, hD.2.1, ?_, bNW.warm hW hin2.2⟩
      rw [hU]
      exact Nat.le_trans hbs hD.2.2.1
  have hr := va_runIN (nL := zmaxL Y) (meth := meth) (cells := cells) (slots := slots) (locs := locs) (p := p) (e := e) (below := below) (g := F0 m pc a st0) (As := av) (rest := st) ⟨hx, hb, hml, hown, hts⟩ (hM l) ⟨cb, y5, hts _ (zt_in w1 rfl)⟩ hp rfl hn ha.1.1 (by show st0 = _; exact hs) (by show 2 * 0 + _ ≤ 8; omega) hd ⟨by omega, by omega⟩
  intro T hT X
  obtain ⟨v, st₀, t, T', L, h0, X', hL, e1, e2, ⟨ws', hv, hP, hP1, hD1, hz, hk⟩, hgo⟩ := hr T hT X
  cases hv
  rw [h0] at hz hk
  have hS := hD.2.2
  have hD' : bDy g s T'.heap (locs ++ L) ws' := by
    refine ⟨by rw [e1]; exact hP1, hD1, Nat.le_trans hS.1 (by rw [e1]; exact hz), fun q h1 h2 => ?_, fun q hq => ?_⟩
    · rw [e1, hk q (Nat.lt_of_lt_of_le h1 hS.1) h2]
      exact hS.2.1 q h1 h2
    · rcases List.mem_append.mp hq with h | h
      · exact hS.2.2 q h
      · exact hL q h
  obtain ⟨t2, a1, b1⟩ := k ws' hP p l e R s m args below meth c T'.heap (locs ++ L) (cells + mc) (slots + ms) C1 S1 Qf hC (by omega) (by omega) hD' hK a ha T' rfl X'
  exact ⟨t2, hgo t2 a1, b1⟩
/-- a constructor's contract out of its walk -/
theorem zMB_of {av : List Value} {P : va_W → Prop} (hid : ∀ q, zad g q = q) (hy : plainName Y.1.cls = true) (hc : Y.1.cls = zR (zown Y)) (hnd : av.all znod = true) (hlen : (zent av).length ≤ zmaxL Y) (hls : zentN (zmaxL Y) av = ls) (hret : zretT Y = none)
    (h : bW g Y d nc ns 0 ls [] ws (fun pc' _ st' ws' => decode (zcode Y) pc' = .ok (.return_, 1) ∧ st' = [] ∧ P ws')) : zMB g d nc ns Y av ws P := by
  have hav : av.map (ztr g) = av := by
    have : ∀ v : Value, ztr g v = v := fun v => by cases v <;> first | rfl | (show Value.ref (zad g _) = _; rw [hid])
    rw [show ztr g = id from funext this, List.map_id]
  intro l
  refine Met.ofW (cc := zcode Y) (maxL := zmaxL Y) (ret := zretT Y) (ws' := ztbl) hy rfl ?_
  intro p e s m args below meth c s₁ B hml hv
  obtain ⟨rfl, hP, hKK, hD, hbs, hnw⟩ := hv
  have hts : ∀ w ∈ ztbl, w.before av.toArray s = true := fun w hw => atoms_spec (ws := zwsY Y) B.pre w (List.mem_cons_of_mem _ hw)
  have hown : s.vm.findClass (zR (zown Y)) = some m.cls := by rw [← hc]; exact findClass_of_methodNamed B.named
  have hlk := B.notSynchronized
  have hC : bC g Y d p (headSpec (zwsY Y) { frames := d, cells := nc, slots := ns, locals := 64 * d }).room s m av.toArray meth c nc ns :=
    ⟨B.exec, B.bytes, hml, B.returns, hlk, hown, hts, hKK, hid, hbs, Nat.le_refl _, Nat.le_refl _, Nat.le_refl _, Nat.le_refl _, fun hn => (name_of_methodNamed B.named B.method).1.trans hn, hnw⟩
  have hent := lv_entry (av.map (ztr g)) (n := zmaxL Y) (by rw [zent_len av hnd]; exact hlen)
  rw [hav] at hent
  rw [lg_entry_eq]
  generalize (lg_sl av ++ List.replicate (zmaxL Y - (lg_sl av).length) Slot.unset).toArray = a at hent ⊢
  have ha : zL g (zmaxL Y) ls a := by
    refine ⟨⟨hent.1, hent.2.1, fun q hq => hent.2.2 q ?_⟩, ?_⟩
    · obtain ⟨j, w⟩ := q
      rw [← hls] at hq
      have := zent_mem _ (fun i => zas_none _ i) av 0 hnd hq
      rw [hav] at this
      exact this
    · rw [← hls]
      unfold zentN
      rw [List.length_append, List.length_replicate]
      omega
  refine h p l e _ s m _ below meth c s.heap [] 0 0 nc ns _ hC (by omega) (by omega) ⟨hP, hD, va_S.rf⟩ ?_ a ha
  intro pc' ls' st' ws' H' locs' a' hQ hD' ha'
  obtain ⟨hdr, rfl, hPw⟩ := hQ
  exact W.vret B.exec B.bytes (B.returns.trans hret) (fun t ht _ => ⟨ws', rfl, hPw, by rw [ht]; exact hD'.1, hD'.2.1, hD'.2.2.F ht⟩) hD'.2.2.2.2 hdr hlk
end BW2
