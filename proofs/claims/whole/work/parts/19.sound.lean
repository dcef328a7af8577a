theorem zrow_ro {g : zG} {c n : Nat} {f : Nat → Int32} {U : State} {H : Heap} (h : zRO g U H) (hr : zrow g c = some (n, f)) : zro g c n f U H := by
  unfold zrow at hr
  split at hr
  · cases hr; exact h.1
  · cases hr; exact h.2.1
  · cases hr; exact h.2.2.1
  · cases hr
theorem zc1_cat {g : zG} {v : Value} (h : zc1 v = true) : (ztr g v).category = 1 := by cases v <;> simp_all [zc1, ztr, Value.category]
section ZS
variable {g : zG} {Y : zY} {d pc : Nat} {ls : List (Option Value)} {st : List Value} {μ : zMem} {Q : Option Value → zMem → Prop}
theorem zs_getf {i ci k c : Nat} {v : Value} (hd : decode (zcode Y) pc = .ok (.getfield i, 3)) (hk : zFT.any (fun t => t.1 == zown Y && t.2.1 == i && t.2.2.1 == ci && t.2.2.2.1 == k) = true) (hc : zkd c = .inl ci) (hv : ztr g v = zfv g μ c ci k)
    (kk : zW g Y d (pc + 3) ls (v :: st) μ Q) : zW g Y d pc ls (.ref c :: st) μ Q := by
  intro p l e R s m args below meth cd H locs cells slots Qf hC hD hK a ha
  obtain ⟨r, hr, hlt, hw⟩ := zfl_ok hk
  have hX := hC
  obtain ⟨hx, hb, hml, hrt, hlk, hown, hts, hKK, hRO, hNW, hG, hbs, -⟩ := hX
  have hN : k < zNF ci := by rw [← zvw_N hr]; exact hlt
  refine va_get hx hb hts (zlay_in hr) hown hKK hD.1 c (zws_obj (zkd_lt hc (zvw_lt hr)) hc) hr k hlt (hts _ hw) (fun _ z => z) (v := zfv g μ c ci k) ?_ hd ?_
  · rw [List.getElem?_map, List.getElem?_range hN]
    rfl
  · have := kk p l e R s m args below meth cd H locs cells slots Qf hC hD hK a ha
    rw [List.map_cons, hv] at this
    exact this
theorem zs_putf {i ci k c : Nat} {v : Int32} (hd : decode (zcode Y) pc = .ok (.putfield i, 3)) (hk : zFT.any (fun t => t.1 == zown Y && t.2.1 == i && t.2.2.1 == ci && t.2.2.2.1 == k) = true) (hc : zkd c = .inl ci) (hf : zfk ci k = 0 ∨ (zfk ci k = 1 ∧ (v = 0 ∨ v = 1)))
    (kk : zW g Y d (pc + 3) ls st (zpI μ c k v) Q) : zW g Y d pc ls (.int v :: .ref c :: st) μ Q := by
  intro p l e R s m args below meth cd H locs cells slots Qf hC hD hK a ha
  obtain ⟨r, hr, hlt, hw⟩ := zfl_ok hk
  have hX := hC
  obtain ⟨hx, hb, hml, hrt, hlk, hown, hts, hKK, hRO, hNW, hG, hbs, -⟩ := hX
  have hN : k < zNF ci := by rw [← zvw_N hr]; exact hlt
  obtain ⟨⟨ty0, hty⟩, hnm⟩ := zvw_ty hr
  obtain ⟨hk0, hk1, -⟩ := zfk_ok hr hN
  have hcN := zkd_lt hc (zvw_lt hr)
  have key : ∃ ty, parseFieldDescriptor (r.2.1 k).2.2.1 = some ty ∧ (r.2.1 k).2.2.2 = false ∧ narrow ty (.int v) = .int v ∧ fits ty (.int v) = true := by
    rcases hf with h | ⟨h, h2⟩
    · exact ⟨.int, (hk0 h).1, (hk0 h).2, vp_nar_int v, rfl⟩
    · exact ⟨.boolean, (hk1 h).1, (hk1 h).2, (znar_b h2).1, (znar_b h2).2.1⟩
  obtain ⟨ty, t1, t2, t3, t4⟩ := key
  refine va_put hx hb hts (zlay_in hr) ty0 hty hnm hown hKK hD.1 (zws_D hG) hD.2 c (zws_obj hcN hc) hr k hlt (hts _ hw) (fun _ z => z) t2 t1 (v := .int v) t3 t4 (by rw [List.length_map, List.length_range]; exact hN) hd (fun H1 locs1 hP1 _ hS1 => ?_)
  rw [zws_put hcN hc (hf.imp id (fun z => z.1)) hN] at hP1
  exact kk p l e R s m args below meth cd H1 locs1 cells slots Qf hC ⟨hP1, hS1⟩ hK a ha
theorem zs_putr {i ci k c q j : Nat} (hd : decode (zcode Y) pc = .ok (.putfield i, 3)) (hk : zFT.any (fun t => t.1 == zown Y && t.2.1 == i && t.2.2.1 == ci && t.2.2.2.1 == k) = true) (hc : zkd c = .inl ci) (hf : zfk ci k = 3) (hj : zrf c k = .inr j)
    (kk : zW g Y d (pc + 3) ls st (zpR μ j q) Q) : zW g Y d pc ls (.ref q :: .ref c :: st) μ Q := by
  intro p l e R s m args below meth cd H locs cells slots Qf hC hD hK a ha
  obtain ⟨r, hr, hlt, hw⟩ := zfl_ok hk
  have hX := hC
  obtain ⟨hx, hb, hml, hrt, hlk, hown, hts, hKK, hRO, hNW, hG, hbs, -⟩ := hX
  have hN : k < zNF ci := by rw [← zvw_N hr]; exact hlt
  obtain ⟨⟨ty0, hty⟩, hnm⟩ := zvw_ty hr
  obtain ⟨-, -, hk3⟩ := zfk_ok hr hN
  have hcN := zkd_lt hc (zvw_lt hr)
  refine va_put hx hb hts (zlay_in hr) ty0 hty hnm hown hKK hD.1 (zws_D hG) hD.2 c (zws_obj hcN hc) hr k hlt (hts _ hw) (fun _ z => z) (hk3 hf).2 (hk3 hf).1 (v := .ref (zad g q)) rfl rfl (by rw [List.length_map, List.length_range]; exact hN) hd (fun H1 locs1 hP1 _ hS1 => ?_)
  rw [zws_putR hcN hc hf hj hN (zone_of hc hN hf hj)] at hP1
  exact kk p l e R s m args below meth cd H1 locs1 cells slots Qf hC ⟨hP1, hS1⟩ hK a ha
theorem zs_ald {c n : Nat} {i : Int32} {f : Nat → Int32} (hd : decode (zcode Y) pc = .ok (.iaload, 1)) (hc : (zkd c = .inr (0, n) ∧ f = μ.1 c) ∨ zrow g c = some (n, f)) (hi : vp_in i n)
    (kk : zW g Y d (pc + 1) ls (.int (f i.toNatClampNeg) :: st) μ Q) : zW g Y d pc ls (.int i :: .ref c :: st) μ Q := by
  intro p l e R s m args below meth cd H locs cells slots Qf hC hD hK a ha
  have hX := hC
  obtain ⟨hx, hb, hml, hrt, hlk, hown, hts, hKK, hRO, hNW, hG, hbs, -⟩ := hX
  have kk := kk p l e R s m args below meth cd H locs cells slots Qf hC hD hK a ha
  rcases hc with ⟨hc, rfl⟩ | hc
  · exact va_iald hx hb hKK hD.1 c 0 (zws_arr (zkd_ltA hc) hc) rfl hi hd kk
  · obtain ⟨q1, q2, q3⟩ := zrow_ro hRO hc
    exact va_ti hx hb q1 hD.2 hi rfl hd kk
theorem zs_aldL {c n : Nat} {i : Int32} (hd : decode (zcode Y) pc = .ok (.laload, 1)) (hc : zkd c = .inr (1, n)) (hi : vp_in i n)
    (kk : zW g Y d (pc + 1) ls (.long (μ.2.1 c i.toNatClampNeg) :: st) μ Q) : zW g Y d pc ls (.int i :: .ref c :: st) μ Q := by
  intro p l e R s m args below meth cd H locs cells slots Qf hC hD hK a ha
  have hX := hC
  obtain ⟨hx, hb, hml, hrt, hlk, hown, hts, hKK, hRO, hNW, hG, hbs, -⟩ := hX
  exact va_lald hx hb hKK hD.1 c 1 (zws_arr (zkd_ltA hc) hc) rfl hi hd (kk p l e R s m args below meth cd H locs cells slots Qf hC hD hK a ha)
theorem zs_aldZ {c n : Nat} {i : Int32} (hd : decode (zcode Y) pc = .ok (.baload, 1)) (hc : zkd c = .inr (2, n)) (hi : vp_in i n)
    (kk : zW g Y d (pc + 1) ls (.int (μ.1 c i.toNatClampNeg) :: st) μ Q) : zW g Y d pc ls (.int i :: .ref c :: st) μ Q := by
  intro p l e R s m args below meth cd H locs cells slots Qf hC hD hK a ha
  have hX := hC
  obtain ⟨hx, hb, hml, hrt, hlk, hown, hts, hKK, hRO, hNW, hG, hbs, -⟩ := hX
  exact va_zald hx hb hKK hD.1 c 2 (zws_arr (zkd_ltA hc) hc) rfl hi hd (kk p l e R s m args below meth cd H locs cells slots Qf hC hD hK a ha)
theorem zs_aldA {c n : Nat} {i : Int32} (hd : decode (zcode Y) pc = .ok (.aaload, 1)) (hc : zkd c = .inr (3, n)) (hi : vp_in i n)
    (kk : zW g Y d (pc + 1) ls (.ref (13 + i.toNatClampNeg) :: st) μ Q) : zW g Y d pc ls (.int i :: .ref c :: st) μ Q := by
  intro p l e R s m args below meth cd H locs cells slots Qf hC hD hK a ha
  have hX := hC
  obtain ⟨hx, hb, hml, hrt, hlk, hown, hts, hKK, hRO, hNW, hG, hbs, -⟩ := hX
  exact va_aldq hx hb hKK hD.1 c 3 (zws_arr (zkd_ltA hc) hc) rfl hi hd (kk p l e R s m args below meth cd H locs cells slots Qf hC hD hK a ha)
theorem zs_ast {c n : Nat} {i v : Int32} (hd : decode (zcode Y) pc = .ok (.iastore, 1)) (hc : zkd c = .inr (0, n)) (hi : vp_in i n)
    (kk : zW g Y d (pc + 1) ls st (zpI μ c i.toNatClampNeg v) Q) : zW g Y d pc ls (.int v :: .int i :: .ref c :: st) μ Q := by
  intro p l e R s m args below meth cd H locs cells slots Qf hC hD hK a ha
  have hX := hC
  obtain ⟨hx, hb, hml, hrt, hlk, hown, hts, hKK, hRO, hNW, hG, hbs, -⟩ := hX
  refine va_iast hx hb hKK hD.1 (zws_D hG) hD.2 c 0 (zws_arr (zkd_ltA hc) hc) rfl hi hd (fun H1 locs1 hP1 _ hS1 => ?_)
  rw [zws_arrI (zkd_ltA hc) hc (Or.inl rfl)] at hP1
  exact kk p l e R s m args below meth cd H1 locs1 cells slots Qf hC ⟨hP1, hS1⟩ hK a ha
theorem zs_astZ {c n : Nat} {i v : Int32} (hd : decode (zcode Y) pc = .ok (.bastore, 1)) (hc : zkd c = .inr (2, n)) (hi : vp_in i n) (hv : v = 0 ∨ v = 1)
    (kk : zW g Y d (pc + 1) ls st (zpI μ c i.toNatClampNeg v) Q) : zW g Y d pc ls (.int v :: .int i :: .ref c :: st) μ Q := by
  intro p l e R s m args below meth cd H locs cells slots Qf hC hD hK a ha
  have hX := hC
  obtain ⟨hx, hb, hml, hrt, hlk, hown, hts, hKK, hRO, hNW, hG, hbs, -⟩ := hX
  refine va_zast hx hb hKK hD.1 (zws_D hG) hD.2 c 2 (zws_arr (zkd_ltA hc) hc) rfl hi hd (fun H1 locs1 hP1 _ hS1 => ?_)
  rw [(znar_b hv).2.2, zws_arrI (zkd_ltA hc) hc (Or.inr rfl)] at hP1
  exact kk p l e R s m args below meth cd H1 locs1 cells slots Qf hC ⟨hP1, hS1⟩ hK a ha
theorem zs_astL {c n : Nat} {i : Int32} {v : Int64} (hd : decode (zcode Y) pc = .ok (.lastore, 1)) (hc : zkd c = .inr (1, n)) (hi : vp_in i n)
    (kk : zW g Y d (pc + 1) ls st (zpL μ c i.toNatClampNeg v) Q) : zW g Y d pc ls (.long v :: .int i :: .ref c :: st) μ Q := by
  intro p l e R s m args below meth cd H locs cells slots Qf hC hD hK a ha
  have hX := hC
  obtain ⟨hx, hb, hml, hrt, hlk, hown, hts, hKK, hRO, hNW, hG, hbs, -⟩ := hX
  refine va_last hx hb hKK hD.1 (zws_D hG) hD.2 c 1 (zws_arr (zkd_ltA hc) hc) rfl hi hd (fun H1 locs1 hP1 _ hS1 => ?_)
  rw [zws_arrL (zkd_ltA hc) hc] at hP1
  exact kk p l e R s m args below meth cd H1 locs1 cells slots Qf hC ⟨hP1, hS1⟩ hK a ha
theorem zty_at {g : zG} {t c n : Nat} (h : zkd c = .inr (t, n)) : ∃ ty, (ztys g)[t]? = some (g.2.2.1 t, ty) := by
  have hall : zkdL.all (fun q => match q with | .inl _ => true | .inr z => decide (z.1 < 4)) = true := by decide +kernel
  unfold zkd at h
  rw [zget_at] at h
  cases hq : zkdL[c]? with
  | none => rw [hq] at h; cases h
  | some z =>
    rw [hq] at h
    have e : z = .inr (t, n) := h
    subst e
    have h1 := List.all_eq_true.mp hall _ (List.mem_of_getElem? hq)
    have h2 : t < 4 := of_decide_eq_true h1
    match t, h2 with
    | 0, _ => exact ⟨_, rfl⟩
    | 1, _ => exact ⟨_, rfl⟩
    | 2, _ => exact ⟨_, rfl⟩
    | 3, _ => exact ⟨_, rfl⟩
theorem zs_len {c n : Nat} (hd : decode (zcode Y) pc = .ok (.arraylength, 1)) (hc : (∃ t, zkd c = .inr (t, n)) ∨ ∃ f, zrow g c = some (n, f))
    (kk : zW g Y d (pc + 1) ls (.int (Int32.ofNat n) :: st) μ Q) : zW g Y d pc ls (.ref c :: st) μ Q := by
  intro p l e R s m args below meth cd H locs cells slots Qf hC hD hK a ha
  have hX := hC
  obtain ⟨hx, hb, hml, hrt, hlk, hown, hts, hKK, hRO, hNW, hG, hbs, -⟩ := hX
  have kk := kk p l e R s m args below meth cd H locs cells slots Qf hC hD hK a ha
  rcases hc with ⟨t, hc⟩ | ⟨f, hc⟩
  · obtain ⟨ty, hty⟩ := zty_at (g := g) hc
    exact va_alen hx hb hKK hD.1 c t (zws_arr (zkd_ltA hc) hc) hty rfl hd kk
  · obtain ⟨q1, q2, q3⟩ := zrow_ro hRO hc
    exact va_tlen hx hb q1 hD.2 rfl hd kk
end ZS
set_option maxHeartbeats 4000000 in
/-- one instruction that zst1 knows -/
theorem zst1_ok {g : zG} {Y : zY} {d pc : Nat} {q : zI} {ls ls' : List (Option Value)} {st st' : List Value} {μ μ' : zMem} {o : Option Prop} {Q : Option Value → zMem → Prop} {pc' : Nat}
    (hd : decode (zcode Y) pc = .ok (q.1, zlen q.1)) (hk : zok (zown Y) q = true) (hn : znext pc q.1 = some pc') (hr : zst1 g q ls st μ = some (o, ls', st', μ')) (ho : ∀ z, o = some z → z)
    (k : zW g Y d pc' ls' st' μ' Q) : zW g Y d pc ls st μ Q := by
  obtain ⟨i, n, v, ci, sl⟩ := q
  -- the rows that leave the memory as it is, in one form
  have push : ∀ {w : Value} {len : Nat}, pc' = pc + len → ls' = ls → μ' = μ → (∀ (p : Program) (l : Launch) (e : Env) (R : Room) (s : State) (m : MethodId) (args : Array Value) (below : List Frame) (meth : Method) (c : Code) (H : Heap) (locs : List Loc) (cells slots : Nat) (Qf : State → Prop) (a : Array Slot), zC g Y d p R s m args meth c cells slots → zDy g s H locs μ → zL g (zmaxL Y) ls a → W p l e R s m args below meth c H locs cells slots Qf (F0 m (pc + len) a (st'.map (ztr g))) → W p l e R s m args below meth c H locs cells slots Qf (F0 m pc a (st.map (ztr g)))) → zW g Y d pc ls st μ Q := by
    intro w len e1 e2 e3 h
    subst e1; subst e2; subst e3
    intro p l e R s m args below meth c H locs cells slots Qf hC hD hK a ha
    exact h p l e R s m args below meth c H locs cells slots Qf a hC hD ha (k p l e R s m args below meth c H locs cells slots Qf hC hD hK a ha)
  have stor : ∀ {len j : Nat} {w : Value}, pc' = pc + len → μ' = μ → zsto ls j w = some ls' → w.category = 1 → (∀ (p : Program) (l : Launch) (e : Env) (R : Room) (s : State) (m : MethodId) (args : Array Value) (below : List Frame) (meth : Method) (c : Code) (H : Heap) (locs : List Loc) (cells slots : Nat) (Qf : State → Prop) (a : Array Slot), zC g Y d p R s m args meth c cells slots → zL g (zmaxL Y) ls a → j < zmaxL Y → (∀ a' : Array Slot, lv_has a' (zmaxL Y) ((j, ztr g w) :: (zas g ls 0).filter (fun q => !(q.1 == j) && !(q.1 + 1 == j && q.2.category == 2))) → W p l e R s m args below meth c H locs cells slots Qf (F0 m (pc + len) a' (st'.map (ztr g)))) → W p l e R s m args below meth c H locs cells slots Qf (F0 m pc a (st.map (ztr g)))) → zW g Y d pc ls st μ Q := by
    intro len j w e1 e3 hs hc h
    subst e1; subst e3
    intro p l e R s m args below meth c H locs cells slots Qf hC hD hK a ha
    exact h p l e R s m args below meth c H locs cells slots Qf a hC ha (zL_lt ha hs) (fun a' ha' => k p l e R s m args below meth c H locs cells slots Qf hC hD hK a' (zL_sto ha hs ha'))
  cases i
  case iconst z =>
    cases hn; cases hr
    exact push (w := .null) (len := 1) rfl rfl rfl (fun p l e R s m args below meth c H locs cells slots Qf a hC hD ha kk => lv_iconst hC.1 hC.2.1 hd (beq_iff_eq.mp hk) kk)
  case bipush z =>
    cases hn; cases hr
    exact push (w := .null) (len := 2) rfl rfl rfl (fun p l e R s m args below meth c H locs cells slots Qf a hC hD ha kk => lv_bipush hC.1 hC.2.1 hd (beq_iff_eq.mp hk) kk)
  case sipush z =>
    cases hn; cases hr
    exact push (w := .null) (len := 3) rfl rfl rfl (fun p l e R s m args below meth c H locs cells slots Qf a hC hD ha kk => lv_sipush hC.1 hC.2.1 hd (beq_iff_eq.mp hk) kk)
  case ldc z =>
    cases hn; cases hr
    exact push (w := .null) (len := 2) rfl rfl rfl (fun p l e R s m args below meth c H locs cells slots Qf a hC hD ha kk => lv_ldc hC.1 hC.2.1 hC.2.2.2.2.2.1 (hC.2.2.2.2.2.2.1 _ (zct_ok hk)) hd kk)
  case ldc_w z =>
    cases hn; cases hr
    exact push (w := .null) (len := 3) rfl rfl rfl (fun p l e R s m args below meth c H locs cells slots Qf a hC hD ha kk => lv_ldcw hC.1 hC.2.1 hC.2.2.2.2.2.1 (hC.2.2.2.2.2.2.1 _ (zct_ok hk)) hd kk)
  case ldc2_w z =>
    cases hn; cases hr
    exact push (w := .null) (len := 3) rfl rfl rfl (fun p l e R s m args below meth c H locs cells slots Qf a hC hD ha kk => lv_ldc2 hC.1 hC.2.1 hC.2.2.2.2.2.1 (hC.2.2.2.2.2.2.1 _ (zclt_ok hk)) hd kk)
  case lconst z =>
    cases hn; cases hr
    exact push (w := .null) (len := 1) rfl rfl rfl (fun p l e R s m args below meth c H locs cells slots Qf a hC hD ha kk => lv_lconst hC.1 hC.2.1 hd rfl kk)
  case aconst_null =>
    cases hn; cases hr
    exact push (w := .null) (len := 1) rfl rfl rfl (fun p l e R s m args below meth c H locs cells slots Qf a hC hD ha kk => lv_null hC.1 hC.2.1 hd kk)
  case iload_n z =>
    cases hn
    obtain ⟨x, hx, -, h2, rfl, h4⟩ := zldI_inv hr
    exact push (w := .null) (len := 1) rfl h2 h4 (fun p l e R s m args below meth c H locs cells slots Qf a hC hD ha kk => lv_iload_n hC.1 hC.2.1 hd rfl (zL_get ha hx) kk)
  case iload z =>
    cases hn
    obtain ⟨x, hx, -, h2, rfl, h4⟩ := zldI_inv hr
    exact push (w := .null) (len := 2) rfl h2 h4 (fun p l e R s m args below meth c H locs cells slots Qf a hC hD ha kk => lv_iload hC.1 hC.2.1 hd (zL_get ha hx) kk)
  case lload_n z =>
    cases hn
    obtain ⟨x, hx, -, h2, rfl, h4⟩ := zldL_inv hr
    exact push (w := .null) (len := 1) rfl h2 h4 (fun p l e R s m args below meth c H locs cells slots Qf a hC hD ha kk => lv_lload_n hC.1 hC.2.1 hd rfl (zL_get ha hx) kk)
  case lload z =>
    cases hn
    obtain ⟨x, hx, -, h2, rfl, h4⟩ := zldL_inv hr
    exact push (w := .null) (len := 2) rfl h2 h4 (fun p l e R s m args below meth c H locs cells slots Qf a hC hD ha kk => lv_lload hC.1 hC.2.1 hd (zL_get ha hx) kk)
  case aload_n z =>
    cases hn
    obtain ⟨⟨x, hx, rfl⟩ | ⟨hx, rfl⟩, -, h2, h4⟩ := zldA_inv hr
    · exact push (w := .null) (len := 1) rfl h2 h4 (fun p l e R s m args below meth c H locs cells slots Qf a hC hD ha kk => lv_aload_n hC.1 hC.2.1 hd rfl (zL_get ha hx) kk)
    · exact push (w := .null) (len := 1) rfl h2 h4 (fun p l e R s m args below meth c H locs cells slots Qf a hC hD ha kk => lv_aload_nN hC.1 hC.2.1 hd rfl (zL_get ha hx) kk)
  case aload z =>
    cases hn
    obtain ⟨⟨x, hx, rfl⟩ | ⟨hx, rfl⟩, -, h2, h4⟩ := zldA_inv hr
    · exact push (w := .null) (len := 2) rfl h2 h4 (fun p l e R s m args below meth c H locs cells slots Qf a hC hD ha kk => lv_aload hC.1 hC.2.1 hd (zL_get ha hx) kk)
    · exact push (w := .null) (len := 2) rfl h2 h4 (fun p l e R s m args below meth c H locs cells slots Qf a hC hD ha kk => lv_aloadN hC.1 hC.2.1 hd (zL_get ha hx) kk)
  case istore_n z =>
    cases hn
    obtain ⟨x, rfl, hs, -, h4⟩ := zstI_inv hr
    exact stor (len := 1) rfl h4 hs rfl (fun p l e R s m args below meth c H locs cells slots Qf a hC ha hlt kk => lv_istore_n hC.1 hC.2.1 hd rfl ha.1 hlt rfl kk)
  case istore z =>
    cases hn
    obtain ⟨x, rfl, hs, -, h4⟩ := zstI_inv hr
    exact stor (len := 2) rfl h4 hs rfl (fun p l e R s m args below meth c H locs cells slots Qf a hC ha hlt kk => lv_istore hC.1 hC.2.1 hd ha.1 hlt rfl kk)
  case astore_n z =>
    cases hn
    obtain ⟨⟨x, rfl, hs⟩ | ⟨rfl, hs⟩, -, h4⟩ := zstA_inv hr
    · exact stor (len := 1) rfl h4 hs rfl (fun p l e R s m args below meth c H locs cells slots Qf a hC ha hlt kk => lv_astore_n hC.1 hC.2.1 hd rfl ha.1 hlt rfl kk)
    · exact stor (len := 1) rfl h4 hs rfl (fun p l e R s m args below meth c H locs cells slots Qf a hC ha hlt kk => lv_astore_nN hC.1 hC.2.1 hd rfl ha.1 hlt rfl kk)
  case astore z =>
    cases hn
    obtain ⟨⟨x, rfl, hs⟩ | ⟨rfl, hs⟩, -, h4⟩ := zstA_inv hr
    · exact stor (len := 2) rfl h4 hs rfl (fun p l e R s m args below meth c H locs cells slots Qf a hC ha hlt kk => lv_astore hC.1 hC.2.1 hd ha.1 hlt rfl kk)
    · exact stor (len := 2) rfl h4 hs rfl (fun p l e R s m args below meth c H locs cells slots Qf a hC ha hlt kk => lv_astoreN hC.1 hC.2.1 hd ha.1 hlt rfl kk)
  case lstore z =>
    cases hn
    obtain ⟨x, rfl, hs, -, h4⟩ := zstL_inv hr
    subst h4
    intro p l e R s m args below meth c H locs cells slots Qf hC hD hK a ha
    exact lv_lstore hC.1 hC.2.1 hd ha.1 (zL_ltL ha hs) rfl (fun a' ha' => k p l e R s m args below meth c H locs cells slots Qf hC hD hK a' (zL_stoL ha hs ha'))
  case iinc z w =>
    cases hn
    obtain ⟨x, hx, hs, rfl, -, h4⟩ := zinc_inv hr
    refine stor (len := 3) rfl h4 hs rfl (fun p l e R s m args below meth c H locs cells slots Qf a hC ha hlt kk => ?_)
    have hm : (z, ztr g (.int x)) ∈ zas g ls 0 := by
      rw [zget_at] at hx
      cases hq : ls[z]? with
      | none => rw [hq] at hx; cases hx
      | some o =>
        rw [hq] at hx
        have e1 : o = some (.int x) := hx
        subst e1
        have h1 := zas_get (g := g) ls 0 z hq
        rw [Nat.zero_add] at h1
        exact h1
    obtain ⟨kx, hkx⟩ := List.getElem?_of_mem hm
    exact lv_iinc hC.1 hC.2.1 hd ha.1 hkx (by rw [beq_iff_eq.mp hk]) hlt rfl kk
  case iadd =>
    cases hn
    obtain ⟨x, y, r, rfl, -, h2, rfl, h4⟩ := zbin_inv hr
    exact push (w := .null) (len := 1) rfl h2 h4 (fun p l e R s m args below meth c H locs cells slots Qf a hC hD ha kk => lv_iadd hC.1 hC.2.1 hd kk)
  case isub =>
    cases hn
    obtain ⟨x, y, r, rfl, -, h2, rfl, h4⟩ := zbin_inv hr
    exact push (w := .null) (len := 1) rfl h2 h4 (fun p l e R s m args below meth c H locs cells slots Qf a hC hD ha kk => lv_isub hC.1 hC.2.1 hd kk)
  case imul =>
    cases hn
    obtain ⟨x, y, r, rfl, -, h2, rfl, h4⟩ := zbin_inv hr
    exact push (w := .null) (len := 1) rfl h2 h4 (fun p l e R s m args below meth c H locs cells slots Qf a hC hD ha kk => lv_imul hC.1 hC.2.1 hd kk)
  case iand =>
    cases hn
    obtain ⟨x, y, r, rfl, -, h2, rfl, h4⟩ := zbin_inv hr
    exact push (w := .null) (len := 1) rfl h2 h4 (fun p l e R s m args below meth c H locs cells slots Qf a hC hD ha kk => lv_iand hC.1 hC.2.1 hd kk)
  case ior =>
    cases hn
    obtain ⟨x, y, r, rfl, -, h2, rfl, h4⟩ := zbin_inv hr
    exact push (w := .null) (len := 1) rfl h2 h4 (fun p l e R s m args below meth c H locs cells slots Qf a hC hD ha kk => lv_ior hC.1 hC.2.1 hd kk)
  case ixor =>
    cases hn
    obtain ⟨x, y, r, rfl, -, h2, rfl, h4⟩ := zbin_inv hr
    exact push (w := .null) (len := 1) rfl h2 h4 (fun p l e R s m args below meth c H locs cells slots Qf a hC hD ha kk => lv_ixor hC.1 hC.2.1 hd kk)
  case ishl =>
    cases hn
    obtain ⟨x, y, r, rfl, -, h2, rfl, h4⟩ := zbin_inv hr
    exact push (w := .null) (len := 1) rfl h2 h4 (fun p l e R s m args below meth c H locs cells slots Qf a hC hD ha kk => lv_ishl hC.1 hC.2.1 hd kk)
  case ishr =>
    cases hn
    obtain ⟨x, y, r, rfl, -, h2, rfl, h4⟩ := zbin_inv hr
    exact push (w := .null) (len := 1) rfl h2 h4 (fun p l e R s m args below meth c H locs cells slots Qf a hC hD ha kk => lv_ishr hC.1 hC.2.1 hd kk)
  case iushr =>
    cases hn
    obtain ⟨x, y, r, rfl, -, h2, rfl, h4⟩ := zbin_inv hr
    exact push (w := .null) (len := 1) rfl h2 h4 (fun p l e R s m args below meth c H locs cells slots Qf a hC hD ha kk => lv_iushr hC.1 hC.2.1 hd rfl kk)
  case idiv =>
    cases hn
    obtain ⟨x, y, r, rfl, h1, h2, rfl, h4⟩ := zdiv_inv hr
    exact push (w := .null) (len := 1) rfl h2 h4 (fun p l e R s m args below meth c H locs cells slots Qf a hC hD ha kk => lv_idiv hC.1 hC.2.1 hd (ho _ h1) kk)
  case irem =>
    cases hn
    obtain ⟨x, y, r, rfl, h1, h2, rfl, h4⟩ := zdiv_inv hr
    exact push (w := .null) (len := 1) rfl h2 h4 (fun p l e R s m args below meth c H locs cells slots Qf a hC hD ha kk => lv_irem hC.1 hC.2.1 hd (ho _ h1) kk)
  case ineg =>
    cases hn
    obtain ⟨x, r, rfl, -, h2, rfl, h4⟩ := zuni_inv hr
    exact push (w := .null) (len := 1) rfl h2 h4 (fun p l e R s m args below meth c H locs cells slots Qf a hC hD ha kk => lv_ineg hC.1 hC.2.1 hd kk)
  case i2b =>
    cases hn
    obtain ⟨x, r, rfl, -, h2, rfl, h4⟩ := zuni_inv hr
    exact push (w := .null) (len := 1) rfl h2 h4 (fun p l e R s m args below meth c H locs cells slots Qf a hC hD ha kk => lv_i2b hC.1 hC.2.1 hd rfl kk)
  case i2s =>
    cases hn
    obtain ⟨x, r, rfl, -, h2, rfl, h4⟩ := zuni_inv hr
    exact push (w := .null) (len := 1) rfl h2 h4 (fun p l e R s m args below meth c H locs cells slots Qf a hC hD ha kk => lv_i2s hC.1 hC.2.1 hd rfl kk)
  case i2c =>
    cases hn
    obtain ⟨x, r, rfl, -, h2, rfl, h4⟩ := zuni_inv hr
    exact push (w := .null) (len := 1) rfl h2 h4 (fun p l e R s m args below meth c H locs cells slots Qf a hC hD ha kk => lv_i2c hC.1 hC.2.1 hd rfl kk)
  case i2l =>
    cases hn
    obtain ⟨x, r, rfl, -, h2, rfl, h4⟩ := zi2l_inv hr
    exact push (w := .null) (len := 1) rfl h2 h4 (fun p l e R s m args below meth c H locs cells slots Qf a hC hD ha kk => lv_i2l hC.1 hC.2.1 hd rfl kk)
  case l2i =>
    cases hn
    obtain ⟨x, r, rfl, -, h2, rfl, h4⟩ := zl2i_inv hr
    exact push (w := .null) (len := 1) rfl h2 h4 (fun p l e R s m args below meth c H locs cells slots Qf a hC hD ha kk => lv_l2i hC.1 hC.2.1 hd rfl kk)
  case ladd =>
    cases hn
    obtain ⟨x, y, r, rfl, -, h2, rfl, h4⟩ := zbinL_inv hr
    exact push (w := .null) (len := 1) rfl h2 h4 (fun p l e R s m args below meth c H locs cells slots Qf a hC hD ha kk => lv_ladd hC.1 hC.2.1 hd kk)
  case lmul =>
    cases hn
    obtain ⟨x, y, r, rfl, -, h2, rfl, h4⟩ := zbinL_inv hr
    exact push (w := .null) (len := 1) rfl h2 h4 (fun p l e R s m args below meth c H locs cells slots Qf a hC hD ha kk => lv_lmul hC.1 hC.2.1 hd kk)
  case land =>
    cases hn
    obtain ⟨x, y, r, rfl, -, h2, rfl, h4⟩ := zbinL_inv hr
    exact push (w := .null) (len := 1) rfl h2 h4 (fun p l e R s m args below meth c H locs cells slots Qf a hC hD ha kk => lv_land hC.1 hC.2.1 hd kk)
  case lor =>
    cases hn
    obtain ⟨x, y, r, rfl, -, h2, rfl, h4⟩ := zbinL_inv hr
    exact push (w := .null) (len := 1) rfl h2 h4 (fun p l e R s m args below meth c H locs cells slots Qf a hC hD ha kk => lv_lor hC.1 hC.2.1 hd kk)
  case lshl =>
    cases hn
    obtain ⟨x, y, r, rfl, -, h2, rfl, h4⟩ := zlshl_inv hr
    exact push (w := .null) (len := 1) rfl h2 h4 (fun p l e R s m args below meth c H locs cells slots Qf a hC hD ha kk => lv_lshl hC.1 hC.2.1 hd rfl kk)
  case lcmp =>
    cases hn
    obtain ⟨x, y, r, rfl, -, h2, rfl, h4⟩ := zlcmp_inv hr
    exact push (w := .null) (len := 1) rfl h2 h4 (fun p l e R s m args below meth c H locs cells slots Qf a hC hD ha kk => W.lcmp hC.1 hC.2.1 hd kk)
  case dup =>
    cases hn
    obtain ⟨x, r, hc, rfl, -, h2, rfl, h4⟩ := zdup_inv hr
    exact push (w := .null) (len := 1) rfl h2 h4 (fun p l e R s m args below meth c H locs cells slots Qf a hC hD ha kk => lv_dup hC.1 hC.2.1 hd (zc1_cat hc) kk)
  case pop =>
    cases hn
    obtain ⟨x, hc, rfl, -, h2, h4⟩ := zpop_inv hr
    exact push (w := .null) (len := 1) rfl h2 h4 (fun p l e R s m args below meth c H locs cells slots Qf a hC hD ha kk => lv_pop hC.1 hC.2.1 hd (zc1_cat (g := g) hc) kk)
  case dup_x1 =>
    cases hn
    obtain ⟨x, y, r, hc, rfl, -, h2, rfl, h4⟩ := zdupx1_inv hr
    exact push (w := .null) (len := 1) rfl h2 h4 (fun p l e R s m args below meth c H locs cells slots Qf a hC hD ha kk => lv_dup_x1 hC.1 hC.2.1 hd (zc1_cat hc.1) (zc1_cat hc.2) kk)
  case dup2 =>
    cases hn
    obtain ⟨x, y, r, hc, rfl, -, h2, rfl, h4⟩ := zdup2_inv hr
    exact push (w := .null) (len := 1) rfl h2 h4 (fun p l e R s m args below meth c H locs cells slots Qf a hC hD ha kk => lv_dup2_11 hC.1 hC.2.1 hd (zc1_cat hc.1) (zc1_cat hc.2) kk)
  case getfield z =>
    cases hn
    obtain ⟨c, w, r, rfl, hc, hv, -, rfl, rfl, rfl⟩ := zgetf_inv (g := g) hr
    exact zs_getf hd hk hc hv k
  case putfield z =>
    cases hn
    rcases zputf_inv hr with ⟨c, x, rfl, hc, hf, rfl, rfl⟩ | ⟨c, w, j, rfl, hc, hf, hj, -, rfl, rfl⟩
    · exact zs_putf hd hk hc (hf.imp (fun z => z.1) (fun z => ⟨z.1, ho _ z.2⟩)) k
    · exact zs_putr hd hk hc hf hj k
  case getstatic z =>
    cases hn; cases hr
    simp only [zok, Bool.and_eq_true, Bool.or_eq_true, beq_iff_eq] at hk
    obtain ⟨h0, h1⟩ := hk
    refine push (w := .null) (len := 3) rfl rfl rfl (fun p l e R s m args below meth c H locs cells slots Qf a hC hD ha kk => ?_)
    obtain ⟨hx, hb, hml, hrt, hlk, hown, hts, hKK, hRO, hNW, hG, hbs, -⟩ := hC
    rw [h0] at hown
    rcases h1 with ⟨rfl, h2⟩ | ⟨rfl, h2⟩
    · subst h2
      exact va_gets hx hb hRO.2.2.2.1 hD.2 hown (hts (.fieldLink "CastWithVows$Acts" 35 "CastWithVows$Acts" "ABOVE" "[I") (zt_in (i := 1156) (by decide +kernel) rfl)) (fun _ z => z) hd kk
    · subst h2
      exact va_gets hx hb hRO.2.2.2.2.1 hD.2 hown (hts (.fieldLink "CastWithVows$Acts" 49 "CastWithVows$Acts" "OWN" "[I") (zt_in (i := 1154) (by decide +kernel) rfl)) (fun _ z => z) hd kk
  case iaload =>
    cases hn
    obtain ⟨c, i, n, f, r, rfl, hc, h1, rfl, rfl, rfl⟩ := zald_inv hr
    exact zs_ald hd hc (ho _ h1) k
  case laload =>
    cases hn
    obtain ⟨c, i, n, r, rfl, hc, h1, rfl, ⟨-, rfl⟩ | ⟨h, -⟩ | ⟨h, -⟩, rfl⟩ := zaldT_inv hr
    · exact zs_aldL hd hc (ho _ h1) k
    · cases h
    · cases h
  case baload =>
    cases hn
    obtain ⟨c, i, n, r, rfl, hc, h1, rfl, ⟨h, -⟩ | ⟨-, rfl⟩ | ⟨h, -⟩, rfl⟩ := zaldT_inv hr
    · cases h
    · exact zs_aldZ hd hc (ho _ h1) k
    · cases h
  case aaload =>
    cases hn
    obtain ⟨c, i, n, r, rfl, hc, h1, rfl, ⟨h, -⟩ | ⟨h, -⟩ | ⟨-, rfl⟩, rfl⟩ := zaldT_inv hr
    · cases h
    · cases h
    · exact zs_aldA hd hc (ho _ h1) k
  case iastore =>
    cases hn
    obtain ⟨c, i, x, n, rfl, hc, ⟨-, h1⟩ | ⟨h, -⟩, rfl, rfl⟩ := zast_inv hr
    · exact zs_ast hd hc (ho _ h1) k
    · cases h
  case bastore =>
    cases hn
    obtain ⟨c, i, x, n, rfl, hc, ⟨h, -⟩ | ⟨-, h1⟩, rfl, rfl⟩ := zast_inv hr
    · cases h
    · exact zs_astZ hd hc (ho _ h1).1 (ho _ h1).2 k
  case lastore =>
    cases hn
    obtain ⟨c, i, x, n, rfl, hc, h1, rfl, rfl⟩ := zastL_inv hr
    exact zs_astL hd hc (ho _ h1) k
  case arraylength =>
    cases hn
    obtain ⟨c, n, r, rfl, hc, -, rfl, rfl, rfl⟩ := zlen1_inv hr
    exact zs_len hd hc k
  case goto off =>
    cases hr
    intro p l e R s m args below meth c H locs cells slots Qf hC hD hK a ha
    simp only [znext] at hn
    split at hn
    · rename_i h0
      cases hn
      exact lv_goto hC.1 hC.2.1 hd (by omega) (k p l e R s m args below meth c H locs cells slots Qf hC hD hK a ha)
    · cases hn
  all_goals (cases hr)
theorem zall_cons {z : Prop} {r : List Prop} : zall (z :: r) = (z ∧ zall r) := rfl
theorem zrun_ok {g : zG} {Y : zY} {d : Nat} {Q : Option Value → zMem → Prop} {e : Nat} {ls' : List (Option Value)} {st' : List Value} {μ' : zMem} (k : zW g Y d e ls' st' μ' Q) : ∀ (is : List zI) (pc : Nat) (ls : List (Option Value)) (st : List Value) (μ : zMem) (ps : List Prop),
    zseg (zown Y) (zcode Y) pc is e = true → zrun g is ls st μ = some (ps, ls', st', μ') → zall ps → zW g Y d pc ls st μ Q
  | [], pc, ls, st, μ, ps, hs, hr, _ => by
    have e1 : pc = e := beq_iff_eq.mp hs
    subst e1
    simp only [zrun, Option.some.injEq, Prod.mk.injEq] at hr
    obtain ⟨-, rfl, rfl, rfl⟩ := hr
    exact k
  | q :: r, pc, ls, st, μ, ps, hs, hr, hp => by
    simp only [zseg, Bool.and_eq_true] at hs
    obtain ⟨⟨h1, h2⟩, h3⟩ := hs
    cases hd : decode (zcode Y) pc with
    | error z => rw [hd] at h1; cases h1
    | ok z =>
      obtain ⟨i, n⟩ := z
      rw [hd] at h1
      simp only [Bool.and_eq_true, decide_eq_true_eq, beq_iff_eq] at h1
      obtain ⟨rfl, rfl⟩ := h1
      cases hn : znext pc q.1 with
      | none => rw [hn] at h3; cases h3
      | some pc' =>
        rw [hn] at h3
        simp only [zrun] at hr
        cases h4 : zst1 g q ls st μ with
        | none => rw [h4] at hr; cases hr
        | some w =>
          obtain ⟨o, l1, s1, m1⟩ := w
          rw [h4] at hr
          dsimp only at hr
          cases h5 : zrun g r l1 s1 m1 with
          | none => rw [h5] at hr; cases hr
          | some w =>
            obtain ⟨ps1, l2, s2, m2⟩ := w
            rw [h5] at hr
            cases o with
            | none =>
              simp only [Option.some.injEq, Prod.mk.injEq] at hr
              obtain ⟨rfl, rfl, rfl, rfl⟩ := hr
              exact zst1_ok hd h2 hn h4 (fun z hz => by cases hz) (zrun_ok k r pc' l1 s1 m1 ps1 h3 h5 hp)
            | some z =>
              simp only [Option.some.injEq, Prod.mk.injEq] at hr
              obtain ⟨rfl, rfl, rfl, rfl⟩ := hr
              exact zst1_ok hd h2 hn h4 (fun z' hz => by cases hz; exact hp.1) (zrun_ok k r pc' l1 s1 m1 ps1 h3 h5 hp.2)
section ZB
variable {g : zG} {Y : zY} {d pc e : Nat} {ls ls' : List (Option Value)} {st st' : List Value} {μ μ' : zMem} {Q : Option Value → zMem → Prop} {is : List zI} {p1 p2 p3 p4 p5 p6 p7 p8 : Prop}
/-- a straight stretch, with its duties -/
theorem zb (hs : zseg (zown Y) (zcode Y) pc is e = true) (hr : zrun g is ls st μ = some ([], ls', st', μ')) (k : zW g Y d e ls' st' μ' Q) : zW g Y d pc ls st μ Q := zrun_ok k is pc ls st μ _ hs hr trivial
theorem zb1 (hs : zseg (zown Y) (zcode Y) pc is e = true) (hr : zrun g is ls st μ = some ([p1], ls', st', μ')) (h1 : p1) (k : zW g Y d e ls' st' μ' Q) : zW g Y d pc ls st μ Q := zrun_ok k is pc ls st μ _ hs hr ⟨h1, trivial⟩
theorem zb2 (hs : zseg (zown Y) (zcode Y) pc is e = true) (hr : zrun g is ls st μ = some ([p1, p2], ls', st', μ')) (h1 : p1) (h2 : p2) (k : zW g Y d e ls' st' μ' Q) : zW g Y d pc ls st μ Q := zrun_ok k is pc ls st μ _ hs hr ⟨h1, h2, trivial⟩
theorem zb3 (hs : zseg (zown Y) (zcode Y) pc is e = true) (hr : zrun g is ls st μ = some ([p1, p2, p3], ls', st', μ')) (h1 : p1) (h2 : p2) (h3 : p3) (k : zW g Y d e ls' st' μ' Q) : zW g Y d pc ls st μ Q := zrun_ok k is pc ls st μ _ hs hr ⟨h1, h2, h3, trivial⟩
theorem zb4 (hs : zseg (zown Y) (zcode Y) pc is e = true) (hr : zrun g is ls st μ = some ([p1, p2, p3, p4], ls', st', μ')) (h1 : p1) (h2 : p2) (h3 : p3) (h4 : p4) (k : zW g Y d e ls' st' μ' Q) : zW g Y d pc ls st μ Q := zrun_ok k is pc ls st μ _ hs hr ⟨h1, h2, h3, h4, trivial⟩
theorem zb5 (hs : zseg (zown Y) (zcode Y) pc is e = true) (hr : zrun g is ls st μ = some ([p1, p2, p3, p4, p5], ls', st', μ')) (h1 : p1) (h2 : p2) (h3 : p3) (h4 : p4) (h5 : p5) (k : zW g Y d e ls' st' μ' Q) : zW g Y d pc ls st μ Q := zrun_ok k is pc ls st μ _ hs hr ⟨h1, h2, h3, h4, h5, trivial⟩
theorem zb6 (hs : zseg (zown Y) (zcode Y) pc is e = true) (hr : zrun g is ls st μ = some ([p1, p2, p3, p4, p5, p6], ls', st', μ')) (h1 : p1) (h2 : p2) (h3 : p3) (h4 : p4) (h5 : p5) (h6 : p6) (k : zW g Y d e ls' st' μ' Q) : zW g Y d pc ls st μ Q := zrun_ok k is pc ls st μ _ hs hr ⟨h1, h2, h3, h4, h5, h6, trivial⟩
theorem zb8 (hs : zseg (zown Y) (zcode Y) pc is e = true) (hr : zrun g is ls st μ = some ([p1, p2, p3, p4, p5, p6, p7, p8], ls', st', μ')) (h1 : p1) (h2 : p2) (h3 : p3) (h4 : p4) (h5 : p5) (h6 : p6) (h7 : p7) (h8 : p8) (k : zW g Y d e ls' st' μ' Q) : zW g Y d pc ls st μ Q := zrun_ok k is pc ls st μ _ hs hr ⟨h1, h2, h3, h4, h5, h6, h7, h8, trivial⟩
end ZB
