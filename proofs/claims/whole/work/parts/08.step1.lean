/-! every instruction's step is sound -/
theorem zone {i : Nat} (c k : Nat) (hall : (List.range 19).all (fun c' => (List.range 60).all (fun k' => !(decide (zrf c' k' = .inr i)) || (c' == c && k' == k))) = true) : ∀ c' ci' k', zkd c' = .inl ci' → k' < zNF ci' → zfk ci' k' = 3 → zrf c' k' = .inr i → c' = c ∧ k' = k := by
  intro c' ci' k' _ h2 _ h4
  have hc : c' < 19 := by
    rcases Nat.lt_or_ge c' 19 with q | q
    · exact q
    · unfold zrf at h4
      rw [zget_at zrfL, List.getElem?_eq_none (Nat.le_trans (by decide +kernel) q)] at h4
      cases h4
  have hk : k' < 60 := by
    rcases Nat.lt_or_ge k' 60 with q | q
    · exact q
    · have h9 : ci' < 12 := by
        rcases Nat.lt_or_ge ci' 12 with z | z
        · exact z
        · unfold zNF at h2
          rw [zget_at zfkL, List.getElem?_eq_none (Nat.le_trans (by decide +kernel) z)] at h2
          exact absurd h2 (Nat.not_lt_zero _)
      have hm : (List.range 12).all (fun ci => decide (zNF ci ≤ 60)) = true := by decide +kernel
      have := of_decide_eq_true (List.all_eq_true.mp hm ci' (List.mem_range.mpr h9))
      omega
  have h1 := List.all_eq_true.mp (List.all_eq_true.mp hall c' (List.mem_range.mpr hc)) k' (List.mem_range.mpr hk)
  simp only [h4, decide_true, Bool.not_true, Bool.false_or, Bool.and_eq_true, beq_iff_eq] at h1
  exact h1
theorem zone0 : ∀ c' ci' k', zkd c' = .inl ci' → k' < zNF ci' → zfk ci' k' = 3 → zrf c' k' = .inr 0 → c' = 2 ∧ k' = 10 := zone 2 10 (by decide +kernel)
theorem zone1 : ∀ c' ci' k', zkd c' = .inl ci' → k' < zNF ci' → zfk ci' k' = 3 → zrf c' k' = .inr 1 → c' = 3 ∧ k' = 3 := zone 3 3 (by decide +kernel)
theorem zvars {c k i : Nat} (h : zrf c k = .inr i) : i = 0 ∨ i = 1 := by
  have hall : zrfL.all (fun l => l.all (fun q => match q with | .inl _ => true | .inr j => j == 0 || j == 1)) = true := by decide +kernel
  unfold zrf at h
  rw [zget_at] at h
  cases hq : (zget zrfL c [])[k]? with
  | none => rw [hq] at h; cases h
  | some z =>
    rw [hq] at h
    have e : z = .inr i := h
    subst e
    have hm := List.mem_of_getElem? hq
    rw [zget_at] at hm
    cases hr : zrfL[c]? with
    | none => rw [hr] at hm; cases hm
    | some l =>
      rw [hr] at hm
      have := List.all_eq_true.mp (List.all_eq_true.mp hall l (List.mem_of_getElem? hr)) _ hm
      simpa using this
theorem zone_of {c ci k i : Nat} (hk : zkd c = .inl ci) (hlt : k < zNF ci) (hf : zfk ci k = 3) (h : zrf c k = .inr i) : ∀ c' ci' k', zkd c' = .inl ci' → k' < zNF ci' → zfk ci' k' = 3 → zrf c' k' = .inr i → c' = c ∧ k' = k := by
  rcases zvars h with rfl | rfl
  · obtain ⟨rfl, rfl⟩ := zone0 c ci k hk hlt hf h
    exact zone0
  · obtain ⟨rfl, rfl⟩ := zone1 c ci k hk hlt hf h
    exact zone1
theorem zrow_ro {g : zG} {c n : Nat} {f : Nat → Int32} {U : State} {H : Heap} (h : zRO g U H) (hr : zrow g c = some (n, f)) : zro g c n f U H := by
  unfold zrow at hr
  split at hr
  · cases hr; exact h.1
  · cases hr; exact h.2.1
  · cases hr; exact h.2.2.1
  · cases hr
theorem znar_b {v : Int32} (h : v = 0 ∨ v = 1) : narrow .boolean (.int v) = .int v ∧ fits .boolean (.int v) = true ∧ vp_nar .boolean v = v := by
  rcases h with rfl | rfl <;> refine ⟨by decide +kernel, by decide +kernel, by decide +kernel⟩
theorem zc1_cat {g : zG} {v : Value} (h : zc1 v = true) : (ztr g v).category = 1 := by cases v <;> simp_all [zc1, ztr, Value.category]
section ZS
variable {g : zG} {Y : zY} {d pc : Nat} {ls : List (Option Value)} {st : List Value} {μ : zMem} {Q : Option Value → zMem → Prop}
theorem zs_getf {i ci k c : Nat} {v : Value} (hd : decode (zcode Y) pc = .ok (.getfield i, 3)) (hk : zFT.any (fun t => t.1 == zown Y && t.2.1 == i && t.2.2.1 == ci && t.2.2.2.1 == k) = true) (hc : zkd c = .inl ci) (hv : ztr g v = zfv g μ c ci k)
    (kk : zW g Y d (pc + 3) ls (v :: st) μ Q) : zW g Y d pc ls (.ref c :: st) μ Q := by
  intro p l e R s m args below meth cd H locs cells slots Qf hC hD hK a ha
  obtain ⟨r, hr, hlt, hw⟩ := zfl_ok hk
  have hX := hC
  obtain ⟨hx, hb, hml, hrt, hlk, hown, hts, hKK, hRO, hNW, hG, hbs, -⟩ := hX
  have hN : k < zNF ci := by rw [← zvw_N hr]; exact hlt
  refine va_get hx hb hts (zlay_in hr) hown hKK hD.1 c (zws_obj (zkd_lt hc (zvw_lt hr)) hc) hr k hlt (hts _ hw) (fun _ z => z) (v := zfv g μ c ci k) ?_ hd ?_
  · rw [List.getElem?_map, List.getElem?_range hN]
    rfl
  · have := kk p l e R s m args below meth cd H locs cells slots Qf hC hD hK a ha
    rw [List.map_cons, hv] at this
    exact this
theorem zs_putf {i ci k c : Nat} {v : Int32} (hd : decode (zcode Y) pc = .ok (.putfield i, 3)) (hk : zFT.any (fun t => t.1 == zown Y && t.2.1 == i && t.2.2.1 == ci && t.2.2.2.1 == k) = true) (hc : zkd c = .inl ci) (hf : zfk ci k = 0 ∨ (zfk ci k = 1 ∧ (v = 0 ∨ v = 1)))
    (kk : zW g Y d (pc + 3) ls st (zu μ.1 c k v, μ.2) Q) : zW g Y d pc ls (.int v :: .ref c :: st) μ Q := by
  intro p l e R s m args below meth cd H locs cells slots Qf hC hD hK a ha
  obtain ⟨r, hr, hlt, hw⟩ := zfl_ok hk
  have hX := hC
  obtain ⟨hx, hb, hml, hrt, hlk, hown, hts, hKK, hRO, hNW, hG, hbs, -⟩ := hX
  have hN : k < zNF ci := by rw [← zvw_N hr]; exact hlt
  obtain ⟨⟨ty0, hty⟩, hnm⟩ := zvw_ty hr
  obtain ⟨hk0, hk1, -⟩ := zfk_ok hr hN
  have hcN := zkd_lt hc (zvw_lt hr)
  have key : ∃ ty, parseFieldDescriptor (r.2.1 k).2.2.1 = some ty ∧ (r.2.1 k).2.2.2 = false ∧ narrow ty (.int v) = .int v ∧ fits ty (.int v) = true := by
    rcases hf with h | ⟨h, h2⟩
    · exact ⟨.int, (hk0 h).1, (hk0 h).2, vp_nar_int v, rfl⟩
    · exact ⟨.boolean, (hk1 h).1, (hk1 h).2, (znar_b h2).1, (znar_b h2).2.1⟩
  obtain ⟨ty, t1, t2, t3, t4⟩ := key
  refine va_put hx hb hts (zlay_in hr) ty0 hty hnm hown hKK hD.1 (zws_D hG) hD.2 c (zws_obj hcN hc) hr k hlt (hts _ hw) (fun _ z => z) t2 t1 (v := .int v) t3 t4 (by rw [List.length_map, List.length_range]; exact hN) hd (fun H1 locs1 hP1 _ hS1 => ?_)
  rw [zws_put hcN hc (hf.imp id (fun z => z.1)) hN] at hP1
  exact kk p l e R s m args below meth cd H1 locs1 cells slots Qf hC ⟨hP1, hS1⟩ hK a ha
theorem zs_putr {i ci k c q j : Nat} (hd : decode (zcode Y) pc = .ok (.putfield i, 3)) (hk : zFT.any (fun t => t.1 == zown Y && t.2.1 == i && t.2.2.1 == ci && t.2.2.2.1 == k) = true) (hc : zkd c = .inl ci) (hf : zfk ci k = 3) (hj : zrf c k = .inr j)
    (kk : zW g Y d (pc + 3) ls st (μ.1, μ.2.1, zuR μ.2.2 j q) Q) : zW g Y d pc ls (.ref q :: .ref c :: st) μ Q := by
  intro p l e R s m args below meth cd H locs cells slots Qf hC hD hK a ha
  obtain ⟨r, hr, hlt, hw⟩ := zfl_ok hk
  have hX := hC
  obtain ⟨hx, hb, hml, hrt, hlk, hown, hts, hKK, hRO, hNW, hG, hbs, -⟩ := hX
  have hN : k < zNF ci := by rw [← zvw_N hr]; exact hlt
  obtain ⟨⟨ty0, hty⟩, hnm⟩ := zvw_ty hr
  obtain ⟨-, -, hk3⟩ := zfk_ok hr hN
  have hcN := zkd_lt hc (zvw_lt hr)
  refine va_put hx hb hts (zlay_in hr) ty0 hty hnm hown hKK hD.1 (zws_D hG) hD.2 c (zws_obj hcN hc) hr k hlt (hts _ hw) (fun _ z => z) (hk3 hf).2 (hk3 hf).1 (v := .ref (zad g q)) rfl rfl (by rw [List.length_map, List.length_range]; exact hN) hd (fun H1 locs1 hP1 _ hS1 => ?_)
  rw [zws_putR hcN hc hf hj hN (zone_of hc hN hf hj)] at hP1
  exact kk p l e R s m args below meth cd H1 locs1 cells slots Qf hC ⟨hP1, hS1⟩ hK a ha
theorem zs_ald {c n : Nat} {i : Int32} {f : Nat → Int32} (hd : decode (zcode Y) pc = .ok (.iaload, 1)) (hc : (zkd c = .inr (0, n) ∧ f = μ.1 c) ∨ zrow g c = some (n, f)) (hi : vp_in i n)
    (kk : zW g Y d (pc + 1) ls (.int (f i.toNatClampNeg) :: st) μ Q) : zW g Y d pc ls (.int i :: .ref c :: st) μ Q := by
  intro p l e R s m args below meth cd H locs cells slots Qf hC hD hK a ha
  have hX := hC
  obtain ⟨hx, hb, hml, hrt, hlk, hown, hts, hKK, hRO, hNW, hG, hbs, -⟩ := hX
  have kk := kk p l e R s m args below meth cd H locs cells slots Qf hC hD hK a ha
  rcases hc with ⟨hc, rfl⟩ | hc
  · exact va_iald hx hb hKK hD.1 c 0 (zws_arr (zkd_ltA hc) hc) rfl hi hd kk
  · obtain ⟨q1, q2, q3⟩ := zrow_ro hRO hc
    exact va_sld hx hb q1 q2 q3 hD.2 hi hd kk
theorem zs_aldL {c n : Nat} {i : Int32} (hd : decode (zcode Y) pc = .ok (.laload, 1)) (hc : zkd c = .inr (1, n)) (hi : vp_in i n)
    (kk : zW g Y d (pc + 1) ls (.long (μ.2.1 c i.toNatClampNeg) :: st) μ Q) : zW g Y d pc ls (.int i :: .ref c :: st) μ Q := by
  intro p l e R s m args below meth cd H locs cells slots Qf hC hD hK a ha
  have hX := hC
  obtain ⟨hx, hb, hml, hrt, hlk, hown, hts, hKK, hRO, hNW, hG, hbs, -⟩ := hX
  exact va_lald hx hb hKK hD.1 c 1 (zws_arr (zkd_ltA hc) hc) rfl hi hd (kk p l e R s m args below meth cd H locs cells slots Qf hC hD hK a ha)
theorem zs_aldZ {c n : Nat} {i : Int32} (hd : decode (zcode Y) pc = .ok (.baload, 1)) (hc : zkd c = .inr (2, n)) (hi : vp_in i n)
    (kk : zW g Y d (pc + 1) ls (.int (μ.1 c i.toNatClampNeg) :: st) μ Q) : zW g Y d pc ls (.int i :: .ref c :: st) μ Q := by
  intro p l e R s m args below meth cd H locs cells slots Qf hC hD hK a ha
  have hX := hC
  obtain ⟨hx, hb, hml, hrt, hlk, hown, hts, hKK, hRO, hNW, hG, hbs, -⟩ := hX
  exact va_zald hx hb hKK hD.1 c 2 (zws_arr (zkd_ltA hc) hc) rfl hi hd (kk p l e R s m args below meth cd H locs cells slots Qf hC hD hK a ha)
theorem zs_aldA {c n : Nat} {i : Int32} (hd : decode (zcode Y) pc = .ok (.aaload, 1)) (hc : zkd c = .inr (3, n)) (hi : vp_in i n)
    (kk : zW g Y d (pc + 1) ls (.ref (13 + i.toNatClampNeg) :: st) μ Q) : zW g Y d pc ls (.int i :: .ref c :: st) μ Q := by
  intro p l e R s m args below meth cd H locs cells slots Qf hC hD hK a ha
  have hX := hC
  obtain ⟨hx, hb, hml, hrt, hlk, hown, hts, hKK, hRO, hNW, hG, hbs, -⟩ := hX
  exact va_aldq hx hb hKK hD.1 c 3 (zws_arr (zkd_ltA hc) hc) rfl hi hd (kk p l e R s m args below meth cd H locs cells slots Qf hC hD hK a ha)
theorem zs_ast {c n : Nat} {i v : Int32} (hd : decode (zcode Y) pc = .ok (.iastore, 1)) (hc : zkd c = .inr (0, n)) (hi : vp_in i n)
    (kk : zW g Y d (pc + 1) ls st (zu μ.1 c i.toNatClampNeg v, μ.2) Q) : zW g Y d pc ls (.int v :: .int i :: .ref c :: st) μ Q := by
  intro p l e R s m args below meth cd H locs cells slots Qf hC hD hK a ha
  have hX := hC
  obtain ⟨hx, hb, hml, hrt, hlk, hown, hts, hKK, hRO, hNW, hG, hbs, -⟩ := hX
  refine va_iast hx hb hKK hD.1 (zws_D hG) hD.2 c 0 (zws_arr (zkd_ltA hc) hc) rfl hi hd (fun H1 locs1 hP1 _ hS1 => ?_)
  rw [zws_arrI (zkd_ltA hc) hc (Or.inl rfl)] at hP1
  exact kk p l e R s m args below meth cd H1 locs1 cells slots Qf hC ⟨hP1, hS1⟩ hK a ha
theorem zs_astZ {c n : Nat} {i v : Int32} (hd : decode (zcode Y) pc = .ok (.bastore, 1)) (hc : zkd c = .inr (2, n)) (hi : vp_in i n) (hv : v = 0 ∨ v = 1)
    (kk : zW g Y d (pc + 1) ls st (zu μ.1 c i.toNatClampNeg v, μ.2) Q) : zW g Y d pc ls (.int v :: .int i :: .ref c :: st) μ Q := by
  intro p l e R s m args below meth cd H locs cells slots Qf hC hD hK a ha
  have hX := hC
  obtain ⟨hx, hb, hml, hrt, hlk, hown, hts, hKK, hRO, hNW, hG, hbs, -⟩ := hX
  refine va_zast hx hb hKK hD.1 (zws_D hG) hD.2 c 2 (zws_arr (zkd_ltA hc) hc) rfl hi hd (fun H1 locs1 hP1 _ hS1 => ?_)
  rw [(znar_b hv).2.2, zws_arrI (zkd_ltA hc) hc (Or.inr rfl)] at hP1
  exact kk p l e R s m args below meth cd H1 locs1 cells slots Qf hC ⟨hP1, hS1⟩ hK a ha
theorem zs_astL {c n : Nat} {i : Int32} {v : Int64} (hd : decode (zcode Y) pc = .ok (.lastore, 1)) (hc : zkd c = .inr (1, n)) (hi : vp_in i n)
    (kk : zW g Y d (pc + 1) ls st (μ.1, zuL μ.2.1 c i.toNatClampNeg v, μ.2.2) Q) : zW g Y d pc ls (.long v :: .int i :: .ref c :: st) μ Q := by
  intro p l e R s m args below meth cd H locs cells slots Qf hC hD hK a ha
  have hX := hC
  obtain ⟨hx, hb, hml, hrt, hlk, hown, hts, hKK, hRO, hNW, hG, hbs, -⟩ := hX
  refine va_last hx hb hKK hD.1 (zws_D hG) hD.2 c 1 (zws_arr (zkd_ltA hc) hc) rfl hi hd (fun H1 locs1 hP1 _ hS1 => ?_)
  rw [zws_arrL (zkd_ltA hc) hc] at hP1
  exact kk p l e R s m args below meth cd H1 locs1 cells slots Qf hC ⟨hP1, hS1⟩ hK a ha
theorem zty_at {g : zG} {t c n : Nat} (h : zkd c = .inr (t, n)) : ∃ ty, (ztys g)[t]? = some (g.2.2.1 t, ty) := by
  have hall : zkdL.all (fun q => match q with | .inl _ => true | .inr z => decide (z.1 < 4)) = true := by decide +kernel
  unfold zkd at h
  rw [zget_at] at h
  cases hq : zkdL[c]? with
  | none => rw [hq] at h; cases h
  | some z =>
    rw [hq] at h
    have e : z = .inr (t, n) := h
    subst e
    have h1 := List.all_eq_true.mp hall _ (List.mem_of_getElem? hq)
    have h2 : t < 4 := of_decide_eq_true h1
    match t, h2 with
    | 0, _ => exact ⟨_, rfl⟩
    | 1, _ => exact ⟨_, rfl⟩
    | 2, _ => exact ⟨_, rfl⟩
    | 3, _ => exact ⟨_, rfl⟩
theorem zs_len {c n : Nat} (hd : decode (zcode Y) pc = .ok (.arraylength, 1)) (hc : (∃ t, zkd c = .inr (t, n)) ∨ ∃ f, zrow g c = some (n, f))
    (kk : zW g Y d (pc + 1) ls (.int (Int32.ofNat n) :: st) μ Q) : zW g Y d pc ls (.ref c :: st) μ Q := by
  intro p l e R s m args below meth cd H locs cells slots Qf hC hD hK a ha
  have hX := hC
  obtain ⟨hx, hb, hml, hrt, hlk, hown, hts, hKK, hRO, hNW, hG, hbs, -⟩ := hX
  have kk := kk p l e R s m args below meth cd H locs cells slots Qf hC hD hK a ha
  rcases hc with ⟨t, hc⟩ | ⟨f, hc⟩
  · obtain ⟨ty, hty⟩ := zty_at (g := g) hc
    exact va_alen hx hb hKK hD.1 c t (zws_arr (zkd_ltA hc) hc) hty rfl hd kk
  · obtain ⟨q1, q2, q3⟩ := zrow_ro hRO hc
    exact va_slen hx hb q1 q2 q3 hD.2 hd kk
end ZS
