theorem zkd_lt {c ci : Nat} (h : zkd c = .inl ci) (hc : ci < 12) : c < zN := by
  rcases Nat.lt_or_ge c zN with q | q
  · exact q
  · unfold zkd at h
    rw [zget_at, List.getElem?_eq_none (Nat.le_trans (by decide +kernel) q)] at h
    have e : (Sum.inl 99 : Nat ⊕ (Nat × Nat)) = .inl ci := h
    cases e
    exact absurd hc (by decide)
theorem zkd_ltA {c t n : Nat} (h : zkd c = .inr (t, n)) : c < zN := by
  rcases Nat.lt_or_ge c zN with q | q
  · exact q
  · unfold zkd at h
    rw [zget_at, List.getElem?_eq_none (Nat.le_trans (by decide +kernel) q)] at h
    have e : (Sum.inl 99 : Nat ⊕ (Nat × Nat)) = .inr (t, n) := h
    cases e
theorem zvw_lt {ci : Nat} {r : vw_C} (h : vwCl[ci]? = some r) : ci < 12 := (List.getElem?_eq_some_iff.mp h).1
theorem zvw_N {ci : Nat} {r : vw_C} (h : vwCl[ci]? = some r) : r.2.2 = zNF ci := by
  have hl := zvw_lt h
  match ci, hl, h with
  | 0, _, h => cases h; rfl
  | 1, _, h => cases h; rfl
  | 2, _, h => cases h; rfl
  | 3, _, h => cases h; rfl
  | 4, _, h => cases h; rfl
  | 5, _, h => cases h; rfl
  | 6, _, h => cases h; rfl
  | 7, _, h => cases h; rfl
  | 8, _, h => cases h; rfl
  | 9, _, h => cases h; rfl
  | 10, _, h => cases h; rfl
  | 11, _, h => cases h; rfl
theorem zvw_ty {ci : Nat} {r : vw_C} (h : vwCl[ci]? = some r) : (∃ ty0 : Nat → FieldType, ∀ k, k < r.2.2 → parseFieldDescriptor (r.2.1 k).2.2.1 = some (ty0 k)) ∧ ∀ a, a < r.2.2 → ∀ b, b < r.2.2 → a ≠ b → (r.2.1 a).2.1 ≠ (r.2.1 b).2.1 := by
  have hl := zvw_lt h
  match ci, hl, h with
  | 0, _, h => cases h; exact ⟨⟨tyX0, tyX0_ok⟩, nmX0⟩
  | 1, _, h => cases h; exact ⟨⟨tyX1, tyX1_ok⟩, nmX1⟩
  | 2, _, h => cases h; exact ⟨⟨tyX2, tyX2_ok⟩, nmX2⟩
  | 3, _, h => cases h; exact ⟨⟨tyX3, tyX3_ok⟩, nmX3⟩
  | 4, _, h => cases h; exact ⟨⟨tyX4, tyX4_ok⟩, nmX4⟩
  | 5, _, h => cases h; exact ⟨⟨tyX5, tyX5_ok⟩, nmX5⟩
  | 6, _, h => cases h; exact ⟨⟨tyX6, tyX6_ok⟩, nmX6⟩
  | 7, _, h => cases h; exact ⟨⟨tyX7, tyX7_ok⟩, nmX7⟩
  | 8, _, h => cases h; exact ⟨⟨tyX8, tyX8_ok⟩, nmX8⟩
  | 9, _, h => cases h; exact ⟨⟨tyX9, tyX9_ok⟩, nmX9⟩
  | 10, _, h => cases h; exact ⟨⟨tyX10, tyX10_ok⟩, nmX10⟩
  | 11, _, h => cases h; exact ⟨⟨tyX11, tyX11_ok⟩, nmX11⟩
def zfkb (ci k : Nat) : Bool := match vwCl[ci]? with
  | some r => (match zfk ci k with
    | 0 => decide (parseFieldDescriptor (r.2.1 k).2.2.1 = some .int) && !(r.2.1 k).2.2.2
    | 1 => decide (parseFieldDescriptor (r.2.1 k).2.2.1 = some .boolean) && !(r.2.1 k).2.2.2
    | 3 => decide (parseFieldDescriptor (r.2.1 k).2.2.1 = some (.object "CastWithVows$Program")) && !(r.2.1 k).2.2.2
    | _ => true)
  | none => true
theorem zfk_all : (List.range 12).all (fun ci => (List.range (zNF ci)).all (fun k => zfkb ci k)) = true := by decide +kernel
theorem zfk_ok {ci k : Nat} {r : vw_C} (h : vwCl[ci]? = some r) (hk : k < zNF ci) : (zfk ci k = 0 → parseFieldDescriptor (r.2.1 k).2.2.1 = some .int ∧ (r.2.1 k).2.2.2 = false) ∧ (zfk ci k = 1 → parseFieldDescriptor (r.2.1 k).2.2.1 = some .boolean ∧ (r.2.1 k).2.2.2 = false) ∧ (zfk ci k = 3 → parseFieldDescriptor (r.2.1 k).2.2.1 = some (.object "CastWithVows$Program") ∧ (r.2.1 k).2.2.2 = false) := by
  have h1 := List.all_eq_true.mp (List.all_eq_true.mp zfk_all ci (List.mem_range.mpr (zvw_lt h))) k (List.mem_range.mpr hk)
  simp only [zfkb, h] at h1
  refine ⟨fun e => ?_, fun e => ?_, fun e => ?_⟩ <;> rw [e] at h1 <;> simpa using h1
theorem zlay_ok : (List.range 12).all (fun ci => (List.range (zNF ci)).all (fun k => zLY.any (fun t => t.1 == ci && t.2.1 == k))) = true := by decide +kernel
theorem zlay_in {ci : Nat} {r : vw_C} (h : vwCl[ci]? = some r) : ∀ w ∈ u_ws r.1 r.2.1 r.2.2, w ∈ ztbl := by
  intro w hw
  obtain ⟨k, hk, rfl⟩ := List.mem_map.mp hw
  have hk := List.mem_range.mp hk
  rw [zvw_N h] at hk
  have h1 := List.all_eq_true.mp (List.all_eq_true.mp zlay_ok ci (List.mem_range.mpr (zvw_lt h))) k (List.mem_range.mpr hk)
  obtain ⟨t, ht, he⟩ := List.any_eq_true.mp h1
  simp only [Bool.and_eq_true, beq_iff_eq] at he
  have h2 := List.all_eq_true.mp zLY_ok t ht
  unfold zLYb at h2
  rw [he.1, h, he.2] at h2
  simp only [Bool.and_eq_true, decide_eq_true_eq] at h2
  exact zt_in h2.2 (by unfold u_lay; split <;> rfl)
theorem zfl_ok {o i ci k : Nat} (h : zFT.any (fun t => t.1 == o && t.2.1 == i && t.2.2.1 == ci && t.2.2.2.1 == k) = true) : ∃ r : vw_C, vwCl[ci]? = some r ∧ k < r.2.2 ∧ Cond.fieldLink (zR o) i (r.2.1 k).1 (r.2.1 k).2.1 (r.2.1 k).2.2.1 ∈ ztbl := by
  obtain ⟨t, ht, he⟩ := List.any_eq_true.mp h
  simp only [Bool.and_eq_true, beq_iff_eq] at he
  obtain ⟨⟨⟨e1, e2⟩, e3⟩, e4⟩ := he
  have h2 := List.all_eq_true.mp zFT_ok t ht
  unfold zFTb at h2
  rw [e3, e4, e1, e2] at h2
  cases hr : vwCl[ci]? with
  | none => rw [hr] at h2; cases h2
  | some r =>
    rw [hr] at h2
    simp only [Bool.and_eq_true, decide_eq_true_eq] at h2
    exact ⟨r, rfl, h2.1, zt_in h2.2 rfl⟩
theorem zct_ok {o i : Nat} {v : Int32} (h : zCT.any (fun t => t.1 == o && t.2.1 == i && t.2.2.1 == v) = true) : Cond.constant (zR o) i v ∈ ztbl := by
  obtain ⟨t, ht, he⟩ := List.any_eq_true.mp h
  simp only [Bool.and_eq_true, beq_iff_eq] at he
  obtain ⟨⟨e1, e2⟩, e3⟩ := he
  have h2 := List.all_eq_true.mp zCT_ok t ht
  unfold zCTb at h2
  rw [e1, e2, e3] at h2
  exact zt_in (of_decide_eq_true h2) rfl
theorem zclt_ok {o i : Nat} {v : Int64} (h : zCLT.any (fun t => t.1 == o && t.2.1 == i && t.2.2.1 == v) = true) : Cond.constantLong (zR o) i v ∈ ztbl := by
  obtain ⟨t, ht, he⟩ := List.any_eq_true.mp h
  simp only [Bool.and_eq_true, beq_iff_eq] at he
  obtain ⟨⟨e1, e2⟩, e3⟩ := he
  have h2 := List.all_eq_true.mp zCLT_ok t ht
  unfold zCLTb at h2
  rw [e1, e2, e3] at h2
  exact zt_in (of_decide_eq_true h2) rfl
/-! every instruction's step is sound -/
theorem zone {i : Nat} (c k : Nat) (hall : (List.range 19).all (fun c' => (List.range 60).all (fun k' => !(decide (zrf c' k' = .inr i)) || (c' == c && k' == k))) = true) : ∀ c' ci' k', zkd c' = .inl ci' → k' < zNF ci' → zfk ci' k' = 3 → zrf c' k' = .inr i → c' = c ∧ k' = k := by
  intro c' ci' k' _ h2 _ h4
  have hc : c' < 19 := by
    rcases Nat.lt_or_ge c' 19 with q | q
    · exact q
    · unfold zrf at h4
      rw [zget_at zrfL, List.getElem?_eq_none (Nat.le_trans (by decide +kernel) q)] at h4
      cases h4
  have hk : k' < 60 := by
    rcases Nat.lt_or_ge k' 60 with q | q
    · exact q
    · have h9 : ci' < 12 := by
        rcases Nat.lt_or_ge ci' 12 with z | z
        · exact z
        · unfold zNF at h2
          rw [zget_at zfkL, List.getElem?_eq_none (Nat.le_trans (by decide +kernel) z)] at h2
          exact absurd h2 (Nat.not_lt_zero _)
      have hm : (List.range 12).all (fun ci => decide (zNF ci ≤ 60)) = true := by decide +kernel
      have := of_decide_eq_true (List.all_eq_true.mp hm ci' (List.mem_range.mpr h9))
      omega
  have h1 := List.all_eq_true.mp (List.all_eq_true.mp hall c' (List.mem_range.mpr hc)) k' (List.mem_range.mpr hk)
  simp only [h4, decide_true, Bool.not_true, Bool.false_or, Bool.and_eq_true, beq_iff_eq] at h1
  exact h1
theorem zone0 : ∀ c' ci' k', zkd c' = .inl ci' → k' < zNF ci' → zfk ci' k' = 3 → zrf c' k' = .inr 0 → c' = 2 ∧ k' = 10 := zone 2 10 (by decide +kernel)
theorem zone1 : ∀ c' ci' k', zkd c' = .inl ci' → k' < zNF ci' → zfk ci' k' = 3 → zrf c' k' = .inr 1 → c' = 3 ∧ k' = 3 := zone 3 3 (by decide +kernel)
theorem zvars {c k i : Nat} (h : zrf c k = .inr i) : i = 0 ∨ i = 1 := by
  have hall : zrfL.all (fun l => l.all (fun q => match q with | .inl _ => true | .inr j => j == 0 || j == 1)) = true := by decide +kernel
  unfold zrf at h
  rw [zget_at] at h
  cases hq : (zget zrfL c [])[k]? with
  | none => rw [hq] at h; cases h
  | some z =>
    rw [hq] at h
    have e : z = .inr i := h
    subst e
    have hm := List.mem_of_getElem? hq
    rw [zget_at] at hm
    cases hr : zrfL[c]? with
    | none => rw [hr] at hm; cases hm
    | some l =>
      rw [hr] at hm
      have := List.all_eq_true.mp (List.all_eq_true.mp hall l (List.mem_of_getElem? hr)) _ hm
      simpa using this
theorem zone_of {c ci k i : Nat} (hk : zkd c = .inl ci) (hlt : k < zNF ci) (hf : zfk ci k = 3) (h : zrf c k = .inr i) : ∀ c' ci' k', zkd c' = .inl ci' → k' < zNF ci' → zfk ci' k' = 3 → zrf c' k' = .inr i → c' = c ∧ k' = k := by
  rcases zvars h with rfl | rfl
  · obtain ⟨rfl, rfl⟩ := zone0 c ci k hk hlt hf h
    exact zone0
  · obtain ⟨rfl, rfl⟩ := zone1 c ci k hk hlt hf h
    exact zone1
theorem znar_b {v : Int32} (h : v = 0 ∨ v = 1) : narrow .boolean (.int v) = .int v ∧ fits .boolean (.int v) = true ∧ vp_nar .boolean v = v := by
  rcases h with rfl | rfl <;> refine ⟨by decide +kernel, by decide +kernel, by decide +kernel⟩
