/-! the class: melting; the face -/
theorem updM_eq (day h : Int32) (F : zF) (st : Int32 × (Nat → Int32)) : updM day h F st = if ¬ st.1 < 0 ∧ ¬ manyOff F day h < st.1 then st else (manyOff F day h, fbell F) := rfl
theorem many_le {F : zF} {day h : Int32} (h6 : fB F ≤ 6) : ∃ k, k ≤ 6 ∧ manyOff F day h = nI k := by
  unfold manyOff
  rw [zsum_nsm]
  exact ⟨_, Nat.le_trans (nsm_le1 _ (fun s _ => by split <;> omega)) h6, rfl⟩
theorem kpow {K n : Nat} (hK : K ≤ 5) (hn : n ≤ 5) : K ^ n ≤ 3125 := Nat.le_trans (Nat.pow_le_pow_left hK n) (Nat.pow_le_pow_right (by decide) hn)
theorem div_pow {w K i : Nat} : w / K ^ i / K = w / K ^ (i + 1) := by rw [Nat.div_div_eq_div_mul, Nat.pow_succ]

set_option maxRecDepth 100000 in
set_option maxHeartbeats 4000000 in
theorem w_offA {g : zG} {d : Nat} {F : zF} {μ0 : zMem} {b K w : Nat} {day h : Int32} (hF : okF F) (hd : 5 ≤ d) (hb : b < fB F) (hK : K = fB F - 1) (hK1 : 1 ≤ K) (h5 : cntB F b (fV F) ≤ 5) (hw : w < K ^ cntB F b (fV F)) (hmv : mvd F b day h (fV F) μ0) : ∀ (j i : Nat) (x7 : Option Value) (μ : zMem), i + j = cntB F b (fV F) → oX F μ → zq (n1 70) μ0 μ → (∀ q, q < 6 → μ.1 70 q = offW F day h (nI (lyA F b)) q + zsum (trM F b K w day h j q) (fV F)) → zW g C_offAfter d 43 [some (.ref 6), some (.int (nI w)), some (.int (nI (cntB F b (fV F)))), some (.int (nI b)), some (.int (nI K)), some (.int (nI (w / K ^ i))), some (.int (nI j - 1)), x7] [] μ (fun r μ' => r = some (.int (manyOff (leafF b K (fV F) 0 F w) day h)) ∧ zq (n1 70) μ0 μ') := by
  intro j
  induction j with
  | zero =>
    intro i x7 μ hi ho hz hv0
    have hbd := ho.b
    have h12 := ho.v12
    have h6 := ho.b6
    have hkp := kpow (K := K) (n := cntB F b (fV F)) (by omega) h5
    have hdv := Nat.div_le_self w (K ^ i)
    have hi : cntB F b (fV F) = i := by omega
    subst hi
    refine zb C_offAfter_s43 rfl ?_
    refine z_lt C_offAfter_d45 (tgt := 95) rfl (fun h45 => ?_) (fun h45 => absurd (show nI 0 - 1 < (0 : Int32) by decide) h45)
    refine zb C_offAfter_s95 rfl ?_
    refine zcallS C_offAfter_d99 k1_46 (by omega) (x_countOff_70 (by omega)) rfl rfl (Nat.le_of_ble_eq_true rfl) ?_
    rintro _ μx ⟨rfl, hx⟩
    rw [hx]
    clear hx μx
    refine z_ret C_offAfter_d102 rfl ?_
    obtain ⟨l1, l2, l3, l4⟩ := leaf_V (b := b) (K := K) (fV F) 0 F w
    refine ⟨congrArg (fun z => some (Value.int z)) ?_, hz⟩
    refine many_fsb (F := leafF b K (fV F) 0 F w) (leaf_ok (fV F) 0 F w hF hb hK (by rw [rem_cnt]; exact hw)) (by rw [l2]; exact h6) (fun q hq => ?_)
    rw [hv0 q hq]
    exact tr_end h12 (by omega) (by omega) hw hq
  | succ j ih =>
    intro i x7 μ hi ho hz hv0
    have hbd := ho.b
    have h12 := ho.v12
    have h6 := ho.b6
    have hkp := kpow (K := K) (n := cntB F b (fV F)) (by omega) h5
    have hdv := Nat.div_le_self w (K ^ i)
    have hilt : i < cntB F b (fV F) := by omega
    have ei : (nI i).toNatClampNeg = i := nI_clamp (by omega)
    rw [nI_pred]
    obtain ⟨v0, hv, hbv, hcv⟩ := cnt_ex (F := F) (b := b) (fV F) j (by omega)
    have hdl : w / K ^ i % K < K := Nat.mod_lt _ (by omega)
    have hto := oth_lt (B := fB F) hb (q := w / K ^ i % K) (by omega)
    have er : nI (w / K ^ i) - nI (w / K ^ i) / nI K * nI K = nI (w / K ^ i % K) := pk_rem (by omega) (by omega) (by omega)
    have ed : nI (w / K ^ i) / nI K = nI (w / K ^ (i + 1)) := by rw [pk_div (by omega) (by omega) (by omega), div_pow]
    have hvt : vp_in (nI (oth b (w / K ^ i % K))) 6 := vp_in_nI (by omega) (by omega)
    have ect : (nI (oth b (w / K ^ i % K))).toNatClampNeg = oth b (w / K ^ i % K) := nI_clamp (by omega)
    have e6 : (6 : Int32) * nI j + nI (oth b (w / K ^ i % K)) = nI (6 * j + oth b (w / K ^ i % K)) := by rw [show (6 : Int32) = nI 6 from rfl, pk_mul, nI_add]
    have hvx : vp_in (nI (6 * j + oth b (w / K ^ i % K))) 30 := vp_in_nI (by omega) (by omega)
    have ecx : (nI (6 * j + oth b (w / K ^ i % K))).toNatClampNeg = 6 * j + oth b (w / K ^ i % K) := nI_clamp (by omega)
    have hne : ¬ nI K = 0 := nI_ne0 (by omega) (by omega)
    have hdo : μ.1 74 (6 * j + oth b (w / K ^ i % K)) = pu F v0 (nI (oth b (w / K ^ i % K))) day h := by
      rw [hz.1 74 _ rfl, ← hcv]
      exact (hmv v0 hv hbv).2 _ (by omega)
    have eij : cntB F b (fV F) - 1 - j = i := by omega
    refine zb C_offAfter_s43 rfl ?_
    refine z_lt C_offAfter_d45 (tgt := 95) rfl (fun h45 => absurd h45 (nI_pos (by omega))) (fun h45 => ?_)
    refine zb1 C_offAfter_s48 rfl hne ?_
    rw [er]
    refine zcallS C_offAfter_d54 k1_94 (by omega) (x_other (by omega) (by omega)) rfl rfl (Nat.le_of_ble_eq_true rfl) ?_
    rintro _ μx ⟨rfl, hx⟩
    rw [hx]
    clear hx μx
    refine zb4 C_offAfter_s57 rfl hvt (by rw [e6]; exact hvx) hvt hne ?_
    rw [ed, ect, e6, ecx, hdo, show nI j + (-1) = nI j - 1 from (Int32.sub_eq_add_neg ..).symm]
    refine ih (i + 1) _ _ (by omega) (ho.q (zq.w (m := sX) rfl)) (hz.tr (zq.w rfl)) (fun q hq => ?_)
    rw [zpI_at, tr_step hv hbv hcv, eij]
    by_cases y : q = oth b (w / K ^ i % K)
    · rw [if_pos y, if_pos y.symm, hv0 _ (by omega), y, Int32.add_assoc]
    · rw [if_neg y, if_neg (fun z => y z.symm), Int32.add_zero]
      exact hv0 q hq

set_option maxRecDepth 100000 in
set_option maxHeartbeats 4000000 in
theorem x_offA {g : zG} {d : Nat} {F : zF} {μ0 : zMem} {b K w : Nat} {day h : Int32} (hF : okF F) (hd : 5 ≤ d) (hb : b < fB F) (hK : K = fB F - 1) (hK1 : 1 ≤ K) (h5 : cntB F b (fV F) ≤ 5) (hw : w < K ^ cntB F b (fV F)) (hmv : mvd F b day h (fV F) μ0) (h69 : ∀ q, q < 6 → μ0.1 69 q = offW F day h (nI (lyA F b)) q) (ho : oX F μ0) : zM g d C_offAfter [.ref 6, .int (nI w), .int (nI (cntB F b (fV F))), .int (nI b)] μ0 (fun r μ' => r = some (.int (manyOff (leafF b K (fV F) 0 F w) day h)) ∧ zq (n1 70) μ0 μ') := by
  refine zM_of (by decide +kernel) rfl rfl (Nat.le_of_ble_eq_true rfl) rfl ?_
  have h6 := ho.b6
  have hb1 : μ0.1 2 7 - 1 = nI K := by rw [ho.b, show (1 : Int32) = nI 1 from rfl, pk_sub (by omega), hK]
  refine zb C_offAfter_s0 rfl ?_
  rw [hb1]
  refine z_cge C_offAfter_d14 (tgt := 20) rfl (fun h14 => ?_) (fun h14 => absurd (nI_le (a := 1) hK1 (by omega)) h14)
  refine zb C_offAfter_s20 rfl ?_
  refine zcpI C_offAfter_d32 k1_88 (by omega) (Nat.le_of_ble_eq_true rfl) rfl rfl (by decide) (by decide) (by decide) (by decide) (by decide) ?_
  refine zb C_offAfter_s35 rfl ?_
  have hq70 : zq (n1 70) μ0 (zpA μ0 70 (va_cpy (μ0.1 69) (μ0.1 70) (0 : Int32).toNatClampNeg (0 : Int32).toNatClampNeg (6 : Int32).toNatClampNeg)) := zq.rf.putA (fun _ => rfl)
  have h := w_offA (g := g) hF hd hb hK hK1 h5 hw hmv (cntB F b (fV F)) 0 none (zpA μ0 70 (va_cpy (μ0.1 69) (μ0.1 70) (0 : Int32).toNatClampNeg (0 : Int32).toNatClampNeg (6 : Int32).toNatClampNeg)) (by omega) (ho.q (hq70.mono (n1_sX (fun _ => rfl)))) hq70 (fun q hq => ?_)
  · rw [Nat.pow_zero, Nat.div_one] at h
    exact h
  · have e0 : zsum (trM F b K w day h (cntB F b (fV F)) q) (fV F) = 0 := zsum_0 _ (fun v hv => by
      unfold trM
      exact if_neg (fun z => by have := cnt_lt hv z.1; omega))
    rw [e0, Int32.add_zero, ← h69 q hq]
    show (if 70 = 70 then va_cpy (μ0.1 69) (μ0.1 70) (0 : Int32).toNatClampNeg (0 : Int32).toNatClampNeg (6 : Int32).toNatClampNeg else μ0.1 70) q = _
    rw [if_pos rfl]
    exact (pk_cpy_in (Nat.zero_le _) (by show q < 0 + 6; omega)).trans (congrArg (μ0.1 69) (by show 0 + (q - 0) = q; omega))

set_option maxRecDepth 100000 in
set_option maxHeartbeats 4000000 in
theorem w_bellIn {g : zG} {d : Nat} {F : zF} {μ0 : zMem} {u : Nat} {b K w : Nat} {day h : Int32} (hF : okF F) (hd : 5 ≤ d) (hb : b < fB F) (hK : K = fB F - 1) (hK1 : 1 ≤ K) (h5 : cntB F b (fV F) ≤ 5) (hw : w < K ^ cntB F b (fV F)) (hmv : mvd F b day h (fV F) μ0) (hu : u < fV F) (hbu : fbell F u = nI b) : ∀ (j i : Nat) (μ : zMem), i + j = cntB F b (fV F) → oX F μ → (cntB F b u < j) → (μ = μ0) → zW g C_bellIn d 28 [some (.ref 6), some (.int (nI w)), some (.int (nI (cntB F b (fV F)))), some (.int (nI b)), some (.int (nI u)), some (.int (nI K)), some (.int (nI (w / K ^ i))), some (.int (nI j - 1))] [] μ (fun r μ' => r = some (.int (fbell (leafF b K (fV F) 0 F w) u)) ∧ μ' = μ0) := by
  intro j
  induction j with
  | zero =>
    intro i  μ hi ho hv0 hv1
    have hbd := ho.b
    have h12 := ho.v12
    have h6 := ho.b6
    have hkp := kpow (K := K) (n := cntB F b (fV F)) (by omega) h5
    have hdv := Nat.div_le_self w (K ^ i)
    have hi : cntB F b (fV F) = i := by omega
    subst hi
    exact absurd hv0 (Nat.not_lt_zero _)
  | succ j ih =>
    intro i  μ hi ho hv0 hv1
    have hbd := ho.b
    have h12 := ho.v12
    have h6 := ho.b6
    have hkp := kpow (K := K) (n := cntB F b (fV F)) (by omega) h5
    have hdv := Nat.div_le_self w (K ^ i)
    have hilt : i < cntB F b (fV F) := by omega
    have ei : (nI i).toNatClampNeg = i := nI_clamp (by omega)
    rw [nI_pred]
    obtain ⟨v0, hv, hbv, hcv⟩ := cnt_ex (F := F) (b := b) (fV F) j (by omega)
    have er : nI (w / K ^ i) - nI (w / K ^ i) / nI K * nI K = nI (w / K ^ i % K) := pk_rem (by omega) (by omega) (by omega)
    have ed : nI (w / K ^ i) / nI K = nI (w / K ^ (i + 1)) := by rw [pk_div (by omega) (by omega) (by omega), div_pow]
    have hne : ¬ nI K = 0 := nI_ne0 (by omega) (by omega)
    have hvj : vp_in (nI j) 5 := vp_in_nI (by omega) (by omega)
    have ej : (nI j).toNatClampNeg = j := nI_clamp (by omega)
    have hmo : μ.1 73 j = nI v0 := by rw [hv1, ← hcv]; exact (hmv v0 hv hbv).1
    have hdl : w / K ^ i % K < K := Nat.mod_lt _ (by omega)
    have eij : cntB F b (fV F) - 1 - j = i := by omega
    refine zb C_bellIn_s28 rfl ?_
    refine z_lt C_bellIn_d30 (tgt := 68) rfl (fun h30 => absurd h30 (nI_pos (by omega))) (fun h30 => ?_)
    refine zb1 C_bellIn_s33 rfl hvj ?_
    refine z_cne C_bellIn_d42 (tgt := 55) rfl (fun h42 => ?_) (fun h42 => ?_)
    · refine zb1 C_bellIn_s55 rfl hne ?_
      rw [ej, hmo] at h42
      rw [ed, show nI j + (-1) = nI j - 1 from (Int32.sub_eq_add_neg ..).symm]
      refine ih (i + 1) _ (by omega) ho ?_ hv1
      have hne2 : ¬ cntB F b u = j := fun z => h42 (by rw [cnt_inj hbu hbv (z.trans hcv.symm)])
      omega
    · refine zb1 C_bellIn_s45 rfl hne ?_
      rw [er]
      refine zcallS C_bellIn_d51 k1_94 (by omega) (x_other (by omega) (by omega)) rfl rfl (Nat.le_of_ble_eq_true rfl) ?_
      rintro _ μx ⟨rfl, hx⟩
      rw [hx]
      clear hx μx
      refine z_ret C_bellIn_d54 rfl ?_
      rw [ej, hmo] at h42
      have e : v0 = u := (nI_eq (by omega) (by omega)).mp h42
      rw [leaf_dig hw hu, if_pos hbu, ← e, hcv, eij]
      exact ⟨rfl, hv1⟩

set_option maxRecDepth 100000 in
set_option maxHeartbeats 4000000 in
theorem x_bellIn {g : zG} {d : Nat} {F : zF} {μ0 : zMem} {u : Nat} {b K w : Nat} {day h : Int32} (hF : okF F) (hd : 5 ≤ d) (hb : b < fB F) (hK : K = fB F - 1) (hK1 : 1 ≤ K) (h5 : cntB F b (fV F) ≤ 5) (hw : w < K ^ cntB F b (fV F)) (hmv : mvd F b day h (fV F) μ0) (hu : u < fV F) (hbu : fbell F u = nI b) (ho : oX F μ0) : zM g d C_bellIn [.ref 6, .int (nI w), .int (nI (cntB F b (fV F))), .int (nI b), .int (nI u)] μ0 (fun r μ' => r = some (.int (fbell (leafF b K (fV F) 0 F w) u)) ∧ μ' = μ0) := by
  refine zM_of (by decide +kernel) rfl rfl (Nat.le_of_ble_eq_true rfl) rfl ?_
  have h6 := ho.b6
  have hb1 : μ0.1 2 7 - 1 = nI K := by rw [ho.b, show (1 : Int32) = nI 1 from rfl, pk_sub (by omega), hK]
  refine zb C_bellIn_s0 rfl ?_
  rw [hb1]
  refine z_cge C_bellIn_d14 (tgt := 20) rfl (fun h14 => ?_) (fun h14 => absurd (nI_le (a := 1) hK1 (by omega)) h14)
  refine zb C_bellIn_s20 rfl ?_
  have h := w_bellIn (g := g) hF hd hb hK hK1 h5 hw hmv hu hbu (cntB F b (fV F)) 0 μ0 (by omega) ho (cnt_lt hu hbu) rfl
  rw [Nat.pow_zero, Nat.div_one] at h
  exact h

set_option maxRecDepth 100000 in
set_option maxHeartbeats 4000000 in
theorem x_bellInX {g : zG} {d : Nat} {F : zF} {μ0 : zMem} {u : Nat} {x : Int32} (hxu : x = nI u) {b K w : Nat} {day h : Int32} (hF : okF F) (hd : 5 ≤ d) (hb : b < fB F) (hK : K = fB F - 1) (hK1 : 1 ≤ K) (h5 : cntB F b (fV F) ≤ 5) (hw : w < K ^ cntB F b (fV F)) (hmv : mvd F b day h (fV F) μ0) (hu : u < fV F) (hbu : fbell F u = nI b) (ho : oX F μ0) : zM g d C_bellIn [.ref 6, .int (nI w), .int (nI (cntB F b (fV F))), .int (nI b), .int x] μ0 (fun r μ' => r = some (.int (fbell (leafF b K (fV F) 0 F w) u)) ∧ μ' = μ0) := by
  subst hxu
  exact x_bellIn hF hd hb hK hK1 h5 hw hmv hu hbu ho

set_option maxRecDepth 100000 in
set_option maxHeartbeats 4000000 in
theorem w_ways {g : zG} {d : Nat} {F : zF} {μ0 : zMem} {b K : Nat} {day h x : Int32} (hF : okF F) (hd : 6 ≤ d) (hb : b < fB F) (hK : K = fB F - 1) (hK1 : 1 ≤ K) (h5 : cntB F b (fV F) ≤ 5) {x8 x9 x10 : Option Value} {Q : Option Value → zMem → Prop} (hQ : zW g C_meltDown d 63 [some (.ref 6), some (.int (nI b)), some (.int day), some (.int h), some (.int x), some (.int (nI (cntB F b (fV F)))), some (.int (nI (K ^ cntB F b (fV F)))), some (.int (nI (cntB F b (fV F)))), x8, x9, x10] [] μ0 Q) : ∀ (j i : Nat) (μ : zMem), i + j = cntB F b (fV F) → oX F μ → (μ = μ0) → zW g C_meltDown d 36 [some (.ref 6), some (.int (nI b)), some (.int day), some (.int h), some (.int x), some (.int (nI (cntB F b (fV F)))), some (.int (nI (K ^ i))), some (.int (nI i)), x8, x9, x10] [] μ (Q) := by
  intro j
  induction j with
  | zero =>
    intro i  μ hi ho hv0
    have hbd := ho.b
    have h12 := ho.v12
    have h6 := ho.b6
    have hkp := kpow (K := K) (n := cntB F b (fV F)) (by omega) h5
    have hi : cntB F b (fV F) = i := by omega
    subst hi
    refine zb C_meltDown_s36 rfl ?_
    refine z_cge C_meltDown_d40 (tgt := 63) rfl (fun h40 => ?_) (fun h40 => absurd (Int32.le_refl _) h40)
    rw [hv0]
    exact hQ
  | succ j ih =>
    intro i  μ hi ho hv0
    have hbd := ho.b
    have h12 := ho.v12
    have h6 := ho.b6
    have hkp := kpow (K := K) (n := cntB F b (fV F)) (by omega) h5
    have hilt : i < cntB F b (fV F) := by omega
    have ei : (nI i).toNatClampNeg = i := nI_clamp (by omega)
    have hb1 : μ.1 2 7 - 1 = nI K := by rw [ho.b, show (1 : Int32) = nI 1 from rfl, pk_sub (by omega), hK]
    refine zb C_meltDown_s36 rfl ?_
    refine z_cge C_meltDown_d40 (tgt := 63) rfl (fun h40 => absurd h40 (nI_ge hilt (by omega))) (fun h40 => ?_)
    refine zb C_meltDown_s43 rfl ?_
    rw [hb1, pk_mul, ← Nat.pow_succ, nI_1]
    exact ih (i + 1) _ (by omega) ho hv0

set_option maxRecDepth 100000 in
set_option maxHeartbeats 4000000 in
theorem w_meltB {g : zG} {d : Nat} {F : zF} {μ0 : zMem} {met : Nat → Int32} {b K : Nat} {day h x : Int32} (hF : okF F) (hd : 6 ≤ d) (hb : b < fB F) (hK : K = fB F - 1) (hK1 : 1 ≤ K) (h5 : cntB F b (fV F) ≤ 5) {Q : Option Value → zMem → Prop} (hmv : mvd F b day h (fV F) μ0) (h69 : ∀ q, q < 6 → μ0.1 69 q = offW F day h (nI (lyA F b)) q) (hQ : ∀ (bst : Nat) (few : Int32) (μ : zMem) (x10 : Option Value), oX F μ → zq (n1 70) μ0 μ → bst < K ^ cntB F b (fV F) → zfold (fun w st => updM day h (leafF b K (fV F) 0 F w) st) 0 (K ^ cntB F b (fV F)) (-1, met) = (few, fbell (leafF b K (fV F) 0 F bst)) → zW g C_meltDown d 112 [some (.ref 6), some (.int (nI b)), some (.int day), some (.int h), some (.int x), some (.int (nI (cntB F b (fV F)))), some (.int (nI (K ^ cntB F b (fV F)))), some (.int (nI bst)), some (.int few), some (.int (nI (K ^ cntB F b (fV F)))), x10] [] μ Q) : ∀ (j i : Nat) (bst : Nat) (few : Int32) (x10 : Option Value) (μ : zMem), i + j = K ^ cntB F b (fV F) → oX F μ → zq (n1 70) μ0 μ → ((i = 0 ∧ bst = 0 ∧ few = 7) ∨ (bst < K ^ cntB F b (fV F) ∧ (∃ k, k ≤ 6 ∧ few = nI k) ∧ zfold (fun w st => updM day h (leafF b K (fV F) 0 F w) st) 0 i (-1, met) = (few, fbell (leafF b K (fV F) 0 F bst)))) → zW g C_meltDown d 73 [some (.ref 6), some (.int (nI b)), some (.int day), some (.int h), some (.int x), some (.int (nI (cntB F b (fV F)))), some (.int (nI (K ^ cntB F b (fV F)))), some (.int (nI bst)), some (.int few), some (.int (nI i)), x10] [] μ (Q) := by
  intro j
  induction j with
  | zero =>
    intro i bst few x10 μ hi ho hz hv0
    have hbd := ho.b
    have h12 := ho.v12
    have h6 := ho.b6
    have hkp := kpow (K := K) (n := cntB F b (fV F)) (by omega) h5
    have hi : K ^ cntB F b (fV F) = i := by omega
    subst hi
    refine zb C_meltDown_s73 rfl ?_
    refine z_cge C_meltDown_d77 (tgt := 112) rfl (fun h77 => ?_) (fun h77 => absurd (Int32.le_refl _) h77)
    rcases hv0 with ⟨z, -, -⟩ | ⟨z1, -, z3⟩
    · exact absurd z (Nat.ne_of_gt (Nat.pow_pos hK1))
    · exact hQ bst few μ _ ho hz z1 z3
  | succ j ih =>
    intro i bst few x10 μ hi ho hz hv0
    have hbd := ho.b
    have h12 := ho.v12
    have h6 := ho.b6
    have hkp := kpow (K := K) (n := cntB F b (fV F)) (by omega) h5
    have hilt : i < K ^ cntB F b (fV F) := by omega
    have ei : (nI i).toNatClampNeg = i := nI_clamp (by omega)
    have hmv2 : mvd F b day h (fV F) μ := fun v hv hbv => by
      have k := hmv v hv hbv
      exact ⟨by rw [hz.1 73 _ rfl]; exact k.1, fun q hq => by rw [hz.1 74 _ rfl]; exact k.2 q hq⟩
    have h69b : ∀ q, q < 6 → μ.1 69 q = offW F day h (nI (lyA F b)) q := fun q hq => by rw [hz.1 69 q rfl]; exact h69 q hq
    obtain ⟨ko, hko, eko⟩ := many_le (F := leafF b K (fV F) 0 F i) (day := day) (h := h) (by rw [(leaf_V (b := b) (K := K) (fV F) 0 F i).2.1]; exact h6)
    have hz0 : zfold (fun w st => updM day h (leafF b K (fV F) 0 F w) st) 0 (i + 1) (-1, met) = updM day h (leafF b K (fV F) 0 F i) (zfold (fun w st => updM day h (leafF b K (fV F) 0 F w) st) 0 i (-1, met)) := by rw [zf0]
    refine zb C_meltDown_s73 rfl ?_
    refine z_cge C_meltDown_d77 (tgt := 112) rfl (fun h77 => absurd h77 (nI_ge hilt (by omega))) (fun h77 => ?_)
    refine zb C_meltDown_s80 rfl ?_
    refine zcallV C_meltDown_d86 k1_76 (by omega) (x_offA (w := i) hF (by omega) hb hK hK1 h5 hilt hmv2 h69b ho) rfl rfl rfl (Nat.le_of_ble_eq_true rfl) ?_
    rintro _ μ1 ⟨rfl, hz1⟩
    have hzx := hz1.mono (n1_sX (fun _ => rfl))
    refine zb C_meltDown_s89 rfl ?_
    refine z_cge C_meltDown_d95 (tgt := 106) rfl (fun h95 => ?_) (fun h95 => ?_)
    · refine zb C_meltDown_s106 rfl ?_
      rw [nI_1]
      rw [eko] at h95
      first
        | (have e : zfold (fun w st => updM day h (leafF b K (fV F) 0 F w) st) 0 (i + 1) (-1, met) = (nI ko, fbell (leafF b K (fV F) 0 F i)) := by
             rw [hz0, updM_eq, eko]
             refine if_neg (fun z => ?_)
             rcases hv0 with ⟨a1, -, -⟩ | ⟨-, -, a3⟩
             · rw [a1] at z
               exact z.1 (show (-1 : Int32) < 0 by decide)
             · rw [a3] at z
               exact z.2 (Int32.not_le.mp h95)
           rw [eko]
           exact ih (i + 1) i (nI ko) _ _ (by omega) (ho.q hzx) (hz.tr hz1) (Or.inr ⟨hilt, ⟨ko, hko, rfl⟩, e⟩))
        | (rcases hv0 with ⟨-, -, a3⟩ | ⟨a1, ⟨kf, hkf, a2⟩, a3⟩
           · rw [a3] at h95
             exact absurd h95 (nI_ge (b := 7) (by omega) (by omega))
           · have e : zfold (fun w st => updM day h (leafF b K (fV F) 0 F w) st) 0 (i + 1) (-1, met) = (few, fbell (leafF b K (fV F) 0 F bst)) := by
               rw [hz0, a3, updM_eq, eko]
               refine if_pos ⟨?_, Int32.not_lt.mpr h95⟩
               show ¬ few < 0
               rw [a2]
               exact nI_pos (by omega)
             exact ih (i + 1) bst few _ _ (by omega) (ho.q hzx) (hz.tr hz1) (Or.inr ⟨a1, ⟨kf, hkf, a2⟩, e⟩))
    · refine zb C_meltDown_s98 rfl ?_
      rw [nI_1]
      rw [eko] at h95
      first
        | (have e : zfold (fun w st => updM day h (leafF b K (fV F) 0 F w) st) 0 (i + 1) (-1, met) = (nI ko, fbell (leafF b K (fV F) 0 F i)) := by
             rw [hz0, updM_eq, eko]
             refine if_neg (fun z => ?_)
             rcases hv0 with ⟨a1, -, -⟩ | ⟨-, -, a3⟩
             · rw [a1] at z
               exact z.1 (show (-1 : Int32) < 0 by decide)
             · rw [a3] at z
               exact z.2 (Int32.not_le.mp h95)
           rw [eko]
           exact ih (i + 1) i (nI ko) _ _ (by omega) (ho.q hzx) (hz.tr hz1) (Or.inr ⟨hilt, ⟨ko, hko, rfl⟩, e⟩))
        | (rcases hv0 with ⟨-, -, a3⟩ | ⟨a1, ⟨kf, hkf, a2⟩, a3⟩
           · rw [a3] at h95
             exact absurd h95 (nI_ge (b := 7) (by omega) (by omega))
           · have e : zfold (fun w st => updM day h (leafF b K (fV F) 0 F w) st) 0 (i + 1) (-1, met) = (few, fbell (leafF b K (fV F) 0 F bst)) := by
               rw [hz0, a3, updM_eq, eko]
               refine if_pos ⟨?_, Int32.not_lt.mpr h95⟩
               show ¬ few < 0
               rw [a2]
               exact nI_pos (by omega)
             exact ih (i + 1) bst few _ _ (by omega) (ho.q hzx) (hz.tr hz1) (Or.inr ⟨a1, ⟨kf, hkf, a2⟩, e⟩))

set_option maxRecDepth 100000 in
set_option maxHeartbeats 4000000 in
theorem x_meltDown {g : zG} {d : Nat} {F : zF} {μ : zMem} {met : Nat → Int32} {b K : Nat} {day h x : Int32} (hF : okF F) (hd : 6 ≤ d) (hb : b < fB F) (hK : K = fB F - 1) (hK1 : 1 ≤ K) (h5 : cntB F b (fV F) ≤ 5) (hx : x < 0 ∨ ∃ u, u < fV F ∧ fbell F u = nI b ∧ x = nI u) (ho : oX F μ) : zM g d C_meltDown [.ref 6, .int (nI b), .int day, .int h, .int x] μ (fun r μ' => r = some (.int (if x < 0 then (melS (nI b) day h (fV F) 0 F (-1, met)).1 else (melS (nI b) day h (fV F) 0 F (-1, met)).2 x.toNatClampNeg)) ∧ zq sX μ μ') := by
  refine zM_of (by decide +kernel) rfl rfl (Nat.le_of_ble_eq_true rfl) rfl ?_
  have h12 := ho.v12
  have h6 := ho.b6
  refine zb C_meltDown_s0 rfl ?_
  refine zcallV C_meltDown_d4 k1_68 (by omega) (x_moveAll hF (by omega) h5 (by omega) ho) rfl rfl rfl (Nat.le_of_ble_eq_true rfl) ?_
  rintro _ μ1 ⟨rfl, hz1, hmv1⟩
  have hzx1 := hz1.mono mM_sX
  have ho1 := ho.q hzx1
  refine zb C_meltDown_s7 rfl ?_
  refine zcallV C_meltDown_d24 k1_72 (by omega) (x_vowsIn _ ho1) rfl rfl rfl (Nat.le_of_ble_eq_true rfl) ?_
  rintro _ μx ⟨rfl, hx⟩
  rw [hx]
  clear hx μx
  refine zcallV C_meltDown_d27 k1_40 (by omega) (x_fillOffsN (wo := setOf F (nI b)) hF (by omega) ho1) rfl rfl rfl (Nat.le_of_ble_eq_true rfl) ?_
  rintro _ μ2 ⟨rfl, hz2, hr2⟩
  have hzx2 := hz2.mono (n1_sX (fun _ => rfl))
  have ho2 := ho1.q hzx2
  rw [set_is h12 b] at hr2
  have hmv2 : mvd F b day h (fV F) μ2 := fun v hv hbv => by
    have k := hmv1 v hv hbv
    exact ⟨by rw [hz2.1 73 _ rfl]; exact k.1, fun q hq => by rw [hz2.1 74 _ rfl]; exact k.2 q hq⟩
  refine zb C_meltDown_s30 rfl ?_
  refine w_ways hF hd hb hK hK1 h5 ?_ (cntB F b (fV F)) 0 μ2 (by omega) ho2 rfl
  refine zb C_meltDown_s63 rfl ?_
  refine w_meltB (met := met) hF hd hb hK hK1 h5 hmv2 hr2 (fun b3 f3 μ3 y10 ho3 hz3 hb3 he3 => ?_) (K ^ cntB F b (fV F)) 0 0 7 _ μ2 (by omega) ho2 zq.rf (Or.inl ⟨rfl, rfl, rfl⟩)
  have hmv3 : mvd F b day h (fV F) μ3 := fun v hv hbv => by
    have k := hmv2 v hv hbv
    exact ⟨by rw [hz3.1 73 _ rfl]; exact k.1, fun q hq => by rw [hz3.1 74 _ rfl]; exact k.2 q hq⟩
  have hmel : melS (nI b) day h (fV F) 0 F (-1, met) = (f3, fbell (leafF b K (fV F) 0 F b3)) := by
    rw [melS_is (show b < 6 by omega) (fV F) 0 F (-1, met) hb hK h6, rem_cnt]
    exact he3
  have hxu : 0 ≤ x → x.toNatClampNeg < fV F ∧ fbell F x.toNatClampNeg = nI b ∧ x = nI x.toNatClampNeg := fun z => by
    rcases hx with y | ⟨u, u1, u2, u3⟩
    · exact absurd y (Int32.not_lt.mpr z)
    · have e : x.toNatClampNeg = u := by rw [u3]; exact nI_clamp (by omega)
      rw [e]
      exact ⟨u1, u2, u3⟩
  refine zb C_meltDown_s112 rfl ?_
  refine z_ge C_meltDown_d114 (tgt := 122) rfl (fun h114 => ?_) (fun h114 => ?_)
  · refine zb C_meltDown_s122 rfl ?_
    refine zcallV C_meltDown_d130 k1_79 (by omega) (x_bellInX (u := x.toNatClampNeg) (hxu h114).2.2 hF (by omega) hb hK hK1 h5 hb3 hmv3 (hxu h114).1 (hxu h114).2.1 ho3) rfl rfl rfl (Nat.le_of_ble_eq_true rfl) ?_
    rintro _ μx ⟨rfl, hx⟩
    rw [hx]
    clear hx μx
    refine z_ret C_meltDown_d133 rfl ?_
    refine ⟨congrArg (fun z => some (Value.int z)) ?_, ((hzx1.tr hzx2).tr (hz3.mono (n1_sX (fun _ => rfl))))⟩
    rw [hmel]
    first
      | exact (if_neg (Int32.not_lt.mpr h114)).symm
      | exact (if_pos (Int32.not_le.mp h114)).symm
  · refine zb C_meltDown_s117 rfl ?_
    refine z_ret C_meltDown_d133 rfl ?_
    refine ⟨congrArg (fun z => some (Value.int z)) ?_, ((hzx1.tr hzx2).tr (hz3.mono (n1_sX (fun _ => rfl))))⟩
    rw [hmel]
    first
      | exact (if_neg (Int32.not_lt.mpr h114)).symm
      | exact (if_pos (Int32.not_le.mp h114)).symm

theorem vm1 {V : Nat} {v : Int32} (hV : V ≤ 12) : (-1 ≤ v ∧ v ≤ nI V - 1) ↔ (v = -1 ∨ (0 ≤ v ∧ v < nI V)) := by
  have e1 : (nI V - 1).toInt = (V : Int) - 1 := pk_sub_toInt (a := V) (b := 1) (by omega) (by decide)
  rw [Int32.le_iff_toInt_le, Int32.le_iff_toInt_le, Int32.le_iff_toInt_le, Int32.lt_iff_toInt_lt, ← Int32.toInt_inj, e1, nI_toInt (by omega), show (-1 : Int32).toInt = -1 from rfl, show (0 : Int32).toInt = 0 from rfl]
  omega

set_option maxRecDepth 100000 in
set_option maxHeartbeats 4000000 in
theorem x_melt {g : zG} {d : Nat} {F : zF} {μ : zMem} {met : Nat → Int32} {b dh v : Int32} (hF : okF F) (hd9 : 7 ≤ d) (ho : oX F μ) : zM g d X_melt [.ref 1, .int b, .int dh, .int v] μ (fun r μ' => r = some (.int (sMelt F met b dh v)) ∧ zq sX μ μ') := by
  refine zM_of (by decide +kernel) rfl rfl (Nat.le_of_ble_eq_true rfl) rfl ?_
  have hz : zq sX μ μ := zq.rf
  have h12 := ho.v12
  have h6 := ho.b6
  refine zb X_melt_s0 rfl ?_
  refine zcallV X_melt_d5 k10_167 (by omega) (x_hasBell _ ho) rfl rfl rfl (Nat.le_of_ble_eq_true rfl) ?_
  rintro _ μx ⟨rfl, hx⟩
  rw [hx]
  clear hx μx
  refine z_eq X_melt_d8 (tgt := 34) rfl (fun h8 => ?_) (fun h8 => ?_)
  · refine zb X_melt_s34 rfl ?_
    refine z_ret X_melt_d35 rfl ?_
    refine ⟨congrArg (fun z => some (Value.int z)) ?_, hz⟩
    unfold sMelt
    first
      | (refine (if_neg (fun z => ?_)).symm
         first
           | exact (show ¬ isB F b from zB_eq0.mp h8) z.1
           | exact (show ¬ tim dh from zB_eq0.mp h15) z.2.1
           | exact ((vm1 ho.v12).mp z.2.2).elim h20 (show ¬ isV F v from zB_eq0.mp h31))
      | (rw [if_pos (And.intro q1 (And.intro q2 q3))]
         first
           | (have n5 : ¬ ¬ onesI (setOf F (nI b)) ≤ 5 := fun y => y o5
              rw [if_neg n5, if_neg hn2])
           | (have c2 : nI (fB F) < 2 := by rw [← ho.b]; exact h62
              rw [if_neg (fun y => y o5), if_pos (Or.inl c2)])
           | (rw [ho.e56] at h79
              rw [if_neg (fun y => y o5), if_pos (Or.inr (And.intro h66 h79))])
           | (have s5 : ¬ onesI (setOf F (nI b)) ≤ 5 := by
                rw [set_is ho.v12 b, ones_pop (lt_2 ho.v12 (lyA_lt F b))]
                exact h48
              rw [if_pos s5]))
  · refine zb X_melt_s11 rfl ?_
    refine zcallS X_melt_d12 k10_160 (by omega) (x_isDayHour _) rfl rfl (Nat.le_of_ble_eq_true rfl) ?_
    rintro _ μx ⟨rfl, hx⟩
    rw [hx]
    clear hx μx
    refine z_eq X_melt_d15 (tgt := 34) rfl (fun h15 => ?_) (fun h15 => ?_)
    · refine zb X_melt_s34 rfl ?_
      refine z_ret X_melt_d35 rfl ?_
      refine ⟨congrArg (fun z => some (Value.int z)) ?_, hz⟩
      unfold sMelt
      first
        | (refine (if_neg (fun z => ?_)).symm
           first
             | exact (show ¬ isB F b from zB_eq0.mp h8) z.1
             | exact (show ¬ tim dh from zB_eq0.mp h15) z.2.1
             | exact ((vm1 ho.v12).mp z.2.2).elim h20 (show ¬ isV F v from zB_eq0.mp h31))
        | (rw [if_pos (And.intro q1 (And.intro q2 q3))]
           first
             | (have n5 : ¬ ¬ onesI (setOf F (nI b)) ≤ 5 := fun y => y o5
                rw [if_neg n5, if_neg hn2])
             | (have c2 : nI (fB F) < 2 := by rw [← ho.b]; exact h62
                rw [if_neg (fun y => y o5), if_pos (Or.inl c2)])
             | (rw [ho.e56] at h79
                rw [if_neg (fun y => y o5), if_pos (Or.inr (And.intro h66 h79))])
             | (have s5 : ¬ onesI (setOf F (nI b)) ≤ 5 := by
                  rw [set_is ho.v12 b, ones_pop (lt_2 ho.v12 (lyA_lt F b))]
                  exact h48
                rw [if_pos s5]))
    · refine zb X_melt_s18 rfl ?_
      refine z_ceq X_melt_d20 (tgt := 36) rfl (fun h20 => ?_) (fun h20 => ?_)
      · have q1 : isB F b := zB_ne0.mp h8
        have q2 : tim dh := zB_ne0.mp h15
        have q3 : -1 ≤ v ∧ v ≤ nI (fV F) - 1 := (vm1 ho.v12).mpr (by first | exact Or.inl h20 | exact Or.inr (zB_ne0.mp h31))
        have q3b := (vm1 ho.v12).mp q3
        obtain ⟨b, hbB, rfl, eb⟩ := zix q1.1 q1.2 (by have := ho.b6; omega)
        refine zb X_melt_s36 rfl ?_
        refine zcallV X_melt_d41 k10_264 (by omega) (x_vowsIn _ ho) rfl rfl rfl (Nat.le_of_ble_eq_true rfl) ?_
        rintro _ μx ⟨rfl, hx⟩
        rw [hx]
        clear hx μx
        rw [set_is ho.v12 b]
        refine zcallS X_melt_d44 k10_229 (by omega) (x_bitCount (lt_2 ho.v12 (lyA_lt F b))) rfl rfl (Nat.le_of_ble_eq_true rfl) ?_
        rintro _ μx ⟨rfl, hx⟩
        rw [hx]
        clear hx μx
        refine zb X_melt_s47 rfl ?_
        refine z_cle X_melt_d48 (tgt := 54) rfl (fun h48 => ?_) (fun h48 => ?_)
        · have h5 : cntB F b (fV F) ≤ 5 := by
            rw [cnt_pop ho.v12]
            have hpl := popN_le 12 (lyA F b)
            exact (nI_leI (b := 5) (by omega) (by omega)).mp h48
          have o5 : onesI (setOf F (nI b)) ≤ 5 := by
            rw [set_is ho.v12 b, ones_pop (lt_2 ho.v12 (lyA_lt F b))]
            exact h48
          refine zb X_melt_s54 rfl ?_
          refine z_clt X_melt_d62 (tgt := 82) rfl (fun h62 => ?_) (fun h62 => ?_)
          · refine zb X_melt_s82 rfl ?_
            refine z_ret X_melt_d84 rfl ?_
            refine ⟨congrArg (fun z => some (Value.int z)) ?_, hz⟩
            unfold sMelt
            first
              | (refine (if_neg (fun z => ?_)).symm
                 first
                   | exact (show ¬ isB F b from zB_eq0.mp h8) z.1
                   | exact (show ¬ tim dh from zB_eq0.mp h15) z.2.1
                   | exact ((vm1 ho.v12).mp z.2.2).elim h20 (show ¬ isV F v from zB_eq0.mp h31))
              | (rw [if_pos (And.intro q1 (And.intro q2 q3))]
                 first
                   | (have n5 : ¬ ¬ onesI (setOf F (nI b)) ≤ 5 := fun y => y o5
                      rw [if_neg n5, if_neg hn2])
                   | (have c2 : nI (fB F) < 2 := by rw [← ho.b]; exact h62
                      rw [if_neg (fun y => y o5), if_pos (Or.inl c2)])
                   | (rw [ho.e56] at h79
                      rw [if_neg (fun y => y o5), if_pos (Or.inr (And.intro h66 h79))])
                   | (have s5 : ¬ onesI (setOf F (nI b)) ≤ 5 := by
                        rw [set_is ho.v12 b, ones_pop (lt_2 ho.v12 (lyA_lt F b))]
                        exact h48
                      rw [if_pos s5]))
          · refine zb X_melt_s65 rfl ?_
            refine z_lt X_melt_d66 (tgt := 85) rfl (fun h66 => ?_) (fun h66 => ?_)
            · have hB2 : 2 ≤ fB F := by
                rw [ho.b] at h62
                exact (nI_leI (a := 2) (by omega) (by have := ho.b6; omega)).mp (Int32.not_lt.mp h62)
              have hB2n : ¬ nI (fB F) < 2 := nI_nlt (a := fB F) (b := 2) hB2 (by have := ho.b6; omega)
              have hx9 : v < 0 ∨ ∃ u7, u7 < fV F ∧ fbell F u7 = nI b ∧ v = nI u7 := by
                first
                  | exact Or.inl h66
                  | (rw [ho.e56, eu] at h79
                     exact Or.inr ⟨u, huV, h79, rfl⟩)
              have hn2 : ¬ (nI (fB F) < 2 ∨ (¬ v < 0 ∧ ¬ fbell F v.toNatClampNeg = nI b)) := fun y => y.elim hB2n (fun z => by
                rcases hx9 with y2 | ⟨u2, y3, y4, y5⟩
                · exact z.1 y2
                · refine z.2 ?_
                  rw [y5, nI_clamp (by have := ho.v12; omega)]
                  exact y4)
              refine zb2 X_melt_s85 rfl (by decide) (by decide) ?_
              refine zcallV X_melt_d99 k10_270 (by omega) (x_meltDown (met := met) (K := fB F - 1) (h := hro dh) hF (by omega) hbB rfl (by omega) h5 hx9 ho) rfl rfl rfl (Nat.le_of_ble_eq_true rfl) ?_
              rintro _ μ1 ⟨rfl, hz1⟩
              replace hz := hz.tr hz1
              replace ho := ho.q hz1
              clear hz1
              refine z_ret X_melt_d102 rfl ?_
              refine ⟨congrArg (fun z => some (Value.int z)) ?_, hz⟩
              unfold sMelt
              first
                | (refine (if_neg (fun z => ?_)).symm
                   first
                     | exact (show ¬ isB F b from zB_eq0.mp h8) z.1
                     | exact (show ¬ tim dh from zB_eq0.mp h15) z.2.1
                     | exact ((vm1 ho.v12).mp z.2.2).elim h20 (show ¬ isV F v from zB_eq0.mp h31))
                | (rw [if_pos (And.intro q1 (And.intro q2 q3))]
                   first
                     | (have n5 : ¬ ¬ onesI (setOf F (nI b)) ≤ 5 := fun y => y o5
                        rw [if_neg n5, if_neg hn2])
                     | (have c2 : nI (fB F) < 2 := by rw [← ho.b]; exact h62
                        rw [if_neg (fun y => y o5), if_pos (Or.inl c2)])
                     | (rw [ho.e56] at h79
                        rw [if_neg (fun y => y o5), if_pos (Or.inr (And.intro h66 h79))])
                     | (have s5 : ¬ onesI (setOf F (nI b)) ≤ 5 := by
                          rw [set_is ho.v12 b, ones_pop (lt_2 ho.v12 (lyA_lt F b))]
                          exact h48
                        rw [if_pos s5]))
            · have hvV : 0 ≤ v ∧ v < nI (fV F) := q3b.resolve_left (fun z => by rw [z] at h66; exact absurd h66 (by decide))
              obtain ⟨u, huV, rfl, eu⟩ := zix hvV.1 hvV.2 (by have := ho.v12; omega)
              have hvu : vp_in (nI u) 12 := vp_in_nI (by have := ho.v12; omega) (by omega)
              refine zb1 X_melt_s69 rfl hvu ?_
              refine z_ceq X_melt_d79 (tgt := 85) rfl (fun h79 => ?_) (fun h79 => ?_)
              · have hB2 : 2 ≤ fB F := by
                  rw [ho.b] at h62
                  exact (nI_leI (a := 2) (by omega) (by have := ho.b6; omega)).mp (Int32.not_lt.mp h62)
                have hB2n : ¬ nI (fB F) < 2 := nI_nlt (a := fB F) (b := 2) hB2 (by have := ho.b6; omega)
                have hx9 : (nI u) < 0 ∨ ∃ u7, u7 < fV F ∧ fbell F u7 = nI b ∧ (nI u) = nI u7 := by
                  first
                    | exact Or.inl h66
                    | (rw [ho.e56, eu] at h79
                       exact Or.inr ⟨u, huV, h79, rfl⟩)
                have hn2 : ¬ (nI (fB F) < 2 ∨ (¬ (nI u) < 0 ∧ ¬ fbell F (nI u).toNatClampNeg = nI b)) := fun y => y.elim hB2n (fun z => by
                  rcases hx9 with y2 | ⟨u2, y3, y4, y5⟩
                  · exact z.1 y2
                  · refine z.2 ?_
                    rw [y5, nI_clamp (by have := ho.v12; omega)]
                    exact y4)
                refine zb2 X_melt_s85 rfl (by decide) (by decide) ?_
                refine zcallV X_melt_d99 k10_270 (by omega) (x_meltDown (met := met) (K := fB F - 1) (h := hro dh) hF (by omega) hbB rfl (by omega) h5 hx9 ho) rfl rfl rfl (Nat.le_of_ble_eq_true rfl) ?_
                rintro _ μ1 ⟨rfl, hz1⟩
                replace hz := hz.tr hz1
                replace ho := ho.q hz1
                clear hz1
                refine z_ret X_melt_d102 rfl ?_
                refine ⟨congrArg (fun z => some (Value.int z)) ?_, hz⟩
                unfold sMelt
                first
                  | (refine (if_neg (fun z => ?_)).symm
                     first
                       | exact (show ¬ isB F b from zB_eq0.mp h8) z.1
                       | exact (show ¬ tim dh from zB_eq0.mp h15) z.2.1
                       | exact ((vm1 ho.v12).mp z.2.2).elim h20 (show ¬ isV F v from zB_eq0.mp h31))
                  | (rw [if_pos (And.intro q1 (And.intro q2 q3))]
                     first
                       | (have n5 : ¬ ¬ onesI (setOf F (nI b)) ≤ 5 := fun y => y o5
                          rw [if_neg n5, if_neg hn2])
                       | (have c2 : nI (fB F) < 2 := by rw [← ho.b]; exact h62
                          rw [if_neg (fun y => y o5), if_pos (Or.inl c2)])
                       | (rw [ho.e56] at h79
                          rw [if_neg (fun y => y o5), if_pos (Or.inr (And.intro h66 h79))])
                       | (have s5 : ¬ onesI (setOf F (nI b)) ≤ 5 := by
                            rw [set_is ho.v12 b, ones_pop (lt_2 ho.v12 (lyA_lt F b))]
                            exact h48
                          rw [if_pos s5]))
              · refine zb X_melt_s82 rfl ?_
                refine z_ret X_melt_d84 rfl ?_
                refine ⟨congrArg (fun z => some (Value.int z)) ?_, hz⟩
                unfold sMelt
                first
                  | (refine (if_neg (fun z => ?_)).symm
                     first
                       | exact (show ¬ isB F b from zB_eq0.mp h8) z.1
                       | exact (show ¬ tim dh from zB_eq0.mp h15) z.2.1
                       | exact ((vm1 ho.v12).mp z.2.2).elim h20 (show ¬ isV F v from zB_eq0.mp h31))
                  | (rw [if_pos (And.intro q1 (And.intro q2 q3))]
                     first
                       | (have n5 : ¬ ¬ onesI (setOf F (nI b)) ≤ 5 := fun y => y o5
                          rw [if_neg n5, if_neg hn2])
                       | (have c2 : nI (fB F) < 2 := by rw [← ho.b]; exact h62
                          rw [if_neg (fun y => y o5), if_pos (Or.inl c2)])
                       | (rw [ho.e56] at h79
                          rw [if_neg (fun y => y o5), if_pos (Or.inr (And.intro h66 h79))])
                       | (have s5 : ¬ onesI (setOf F (nI b)) ≤ 5 := by
                            rw [set_is ho.v12 b, ones_pop (lt_2 ho.v12 (lyA_lt F b))]
                            exact h48
                          rw [if_pos s5]))
        · refine zb X_melt_s51 rfl ?_
          refine z_ret X_melt_d53 rfl ?_
          refine ⟨congrArg (fun z => some (Value.int z)) ?_, hz⟩
          unfold sMelt
          first
            | (refine (if_neg (fun z => ?_)).symm
               first
                 | exact (show ¬ isB F b from zB_eq0.mp h8) z.1
                 | exact (show ¬ tim dh from zB_eq0.mp h15) z.2.1
                 | exact ((vm1 ho.v12).mp z.2.2).elim h20 (show ¬ isV F v from zB_eq0.mp h31))
            | (rw [if_pos (And.intro q1 (And.intro q2 q3))]
               first
                 | (have n5 : ¬ ¬ onesI (setOf F (nI b)) ≤ 5 := fun y => y o5
                    rw [if_neg n5, if_neg hn2])
                 | (have c2 : nI (fB F) < 2 := by rw [← ho.b]; exact h62
                    rw [if_neg (fun y => y o5), if_pos (Or.inl c2)])
                 | (rw [ho.e56] at h79
                    rw [if_neg (fun y => y o5), if_pos (Or.inr (And.intro h66 h79))])
                 | (have s5 : ¬ onesI (setOf F (nI b)) ≤ 5 := by
                      rw [set_is ho.v12 b, ones_pop (lt_2 ho.v12 (lyA_lt F b))]
                      exact h48
                    rw [if_pos s5]))
      · refine zb X_melt_s23 rfl ?_
        refine zcallV X_melt_d28 k10_128 (by omega) (x_hasVow _ ho) rfl rfl rfl (Nat.le_of_ble_eq_true rfl) ?_
        rintro _ μx ⟨rfl, hx⟩
        rw [hx]
        clear hx μx
        refine z_ne X_melt_d31 (tgt := 36) rfl (fun h31 => ?_) (fun h31 => ?_)
        · have q1 : isB F b := zB_ne0.mp h8
          have q2 : tim dh := zB_ne0.mp h15
          have q3 : -1 ≤ v ∧ v ≤ nI (fV F) - 1 := (vm1 ho.v12).mpr (by first | exact Or.inl h20 | exact Or.inr (zB_ne0.mp h31))
          have q3b := (vm1 ho.v12).mp q3
          obtain ⟨b, hbB, rfl, eb⟩ := zix q1.1 q1.2 (by have := ho.b6; omega)
          refine zb X_melt_s36 rfl ?_
          refine zcallV X_melt_d41 k10_264 (by omega) (x_vowsIn _ ho) rfl rfl rfl (Nat.le_of_ble_eq_true rfl) ?_
          rintro _ μx ⟨rfl, hx⟩
          rw [hx]
          clear hx μx
          rw [set_is ho.v12 b]
          refine zcallS X_melt_d44 k10_229 (by omega) (x_bitCount (lt_2 ho.v12 (lyA_lt F b))) rfl rfl (Nat.le_of_ble_eq_true rfl) ?_
          rintro _ μx ⟨rfl, hx⟩
          rw [hx]
          clear hx μx
          refine zb X_melt_s47 rfl ?_
          refine z_cle X_melt_d48 (tgt := 54) rfl (fun h48 => ?_) (fun h48 => ?_)
          · have h5 : cntB F b (fV F) ≤ 5 := by
              rw [cnt_pop ho.v12]
              have hpl := popN_le 12 (lyA F b)
              exact (nI_leI (b := 5) (by omega) (by omega)).mp h48
            have o5 : onesI (setOf F (nI b)) ≤ 5 := by
              rw [set_is ho.v12 b, ones_pop (lt_2 ho.v12 (lyA_lt F b))]
              exact h48
            refine zb X_melt_s54 rfl ?_
            refine z_clt X_melt_d62 (tgt := 82) rfl (fun h62 => ?_) (fun h62 => ?_)
            · refine zb X_melt_s82 rfl ?_
              refine z_ret X_melt_d84 rfl ?_
              refine ⟨congrArg (fun z => some (Value.int z)) ?_, hz⟩
              unfold sMelt
              first
                | (refine (if_neg (fun z => ?_)).symm
                   first
                     | exact (show ¬ isB F b from zB_eq0.mp h8) z.1
                     | exact (show ¬ tim dh from zB_eq0.mp h15) z.2.1
                     | exact ((vm1 ho.v12).mp z.2.2).elim h20 (show ¬ isV F v from zB_eq0.mp h31))
                | (rw [if_pos (And.intro q1 (And.intro q2 q3))]
                   first
                     | (have n5 : ¬ ¬ onesI (setOf F (nI b)) ≤ 5 := fun y => y o5
                        rw [if_neg n5, if_neg hn2])
                     | (have c2 : nI (fB F) < 2 := by rw [← ho.b]; exact h62
                        rw [if_neg (fun y => y o5), if_pos (Or.inl c2)])
                     | (rw [ho.e56] at h79
                        rw [if_neg (fun y => y o5), if_pos (Or.inr (And.intro h66 h79))])
                     | (have s5 : ¬ onesI (setOf F (nI b)) ≤ 5 := by
                          rw [set_is ho.v12 b, ones_pop (lt_2 ho.v12 (lyA_lt F b))]
                          exact h48
                        rw [if_pos s5]))
            · refine zb X_melt_s65 rfl ?_
              refine z_lt X_melt_d66 (tgt := 85) rfl (fun h66 => ?_) (fun h66 => ?_)
              · have hB2 : 2 ≤ fB F := by
                  rw [ho.b] at h62
                  exact (nI_leI (a := 2) (by omega) (by have := ho.b6; omega)).mp (Int32.not_lt.mp h62)
                have hB2n : ¬ nI (fB F) < 2 := nI_nlt (a := fB F) (b := 2) hB2 (by have := ho.b6; omega)
                have hx9 : v < 0 ∨ ∃ u7, u7 < fV F ∧ fbell F u7 = nI b ∧ v = nI u7 := by
                  first
                    | exact Or.inl h66
                    | (rw [ho.e56, eu] at h79
                       exact Or.inr ⟨u, huV, h79, rfl⟩)
                have hn2 : ¬ (nI (fB F) < 2 ∨ (¬ v < 0 ∧ ¬ fbell F v.toNatClampNeg = nI b)) := fun y => y.elim hB2n (fun z => by
                  rcases hx9 with y2 | ⟨u2, y3, y4, y5⟩
                  · exact z.1 y2
                  · refine z.2 ?_
                    rw [y5, nI_clamp (by have := ho.v12; omega)]
                    exact y4)
                refine zb2 X_melt_s85 rfl (by decide) (by decide) ?_
                refine zcallV X_melt_d99 k10_270 (by omega) (x_meltDown (met := met) (K := fB F - 1) (h := hro dh) hF (by omega) hbB rfl (by omega) h5 hx9 ho) rfl rfl rfl (Nat.le_of_ble_eq_true rfl) ?_
                rintro _ μ1 ⟨rfl, hz1⟩
                replace hz := hz.tr hz1
                replace ho := ho.q hz1
                clear hz1
                refine z_ret X_melt_d102 rfl ?_
                refine ⟨congrArg (fun z => some (Value.int z)) ?_, hz⟩
                unfold sMelt
                first
                  | (refine (if_neg (fun z => ?_)).symm
                     first
                       | exact (show ¬ isB F b from zB_eq0.mp h8) z.1
                       | exact (show ¬ tim dh from zB_eq0.mp h15) z.2.1
                       | exact ((vm1 ho.v12).mp z.2.2).elim h20 (show ¬ isV F v from zB_eq0.mp h31))
                  | (rw [if_pos (And.intro q1 (And.intro q2 q3))]
                     first
                       | (have n5 : ¬ ¬ onesI (setOf F (nI b)) ≤ 5 := fun y => y o5
                          rw [if_neg n5, if_neg hn2])
                       | (have c2 : nI (fB F) < 2 := by rw [← ho.b]; exact h62
                          rw [if_neg (fun y => y o5), if_pos (Or.inl c2)])
                       | (rw [ho.e56] at h79
                          rw [if_neg (fun y => y o5), if_pos (Or.inr (And.intro h66 h79))])
                       | (have s5 : ¬ onesI (setOf F (nI b)) ≤ 5 := by
                            rw [set_is ho.v12 b, ones_pop (lt_2 ho.v12 (lyA_lt F b))]
                            exact h48
                          rw [if_pos s5]))
              · have hvV : 0 ≤ v ∧ v < nI (fV F) := q3b.resolve_left (fun z => by rw [z] at h66; exact absurd h66 (by decide))
                obtain ⟨u, huV, rfl, eu⟩ := zix hvV.1 hvV.2 (by have := ho.v12; omega)
                have hvu : vp_in (nI u) 12 := vp_in_nI (by have := ho.v12; omega) (by omega)
                refine zb1 X_melt_s69 rfl hvu ?_
                refine z_ceq X_melt_d79 (tgt := 85) rfl (fun h79 => ?_) (fun h79 => ?_)
                · have hB2 : 2 ≤ fB F := by
                    rw [ho.b] at h62
                    exact (nI_leI (a := 2) (by omega) (by have := ho.b6; omega)).mp (Int32.not_lt.mp h62)
                  have hB2n : ¬ nI (fB F) < 2 := nI_nlt (a := fB F) (b := 2) hB2 (by have := ho.b6; omega)
                  have hx9 : (nI u) < 0 ∨ ∃ u7, u7 < fV F ∧ fbell F u7 = nI b ∧ (nI u) = nI u7 := by
                    first
                      | exact Or.inl h66
                      | (rw [ho.e56, eu] at h79
                         exact Or.inr ⟨u, huV, h79, rfl⟩)
                  have hn2 : ¬ (nI (fB F) < 2 ∨ (¬ (nI u) < 0 ∧ ¬ fbell F (nI u).toNatClampNeg = nI b)) := fun y => y.elim hB2n (fun z => by
                    rcases hx9 with y2 | ⟨u2, y3, y4, y5⟩
                    · exact z.1 y2
                    · refine z.2 ?_
                      rw [y5, nI_clamp (by have := ho.v12; omega)]
                      exact y4)
                  refine zb2 X_melt_s85 rfl (by decide) (by decide) ?_
                  refine zcallV X_melt_d99 k10_270 (by omega) (x_meltDown (met := met) (K := fB F - 1) (h := hro dh) hF (by omega) hbB rfl (by omega) h5 hx9 ho) rfl rfl rfl (Nat.le_of_ble_eq_true rfl) ?_
                  rintro _ μ1 ⟨rfl, hz1⟩
                  replace hz := hz.tr hz1
                  replace ho := ho.q hz1
                  clear hz1
                  refine z_ret X_melt_d102 rfl ?_
                  refine ⟨congrArg (fun z => some (Value.int z)) ?_, hz⟩
                  unfold sMelt
                  first
                    | (refine (if_neg (fun z => ?_)).symm
                       first
                         | exact (show ¬ isB F b from zB_eq0.mp h8) z.1
                         | exact (show ¬ tim dh from zB_eq0.mp h15) z.2.1
                         | exact ((vm1 ho.v12).mp z.2.2).elim h20 (show ¬ isV F v from zB_eq0.mp h31))
                    | (rw [if_pos (And.intro q1 (And.intro q2 q3))]
                       first
                         | (have n5 : ¬ ¬ onesI (setOf F (nI b)) ≤ 5 := fun y => y o5
                            rw [if_neg n5, if_neg hn2])
                         | (have c2 : nI (fB F) < 2 := by rw [← ho.b]; exact h62
                            rw [if_neg (fun y => y o5), if_pos (Or.inl c2)])
                         | (rw [ho.e56] at h79
                            rw [if_neg (fun y => y o5), if_pos (Or.inr (And.intro h66 h79))])
                         | (have s5 : ¬ onesI (setOf F (nI b)) ≤ 5 := by
                              rw [set_is ho.v12 b, ones_pop (lt_2 ho.v12 (lyA_lt F b))]
                              exact h48
                            rw [if_pos s5]))
                · refine zb X_melt_s82 rfl ?_
                  refine z_ret X_melt_d84 rfl ?_
                  refine ⟨congrArg (fun z => some (Value.int z)) ?_, hz⟩
                  unfold sMelt
                  first
                    | (refine (if_neg (fun z => ?_)).symm
                       first
                         | exact (show ¬ isB F b from zB_eq0.mp h8) z.1
                         | exact (show ¬ tim dh from zB_eq0.mp h15) z.2.1
                         | exact ((vm1 ho.v12).mp z.2.2).elim h20 (show ¬ isV F v from zB_eq0.mp h31))
                    | (rw [if_pos (And.intro q1 (And.intro q2 q3))]
                       first
                         | (have n5 : ¬ ¬ onesI (setOf F (nI b)) ≤ 5 := fun y => y o5
                            rw [if_neg n5, if_neg hn2])
                         | (have c2 : nI (fB F) < 2 := by rw [← ho.b]; exact h62
                            rw [if_neg (fun y => y o5), if_pos (Or.inl c2)])
                         | (rw [ho.e56] at h79
                            rw [if_neg (fun y => y o5), if_pos (Or.inr (And.intro h66 h79))])
                         | (have s5 : ¬ onesI (setOf F (nI b)) ≤ 5 := by
                              rw [set_is ho.v12 b, ones_pop (lt_2 ho.v12 (lyA_lt F b))]
                              exact h48
                            rw [if_pos s5]))
          · refine zb X_melt_s51 rfl ?_
            refine z_ret X_melt_d53 rfl ?_
            refine ⟨congrArg (fun z => some (Value.int z)) ?_, hz⟩
            unfold sMelt
            first
              | (refine (if_neg (fun z => ?_)).symm
                 first
                   | exact (show ¬ isB F b from zB_eq0.mp h8) z.1
                   | exact (show ¬ tim dh from zB_eq0.mp h15) z.2.1
                   | exact ((vm1 ho.v12).mp z.2.2).elim h20 (show ¬ isV F v from zB_eq0.mp h31))
              | (rw [if_pos (And.intro q1 (And.intro q2 q3))]
                 first
                   | (have n5 : ¬ ¬ onesI (setOf F (nI b)) ≤ 5 := fun y => y o5
                      rw [if_neg n5, if_neg hn2])
                   | (have c2 : nI (fB F) < 2 := by rw [← ho.b]; exact h62
                      rw [if_neg (fun y => y o5), if_pos (Or.inl c2)])
                   | (rw [ho.e56] at h79
                      rw [if_neg (fun y => y o5), if_pos (Or.inr (And.intro h66 h79))])
                   | (have s5 : ¬ onesI (setOf F (nI b)) ≤ 5 := by
                        rw [set_is ho.v12 b, ones_pop (lt_2 ho.v12 (lyA_lt F b))]
                        exact h48
                      rw [if_pos s5]))
        · refine zb X_melt_s34 rfl ?_
          refine z_ret X_melt_d35 rfl ?_
          refine ⟨congrArg (fun z => some (Value.int z)) ?_, hz⟩
          unfold sMelt
          first
            | (refine (if_neg (fun z => ?_)).symm
               first
                 | exact (show ¬ isB F b from zB_eq0.mp h8) z.1
                 | exact (show ¬ tim dh from zB_eq0.mp h15) z.2.1
                 | exact ((vm1 ho.v12).mp z.2.2).elim h20 (show ¬ isV F v from zB_eq0.mp h31))
            | (rw [if_pos (And.intro q1 (And.intro q2 q3))]
               first
                 | (have n5 : ¬ ¬ onesI (setOf F (nI b)) ≤ 5 := fun y => y o5
                    rw [if_neg n5, if_neg hn2])
                 | (have c2 : nI (fB F) < 2 := by rw [← ho.b]; exact h62
                    rw [if_neg (fun y => y o5), if_pos (Or.inl c2)])
                 | (rw [ho.e56] at h79
                    rw [if_neg (fun y => y o5), if_pos (Or.inr (And.intro h66 h79))])
                 | (have s5 : ¬ onesI (setOf F (nI b)) ≤ 5 := by
                      rw [set_is ho.v12 b, ones_pop (lt_2 ho.v12 (lyA_lt F b))]
                      exact h48
                    rw [if_pos s5]))
