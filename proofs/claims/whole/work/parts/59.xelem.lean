/-! the class: elements read, kinds told, all shelves together -/
theorem opEl_x {S : zS} {s : Nat} {i : Int32} (hs : s < 6) (hb : barR S (nI s) = 0) (hi : 0 ≤ i ∧ i < hSize S s) : opElement S (nI s) i = hCell S s i.toNatClampNeg := by
  have es : (nI s).toNatClampNeg = s := nI_clamp (by omega)
  unfold opElement
  rw [es, if_pos (And.intro hb hi)]
theorem opEl_n {S : zS} {s : Nat} {i : Int32} (hs : s < 6) (h : ¬ (barR S (nI s) = 0 ∧ (0 ≤ i ∧ i < hSize S s))) : opElement S (nI s) i = -9223372036854775808 := by
  have es : (nI s).toNatClampNeg = s := nI_clamp (by omega)
  unfold opElement
  rw [es, if_neg h]
theorem opEl_o {S : zS} {s i : Int32} (h : ¬ (0 ≤ s ∧ s ≤ 5)) : opElement S s i = -9223372036854775808 := by
  unfold opElement
  refine if_neg (fun z => ?_)
  have hb := z.1
  unfold barR at hb
  rw [if_pos (fun y => h (g6 y))] at hb
  exact absurd hb (by decide)

set_option maxRecDepth 100000 in
set_option maxHeartbeats 4000000 in
theorem xs_element_0 {g : zG} {d : Nat} {S : zS} {μ : zMem} {i : Int32} (hd : 3 ≤ d) (hS : xS S μ) (hok : okH S) : zM g d X_element [.ref 1, .int (nI 0), .int i] μ (fun r μ' => r = some (.long (opElement S (nI 0) i)) ∧ xS S μ' ∧ onlyX μ μ') := by
  refine zM_of (by decide +kernel) rfl rfl (Nat.le_of_ble_eq_true rfl) rfl ?_
  obtain ⟨ho, h2, hT, hC, hD, hI, hA, hH⟩ := hS
  have hS : xS S μ := ⟨ho, h2, hT, hC, hD, hI, hA, hH⟩
  have hb := ho.b
  have hv := ho.v
  have hB6 := ho.b6
  have hV12 := ho.v12
  have hz : zq sX μ μ := zq.rf
  refine zb X_element_s0 rfl ?_
  refine zcallV X_element_d2 k10_93 (by omega) (x_shelf_0 (by omega)) rfl rfl rfl (Nat.le_of_ble_eq_true rfl) ?_
  rintro _ μx ⟨rfl, hx⟩
  rw [hx]
  clear hx μx
  refine zb X_element_s5 rfl ?_
  refine z_null X_element_d7 ?_
  refine zb X_element_s10 rfl ?_
  refine zcallV X_element_d12 k10_342 (by omega) (x_refAt_0 _ (by omega)) rfl rfl rfl (Nat.le_of_ble_eq_true rfl) ?_
  rintro _ μx ⟨rfl, hx⟩
  rw [hx]
  clear hx μx
  have hrf := x_ref (s := 0) (i := i) hS hok (by omega)
  replace hrf : (if bE 13 μ then (-11 : Int32) else if ¬ bR 13 μ then -12 else if bP 13 i 1 μ then 0 else -13) = _ := hrf
  rw [hrf]
  refine z_ne X_element_d15 (tgt := 27) rfl (fun h15 => ?_) (fun h15 => ?_)
  · refine zb X_element_s27 rfl ?_
    refine z_retL X_element_d30 rfl ?_
    first
      | (rw [opEl_x (by omega) hb hi, ek]
         exact ⟨congrArg (fun z => some (Value.long z)) ((hS.2.2.2.2.2.2.2 0 (by omega)).2 k (by omega)), hS, onlyX.rf⟩)
      | (rw [opEl_n (by omega) (fun z => h15 (by rw [if_neg (fun y => y z.1), if_pos z.2]))]
         exact ⟨rfl, hS, onlyX.rf⟩)
  · have hb : barR S (nI 0) = 0 := Decidable.of_not_not (fun z => by
      rw [if_pos z] at h15
      exact z h15)
    rw [if_neg (fun z => z hb)] at h15
    have hi : 0 ≤ i ∧ i < hSize S 0 := Decidable.of_not_not (fun z => by
      rw [if_neg z] at h15
      exact absurd h15 (by decide))
    obtain ⟨q9, m, hs6, e9, -, hh, hm, em⟩ := barR_0 hb hok
    have e9' : 0 = q9 := (nI_eq (by omega) (by omega)).mp e9
    subst e9'
    have hi' := hi
    rw [em] at hi'
    obtain ⟨k, hk, rfl, ek⟩ := zix hi'.1 hi'.2 (by omega)
    have hvk : vp_in (nI k) 60 := vp_in_nI (by omega) (by omega)
    refine zb1 X_element_s18 rfl hvk ?_
    refine z_retL X_element_d30 rfl ?_
    first
      | (rw [opEl_x (by omega) hb hi, ek]
         exact ⟨congrArg (fun z => some (Value.long z)) ((hS.2.2.2.2.2.2.2 0 (by omega)).2 k (by omega)), hS, onlyX.rf⟩)
      | (rw [opEl_n (by omega) (fun z => h15 (by rw [if_neg (fun y => y z.1), if_pos z.2]))]
         exact ⟨rfl, hS, onlyX.rf⟩)

set_option maxRecDepth 100000 in
set_option maxHeartbeats 4000000 in
theorem xs_element_1 {g : zG} {d : Nat} {S : zS} {μ : zMem} {i : Int32} (hd : 3 ≤ d) (hS : xS S μ) (hok : okH S) : zM g d X_element [.ref 1, .int (nI 1), .int i] μ (fun r μ' => r = some (.long (opElement S (nI 1) i)) ∧ xS S μ' ∧ onlyX μ μ') := by
  refine zM_of (by decide +kernel) rfl rfl (Nat.le_of_ble_eq_true rfl) rfl ?_
  obtain ⟨ho, h2, hT, hC, hD, hI, hA, hH⟩ := hS
  have hS : xS S μ := ⟨ho, h2, hT, hC, hD, hI, hA, hH⟩
  have hb := ho.b
  have hv := ho.v
  have hB6 := ho.b6
  have hV12 := ho.v12
  have hz : zq sX μ μ := zq.rf
  refine zb X_element_s0 rfl ?_
  refine zcallV X_element_d2 k10_93 (by omega) (x_shelf_1 (by omega)) rfl rfl rfl (Nat.le_of_ble_eq_true rfl) ?_
  rintro _ μx ⟨rfl, hx⟩
  rw [hx]
  clear hx μx
  refine zb X_element_s5 rfl ?_
  refine z_null X_element_d7 ?_
  refine zb X_element_s10 rfl ?_
  refine zcallV X_element_d12 k10_342 (by omega) (x_refAt_1 _ (by omega)) rfl rfl rfl (Nat.le_of_ble_eq_true rfl) ?_
  rintro _ μx ⟨rfl, hx⟩
  rw [hx]
  clear hx μx
  have hrf := x_ref (s := 1) (i := i) hS hok (by omega)
  replace hrf : (if bE 14 μ then (-11 : Int32) else if ¬ bR 14 μ then -12 else if bP 14 i 1 μ then 0 else -13) = _ := hrf
  rw [hrf]
  refine z_ne X_element_d15 (tgt := 27) rfl (fun h15 => ?_) (fun h15 => ?_)
  · refine zb X_element_s27 rfl ?_
    refine z_retL X_element_d30 rfl ?_
    first
      | (rw [opEl_x (by omega) hb hi, ek]
         exact ⟨congrArg (fun z => some (Value.long z)) ((hS.2.2.2.2.2.2.2 1 (by omega)).2 k (by omega)), hS, onlyX.rf⟩)
      | (rw [opEl_n (by omega) (fun z => h15 (by rw [if_neg (fun y => y z.1), if_pos z.2]))]
         exact ⟨rfl, hS, onlyX.rf⟩)
  · have hb : barR S (nI 1) = 0 := Decidable.of_not_not (fun z => by
      rw [if_pos z] at h15
      exact z h15)
    rw [if_neg (fun z => z hb)] at h15
    have hi : 0 ≤ i ∧ i < hSize S 1 := Decidable.of_not_not (fun z => by
      rw [if_neg z] at h15
      exact absurd h15 (by decide))
    obtain ⟨q9, m, hs6, e9, -, hh, hm, em⟩ := barR_0 hb hok
    have e9' : 1 = q9 := (nI_eq (by omega) (by omega)).mp e9
    subst e9'
    have hi' := hi
    rw [em] at hi'
    obtain ⟨k, hk, rfl, ek⟩ := zix hi'.1 hi'.2 (by omega)
    have hvk : vp_in (nI k) 60 := vp_in_nI (by omega) (by omega)
    refine zb1 X_element_s18 rfl hvk ?_
    refine z_retL X_element_d30 rfl ?_
    first
      | (rw [opEl_x (by omega) hb hi, ek]
         exact ⟨congrArg (fun z => some (Value.long z)) ((hS.2.2.2.2.2.2.2 1 (by omega)).2 k (by omega)), hS, onlyX.rf⟩)
      | (rw [opEl_n (by omega) (fun z => h15 (by rw [if_neg (fun y => y z.1), if_pos z.2]))]
         exact ⟨rfl, hS, onlyX.rf⟩)

set_option maxRecDepth 100000 in
set_option maxHeartbeats 4000000 in
theorem xs_element_2 {g : zG} {d : Nat} {S : zS} {μ : zMem} {i : Int32} (hd : 3 ≤ d) (hS : xS S μ) (hok : okH S) : zM g d X_element [.ref 1, .int (nI 2), .int i] μ (fun r μ' => r = some (.long (opElement S (nI 2) i)) ∧ xS S μ' ∧ onlyX μ μ') := by
  refine zM_of (by decide +kernel) rfl rfl (Nat.le_of_ble_eq_true rfl) rfl ?_
  obtain ⟨ho, h2, hT, hC, hD, hI, hA, hH⟩ := hS
  have hS : xS S μ := ⟨ho, h2, hT, hC, hD, hI, hA, hH⟩
  have hb := ho.b
  have hv := ho.v
  have hB6 := ho.b6
  have hV12 := ho.v12
  have hz : zq sX μ μ := zq.rf
  refine zb X_element_s0 rfl ?_
  refine zcallV X_element_d2 k10_93 (by omega) (x_shelf_2 (by omega)) rfl rfl rfl (Nat.le_of_ble_eq_true rfl) ?_
  rintro _ μx ⟨rfl, hx⟩
  rw [hx]
  clear hx μx
  refine zb X_element_s5 rfl ?_
  refine z_null X_element_d7 ?_
  refine zb X_element_s10 rfl ?_
  refine zcallV X_element_d12 k10_342 (by omega) (x_refAt_2 _ (by omega)) rfl rfl rfl (Nat.le_of_ble_eq_true rfl) ?_
  rintro _ μx ⟨rfl, hx⟩
  rw [hx]
  clear hx μx
  have hrf := x_ref (s := 2) (i := i) hS hok (by omega)
  replace hrf : (if bE 15 μ then (-11 : Int32) else if ¬ bR 15 μ then -12 else if bP 15 i 1 μ then 0 else -13) = _ := hrf
  rw [hrf]
  refine z_ne X_element_d15 (tgt := 27) rfl (fun h15 => ?_) (fun h15 => ?_)
  · refine zb X_element_s27 rfl ?_
    refine z_retL X_element_d30 rfl ?_
    first
      | (rw [opEl_x (by omega) hb hi, ek]
         exact ⟨congrArg (fun z => some (Value.long z)) ((hS.2.2.2.2.2.2.2 2 (by omega)).2 k (by omega)), hS, onlyX.rf⟩)
      | (rw [opEl_n (by omega) (fun z => h15 (by rw [if_neg (fun y => y z.1), if_pos z.2]))]
         exact ⟨rfl, hS, onlyX.rf⟩)
  · have hb : barR S (nI 2) = 0 := Decidable.of_not_not (fun z => by
      rw [if_pos z] at h15
      exact z h15)
    rw [if_neg (fun z => z hb)] at h15
    have hi : 0 ≤ i ∧ i < hSize S 2 := Decidable.of_not_not (fun z => by
      rw [if_neg z] at h15
      exact absurd h15 (by decide))
    obtain ⟨q9, m, hs6, e9, -, hh, hm, em⟩ := barR_0 hb hok
    have e9' : 2 = q9 := (nI_eq (by omega) (by omega)).mp e9
    subst e9'
    have hi' := hi
    rw [em] at hi'
    obtain ⟨k, hk, rfl, ek⟩ := zix hi'.1 hi'.2 (by omega)
    have hvk : vp_in (nI k) 60 := vp_in_nI (by omega) (by omega)
    refine zb1 X_element_s18 rfl hvk ?_
    refine z_retL X_element_d30 rfl ?_
    first
      | (rw [opEl_x (by omega) hb hi, ek]
         exact ⟨congrArg (fun z => some (Value.long z)) ((hS.2.2.2.2.2.2.2 2 (by omega)).2 k (by omega)), hS, onlyX.rf⟩)
      | (rw [opEl_n (by omega) (fun z => h15 (by rw [if_neg (fun y => y z.1), if_pos z.2]))]
         exact ⟨rfl, hS, onlyX.rf⟩)

set_option maxRecDepth 100000 in
set_option maxHeartbeats 4000000 in
theorem xs_element_3 {g : zG} {d : Nat} {S : zS} {μ : zMem} {i : Int32} (hd : 3 ≤ d) (hS : xS S μ) (hok : okH S) : zM g d X_element [.ref 1, .int (nI 3), .int i] μ (fun r μ' => r = some (.long (opElement S (nI 3) i)) ∧ xS S μ' ∧ onlyX μ μ') := by
  refine zM_of (by decide +kernel) rfl rfl (Nat.le_of_ble_eq_true rfl) rfl ?_
  obtain ⟨ho, h2, hT, hC, hD, hI, hA, hH⟩ := hS
  have hS : xS S μ := ⟨ho, h2, hT, hC, hD, hI, hA, hH⟩
  have hb := ho.b
  have hv := ho.v
  have hB6 := ho.b6
  have hV12 := ho.v12
  have hz : zq sX μ μ := zq.rf
  refine zb X_element_s0 rfl ?_
  refine zcallV X_element_d2 k10_93 (by omega) (x_shelf_3 (by omega)) rfl rfl rfl (Nat.le_of_ble_eq_true rfl) ?_
  rintro _ μx ⟨rfl, hx⟩
  rw [hx]
  clear hx μx
  refine zb X_element_s5 rfl ?_
  refine z_null X_element_d7 ?_
  refine zb X_element_s10 rfl ?_
  refine zcallV X_element_d12 k10_342 (by omega) (x_refAt_3 _ (by omega)) rfl rfl rfl (Nat.le_of_ble_eq_true rfl) ?_
  rintro _ μx ⟨rfl, hx⟩
  rw [hx]
  clear hx μx
  have hrf := x_ref (s := 3) (i := i) hS hok (by omega)
  replace hrf : (if bE 16 μ then (-11 : Int32) else if ¬ bR 16 μ then -12 else if bP 16 i 1 μ then 0 else -13) = _ := hrf
  rw [hrf]
  refine z_ne X_element_d15 (tgt := 27) rfl (fun h15 => ?_) (fun h15 => ?_)
  · refine zb X_element_s27 rfl ?_
    refine z_retL X_element_d30 rfl ?_
    first
      | (rw [opEl_x (by omega) hb hi, ek]
         exact ⟨congrArg (fun z => some (Value.long z)) ((hS.2.2.2.2.2.2.2 3 (by omega)).2 k (by omega)), hS, onlyX.rf⟩)
      | (rw [opEl_n (by omega) (fun z => h15 (by rw [if_neg (fun y => y z.1), if_pos z.2]))]
         exact ⟨rfl, hS, onlyX.rf⟩)
  · have hb : barR S (nI 3) = 0 := Decidable.of_not_not (fun z => by
      rw [if_pos z] at h15
      exact z h15)
    rw [if_neg (fun z => z hb)] at h15
    have hi : 0 ≤ i ∧ i < hSize S 3 := Decidable.of_not_not (fun z => by
      rw [if_neg z] at h15
      exact absurd h15 (by decide))
    obtain ⟨q9, m, hs6, e9, -, hh, hm, em⟩ := barR_0 hb hok
    have e9' : 3 = q9 := (nI_eq (by omega) (by omega)).mp e9
    subst e9'
    have hi' := hi
    rw [em] at hi'
    obtain ⟨k, hk, rfl, ek⟩ := zix hi'.1 hi'.2 (by omega)
    have hvk : vp_in (nI k) 60 := vp_in_nI (by omega) (by omega)
    refine zb1 X_element_s18 rfl hvk ?_
    refine z_retL X_element_d30 rfl ?_
    first
      | (rw [opEl_x (by omega) hb hi, ek]
         exact ⟨congrArg (fun z => some (Value.long z)) ((hS.2.2.2.2.2.2.2 3 (by omega)).2 k (by omega)), hS, onlyX.rf⟩)
      | (rw [opEl_n (by omega) (fun z => h15 (by rw [if_neg (fun y => y z.1), if_pos z.2]))]
         exact ⟨rfl, hS, onlyX.rf⟩)

set_option maxRecDepth 100000 in
set_option maxHeartbeats 4000000 in
theorem xs_element_4 {g : zG} {d : Nat} {S : zS} {μ : zMem} {i : Int32} (hd : 3 ≤ d) (hS : xS S μ) (hok : okH S) : zM g d X_element [.ref 1, .int (nI 4), .int i] μ (fun r μ' => r = some (.long (opElement S (nI 4) i)) ∧ xS S μ' ∧ onlyX μ μ') := by
  refine zM_of (by decide +kernel) rfl rfl (Nat.le_of_ble_eq_true rfl) rfl ?_
  obtain ⟨ho, h2, hT, hC, hD, hI, hA, hH⟩ := hS
  have hS : xS S μ := ⟨ho, h2, hT, hC, hD, hI, hA, hH⟩
  have hb := ho.b
  have hv := ho.v
  have hB6 := ho.b6
  have hV12 := ho.v12
  have hz : zq sX μ μ := zq.rf
  refine zb X_element_s0 rfl ?_
  refine zcallV X_element_d2 k10_93 (by omega) (x_shelf_4 (by omega)) rfl rfl rfl (Nat.le_of_ble_eq_true rfl) ?_
  rintro _ μx ⟨rfl, hx⟩
  rw [hx]
  clear hx μx
  refine zb X_element_s5 rfl ?_
  refine z_null X_element_d7 ?_
  refine zb X_element_s10 rfl ?_
  refine zcallV X_element_d12 k10_342 (by omega) (x_refAt_4 _ (by omega)) rfl rfl rfl (Nat.le_of_ble_eq_true rfl) ?_
  rintro _ μx ⟨rfl, hx⟩
  rw [hx]
  clear hx μx
  have hrf := x_ref (s := 4) (i := i) hS hok (by omega)
  replace hrf : (if bE 17 μ then (-11 : Int32) else if ¬ bR 17 μ then -12 else if bP 17 i 1 μ then 0 else -13) = _ := hrf
  rw [hrf]
  refine z_ne X_element_d15 (tgt := 27) rfl (fun h15 => ?_) (fun h15 => ?_)
  · refine zb X_element_s27 rfl ?_
    refine z_retL X_element_d30 rfl ?_
    first
      | (rw [opEl_x (by omega) hb hi, ek]
         exact ⟨congrArg (fun z => some (Value.long z)) ((hS.2.2.2.2.2.2.2 4 (by omega)).2 k (by omega)), hS, onlyX.rf⟩)
      | (rw [opEl_n (by omega) (fun z => h15 (by rw [if_neg (fun y => y z.1), if_pos z.2]))]
         exact ⟨rfl, hS, onlyX.rf⟩)
  · have hb : barR S (nI 4) = 0 := Decidable.of_not_not (fun z => by
      rw [if_pos z] at h15
      exact z h15)
    rw [if_neg (fun z => z hb)] at h15
    have hi : 0 ≤ i ∧ i < hSize S 4 := Decidable.of_not_not (fun z => by
      rw [if_neg z] at h15
      exact absurd h15 (by decide))
    obtain ⟨q9, m, hs6, e9, -, hh, hm, em⟩ := barR_0 hb hok
    have e9' : 4 = q9 := (nI_eq (by omega) (by omega)).mp e9
    subst e9'
    have hi' := hi
    rw [em] at hi'
    obtain ⟨k, hk, rfl, ek⟩ := zix hi'.1 hi'.2 (by omega)
    have hvk : vp_in (nI k) 60 := vp_in_nI (by omega) (by omega)
    refine zb1 X_element_s18 rfl hvk ?_
    refine z_retL X_element_d30 rfl ?_
    first
      | (rw [opEl_x (by omega) hb hi, ek]
         exact ⟨congrArg (fun z => some (Value.long z)) ((hS.2.2.2.2.2.2.2 4 (by omega)).2 k (by omega)), hS, onlyX.rf⟩)
      | (rw [opEl_n (by omega) (fun z => h15 (by rw [if_neg (fun y => y z.1), if_pos z.2]))]
         exact ⟨rfl, hS, onlyX.rf⟩)

set_option maxRecDepth 100000 in
set_option maxHeartbeats 4000000 in
theorem xs_element_5 {g : zG} {d : Nat} {S : zS} {μ : zMem} {i : Int32} (hd : 3 ≤ d) (hS : xS S μ) (hok : okH S) : zM g d X_element [.ref 1, .int (nI 5), .int i] μ (fun r μ' => r = some (.long (opElement S (nI 5) i)) ∧ xS S μ' ∧ onlyX μ μ') := by
  refine zM_of (by decide +kernel) rfl rfl (Nat.le_of_ble_eq_true rfl) rfl ?_
  obtain ⟨ho, h2, hT, hC, hD, hI, hA, hH⟩ := hS
  have hS : xS S μ := ⟨ho, h2, hT, hC, hD, hI, hA, hH⟩
  have hb := ho.b
  have hv := ho.v
  have hB6 := ho.b6
  have hV12 := ho.v12
  have hz : zq sX μ μ := zq.rf
  refine zb X_element_s0 rfl ?_
  refine zcallV X_element_d2 k10_93 (by omega) (x_shelf_5 (by omega)) rfl rfl rfl (Nat.le_of_ble_eq_true rfl) ?_
  rintro _ μx ⟨rfl, hx⟩
  rw [hx]
  clear hx μx
  refine zb X_element_s5 rfl ?_
  refine z_null X_element_d7 ?_
  refine zb X_element_s10 rfl ?_
  refine zcallV X_element_d12 k10_342 (by omega) (x_refAt_5 _ (by omega)) rfl rfl rfl (Nat.le_of_ble_eq_true rfl) ?_
  rintro _ μx ⟨rfl, hx⟩
  rw [hx]
  clear hx μx
  have hrf := x_ref (s := 5) (i := i) hS hok (by omega)
  replace hrf : (if bE 18 μ then (-11 : Int32) else if ¬ bR 18 μ then -12 else if bP 18 i 1 μ then 0 else -13) = _ := hrf
  rw [hrf]
  refine z_ne X_element_d15 (tgt := 27) rfl (fun h15 => ?_) (fun h15 => ?_)
  · refine zb X_element_s27 rfl ?_
    refine z_retL X_element_d30 rfl ?_
    first
      | (rw [opEl_x (by omega) hb hi, ek]
         exact ⟨congrArg (fun z => some (Value.long z)) ((hS.2.2.2.2.2.2.2 5 (by omega)).2 k (by omega)), hS, onlyX.rf⟩)
      | (rw [opEl_n (by omega) (fun z => h15 (by rw [if_neg (fun y => y z.1), if_pos z.2]))]
         exact ⟨rfl, hS, onlyX.rf⟩)
  · have hb : barR S (nI 5) = 0 := Decidable.of_not_not (fun z => by
      rw [if_pos z] at h15
      exact z h15)
    rw [if_neg (fun z => z hb)] at h15
    have hi : 0 ≤ i ∧ i < hSize S 5 := Decidable.of_not_not (fun z => by
      rw [if_neg z] at h15
      exact absurd h15 (by decide))
    obtain ⟨q9, m, hs6, e9, -, hh, hm, em⟩ := barR_0 hb hok
    have e9' : 5 = q9 := (nI_eq (by omega) (by omega)).mp e9
    subst e9'
    have hi' := hi
    rw [em] at hi'
    obtain ⟨k, hk, rfl, ek⟩ := zix hi'.1 hi'.2 (by omega)
    have hvk : vp_in (nI k) 60 := vp_in_nI (by omega) (by omega)
    refine zb1 X_element_s18 rfl hvk ?_
    refine z_retL X_element_d30 rfl ?_
    first
      | (rw [opEl_x (by omega) hb hi, ek]
         exact ⟨congrArg (fun z => some (Value.long z)) ((hS.2.2.2.2.2.2.2 5 (by omega)).2 k (by omega)), hS, onlyX.rf⟩)
      | (rw [opEl_n (by omega) (fun z => h15 (by rw [if_neg (fun y => y z.1), if_pos z.2]))]
         exact ⟨rfl, hS, onlyX.rf⟩)

set_option maxRecDepth 100000 in
set_option maxHeartbeats 4000000 in
theorem xs_keep_o {g : zG} {d : Nat} {S : zS} {μ : zMem} {s b : Int32} (hd : 2 ≤ d) (hS : xS S μ) (hs : ¬ (0 ≤ s ∧ s ≤ 5)) : zM g d X_keep [.ref 1, .int s, .int b] μ (pO xS onlyX (opKeep S s b) μ) := by
  refine zM_of (by decide +kernel) rfl rfl (Nat.le_of_ble_eq_true rfl) rfl ?_
  refine zb X_keep_s0 rfl ?_
  refine zcallV X_keep_d2 k10_93 (by omega) (x_shelf_out (by omega) hs) rfl rfl rfl (Nat.le_of_ble_eq_true rfl) ?_
  rintro _ μx ⟨rfl, hx⟩
  rw [hx]
  clear hx μx
  refine zb X_keep_s5 rfl ?_
  refine z_nullN X_keep_d7 (tgt := 26) rfl ?_
  refine zb X_keep_s26 rfl ?_
  refine z_ret X_keep_d27 rfl ?_
  unfold opKeep
  rw [if_pos (fun z => hs (g6 z.1))]
  exact ⟨rfl, hS, onlyX.rf⟩

set_option maxRecDepth 100000 in
set_option maxHeartbeats 4000000 in
theorem xs_row_o {g : zG} {d : Nat} {S : zS} {μ : zMem} {s p n : Int32} (hd : 2 ≤ d) (hS : xS S μ) (hs : ¬ (0 ≤ s ∧ s ≤ 5)) : zM g d X_row [.ref 1, .int s, .int p, .int n] μ (pO xS onlyX (opRow S s p n) μ) := by
  refine zM_of (by decide +kernel) rfl rfl (Nat.le_of_ble_eq_true rfl) rfl ?_
  refine zb X_row_s0 rfl ?_
  refine zcallV X_row_d2 k10_93 (by omega) (x_shelf_out (by omega) hs) rfl rfl rfl (Nat.le_of_ble_eq_true rfl) ?_
  rintro _ μx ⟨rfl, hx⟩
  rw [hx]
  clear hx μx
  refine zb X_row_s5 rfl ?_
  refine z_nullN X_row_d9 (tgt := 26) rfl ?_
  refine zb X_row_s26 rfl ?_
  refine z_ret X_row_d27 rfl ?_
  unfold opRow
  rw [if_pos (fun z => hs (g6 z.1))]
  exact ⟨rfl, hS, onlyX.rf⟩

set_option maxRecDepth 100000 in
set_option maxHeartbeats 4000000 in
theorem xs_put_o {g : zG} {d : Nat} {S : zS} {μ : zMem} {s i : Int32} {v : Int64} (hd : 2 ≤ d) (hS : xS S μ) (hs : ¬ (0 ≤ s ∧ s ≤ 5)) : zM g d X_put [.ref 1, .int s, .int i, .long v] μ (pO xS onlyX (opPut S s i v) μ) := by
  refine zM_of (by decide +kernel) rfl rfl (Nat.le_of_ble_eq_true rfl) rfl ?_
  refine zb X_put_s0 rfl ?_
  refine zcallV X_put_d2 k10_93 (by omega) (x_shelf_out (by omega) hs) rfl rfl rfl (Nat.le_of_ble_eq_true rfl) ?_
  rintro _ μx ⟨rfl, hx⟩
  rw [hx]
  clear hx μx
  refine zb X_put_s5 rfl ?_
  refine z_nonnullN X_put_d9 ?_
  refine zb X_put_s12 rfl ?_
  refine z_ret X_put_d13 rfl ?_
  have hb : barR S s = -1 := if_pos (fun z => hs (g6 z))
  rw [opPut_bar (by rw [hb]; decide), hb]
  exact ⟨rfl, hS, onlyX.rf⟩

set_option maxRecDepth 100000 in
set_option maxHeartbeats 4000000 in
theorem xs_element_o {g : zG} {d : Nat} {S : zS} {μ : zMem} {s i : Int32} (hd : 2 ≤ d) (hS : xS S μ) (hs : ¬ (0 ≤ s ∧ s ≤ 5)) : zM g d X_element [.ref 1, .int s, .int i] μ (fun r μ' => r = some (.long (opElement S s i)) ∧ xS S μ' ∧ onlyX μ μ') := by
  refine zM_of (by decide +kernel) rfl rfl (Nat.le_of_ble_eq_true rfl) rfl ?_
  refine zb X_element_s0 rfl ?_
  refine zcallV X_element_d2 k10_93 (by omega) (x_shelf_out (by omega) hs) rfl rfl rfl (Nat.le_of_ble_eq_true rfl) ?_
  rintro _ μx ⟨rfl, hx⟩
  rw [hx]
  clear hx μx
  refine zb X_element_s5 rfl ?_
  refine z_nullN X_element_d7 (tgt := 27) rfl ?_
  refine zb X_element_s27 rfl ?_
  refine z_retL X_element_d30 rfl ?_
  rw [opEl_o hs]
  exact ⟨rfl, hS, onlyX.rf⟩

theorem s5 {s : Int32} (h : 0 ≤ s ∧ s ≤ 5) : s = nI 0 ∨ s = nI 1 ∨ s = nI 2 ∨ s = nI 3 ∨ s = nI 4 ∨ s = nI 5 := by
  obtain ⟨q, hq, rfl, -⟩ := zix (n := 6) h.1 (by have := h.2; show s < 6; grind) (by omega)
  rcases (show q = 0 ∨ q = 1 ∨ q = 2 ∨ q = 3 ∨ q = 4 ∨ q = 5 by omega) with rfl | rfl | rfl | rfl | rfl | rfl <;> simp

theorem xs_keep {g : zG} {d : Nat} {S : zS} {μ : zMem} {s b : Int32} (hd : 2 ≤ d) (hS : xS S μ) : zM g d X_keep [.ref 1, .int s, .int b] μ (pO xS onlyX (opKeep S s b) μ) := by
  by_cases hs : 0 ≤ s ∧ s ≤ 5
  · rcases s5 hs with rfl | rfl | rfl | rfl | rfl | rfl
    · exact xs_keep_0 (by omega) hS
    · exact xs_keep_1 (by omega) hS
    · exact xs_keep_2 (by omega) hS
    · exact xs_keep_3 (by omega) hS
    · exact xs_keep_4 (by omega) hS
    · exact xs_keep_5 (by omega) hS
  · exact xs_keep_o (by omega) hS hs

theorem xs_row {g : zG} {d : Nat} {S : zS} {μ : zMem} {s p n : Int32} (hd : 2 ≤ d) (hS : xS S μ) : zM g d X_row [.ref 1, .int s, .int p, .int n] μ (pO xS onlyX (opRow S s p n) μ) := by
  by_cases hs : 0 ≤ s ∧ s ≤ 5
  · rcases s5 hs with rfl | rfl | rfl | rfl | rfl | rfl
    · exact xs_row_0 (by omega) hS
    · exact xs_row_1 (by omega) hS
    · exact xs_row_2 (by omega) hS
    · exact xs_row_3 (by omega) hS
    · exact xs_row_4 (by omega) hS
    · exact xs_row_5 (by omega) hS
  · exact xs_row_o (by omega) hS hs

theorem xs_put {g : zG} {d : Nat} {S : zS} {μ : zMem} {s i : Int32} {v : Int64} (hd : 3 ≤ d) (hS : xS S μ) (hok : okH S) : zM g d X_put [.ref 1, .int s, .int i, .long v] μ (pO xS onlyX (opPut S s i v) μ) := by
  by_cases hs : 0 ≤ s ∧ s ≤ 5
  · rcases s5 hs with rfl | rfl | rfl | rfl | rfl | rfl
    · exact xs_put_0 (by omega) hS hok
    · exact xs_put_1 (by omega) hS hok
    · exact xs_put_2 (by omega) hS hok
    · exact xs_put_3 (by omega) hS hok
    · exact xs_put_4 (by omega) hS hok
    · exact xs_put_5 (by omega) hS hok
  · exact xs_put_o (by omega) hS hs

theorem xs_element {g : zG} {d : Nat} {S : zS} {μ : zMem} {s i : Int32} (hd : 3 ≤ d) (hS : xS S μ) (hok : okH S) : zM g d X_element [.ref 1, .int s, .int i] μ (fun r μ' => r = some (.long (opElement S s i)) ∧ xS S μ' ∧ onlyX μ μ') := by
  by_cases hs : 0 ≤ s ∧ s ≤ 5
  · rcases s5 hs with rfl | rfl | rfl | rfl | rfl | rfl
    · exact xs_element_0 (by omega) hS hok
    · exact xs_element_1 (by omega) hS hok
    · exact xs_element_2 (by omega) hS hok
    · exact xs_element_3 (by omega) hS hok
    · exact xs_element_4 (by omega) hS hok
    · exact xs_element_5 (by omega) hS hok
  · exact xs_element_o (by omega) hS hs
