/-! the class: the same contracts with less that may have changed; bits counted, sets gone through -/
def s1 (c0 c _ : Nat) : Bool := c == c0
def n1 (c0 c k : Nat) : Bool := nS c k || c == c0
theorem s1_n1 {c0 : Nat} : ∀ c k, s1 c0 c k = true → n1 c0 c k = true := by
  intro c k h
  unfold n1
  unfold s1 at h
  rw [h, Bool.or_true]
theorem nS_n1 {c0 : Nat} : ∀ c k, nS c k = true → n1 c0 c k = true := by
  intro c k h
  unfold n1
  rw [h, Bool.true_or]
theorem n1_sX {c0 : Nat} (h : ∀ k, sX c0 k = true) : ∀ c k, n1 c0 c k = true → sX c k = true := by
  intro c k hc
  unfold n1 at hc
  rw [Bool.or_eq_true, beq_iff_eq] at hc
  rcases hc with hc | hc
  · exact nS_sX c k hc
  · rw [hc]; exact h k
theorem s1_sX {c0 : Nat} (h : ∀ k, sX c0 k = true) : ∀ c k, s1 c0 c k = true → sX c k = true := fun c k hc => n1_sX h c k (s1_n1 c k hc)

set_option maxRecDepth 100000 in
set_option maxHeartbeats 4000000 in
theorem x_offByVowN {g : zG} {d : Nat} {F : zF} {μ : zMem} {i : Nat} {day h : Int32} (hF : okF F) (hd : 5 ≤ d) (hi : i < fV F) (ho : oX F μ) : zM g d F_offByVow [.ref 2, .int (nI i), .int day, .int h] μ (fun r μ' => r = some (.int (pu F i (fbell F i) day h)) ∧ zq nS μ μ') := by
  refine zM_of (by decide +kernel) rfl rfl (Nat.le_of_ble_eq_true rfl) rfl ?_
  have h12 := ho.v12
  have hz : zq nS μ μ := zq.rf
  have ei : (nI i).toNatClampNeg = i := nI_clamp (by omega)
  have hvi : vp_in (nI i) 12 := vp_in_nI (by omega) (by omega)
  refine zb1 F_offByVow_s0 rfl hvi ?_
  rw [ho.e56, ei]
  refine zcallV F_offByVow_d11 k4_95 (by omega) (x_daysBroken _ (by omega) (by omega) ho) rfl rfl rfl (Nat.le_of_ble_eq_true rfl) ?_
  rintro _ μx ⟨rfl, hx⟩
  rw [hx]
  clear hx μx
  refine zb F_offByVow_s14 rfl ?_
  refine zcallV F_offByVow_d15 k4_98 (by omega) (x_offIf (by omega) (by omega) ho) rfl rfl rfl (Nat.le_of_ble_eq_true rfl) ?_
  rintro _ μ1 ⟨rfl, hz1⟩
  replace hz := hz.tr hz1
  replace ho := ho.q (hz1.mono nS_sX)
  clear hz1
  refine z_ret F_offByVow_d18 rfl ?_
  exact ⟨by rw [ofI_pu hF hi], hz⟩

set_option maxRecDepth 100000 in
set_option maxHeartbeats 4000000 in
theorem w_F_offOfN {g : zG} {d : Nat} {F : zF} {μ0 : zMem} {b day h : Int32} (hF : okF F) (hd : 5 ≤ d) : ∀ (j i : Nat) (acc : Int32) (μ : zMem), i + j = fV F → oX F μ → zq nS μ0 μ → (acc = zsum (offT F b day h) i) → zW g F_offOf d 6 [some (.ref 2), some (.int b), some (.int day), some (.int h), some (.int acc), some (.int (nI i))] [] μ (fun r μ' => r = some (.int (offs F b day h)) ∧ zq nS μ0 μ') := by
  intro j
  induction j with
  | zero =>
    intro i acc μ hi ho hz hv0
    have hbd := ho.v
    have h12 := ho.v12
    have h6 := ho.b6
    have hi : fV F = i := by omega
    subst hi
    refine zb F_offOf_s6 rfl ?_
    refine z_cge F_offOf_d12 (tgt := 52) rfl (fun h12 => ?_) (fun h12 => absurd (show μ.1 2 8 ≤ nI (fV F) by first | exact Int32.le_refl _ | (rw [hbd]; exact Int32.le_refl _)) h12)
    refine zb F_offOf_s52 rfl ?_
    refine z_ret F_offOf_d54 rfl ?_
    exact ⟨by rw [hv0]; rfl, hz⟩
  | succ j ih =>
    intro i acc μ hi ho hz hv0
    have hbd := ho.v
    have h12 := ho.v12
    have h6 := ho.b6
    have hilt : i < fV F := by omega
    have ei : (nI i).toNatClampNeg = i := nI_clamp (by omega)
    have hvi : vp_in (nI i) 12 := vp_in_nI (by omega) (by omega)
    refine zb F_offOf_s6 rfl ?_
    refine z_cge F_offOf_d12 (tgt := 52) rfl (fun h12 => absurd h12 (show ¬ μ.1 2 8 ≤ nI i by first | exact nI_ge hilt (by omega) | (rw [hbd]; exact nI_ge hilt (by omega)))) (fun h12 => ?_)
    refine zb1 F_offOf_s15 rfl hvi ?_
    refine z_cne F_offOf_d23 (tgt := 46) rfl (fun h23 => ?_) (fun h23 => ?_)
    · (try rw [ho.e56, ei] at h23)
      refine zb F_offOf_s46 rfl ?_
      rw [nI_1]
      refine ih (i + 1) _ _ (by omega) ho hz ?_
      rw [zsum_s, ← hv0]
      unfold offT
      first
        | rw [if_pos h23, ofI_pu hF hilt]
        | rw [if_neg h23, Int32.add_zero]
    · rw [ho.e56, ei] at h23
      refine zb F_offOf_s26 rfl ?_
      refine zcallV F_offOf_d36 k4_95 (by omega) (x_daysBroken _ (by omega) (by omega) ho) rfl rfl rfl (Nat.le_of_ble_eq_true rfl) ?_
      rintro _ μx ⟨rfl, hx⟩
      rw [hx]
      clear hx μx
      refine zb F_offOf_s39 rfl ?_
      refine zcallV F_offOf_d40 k4_98 (by omega) (x_offIf (by omega) (by omega) ho) rfl rfl rfl (Nat.le_of_ble_eq_true rfl) ?_
      rintro _ μ1 ⟨rfl, hz1⟩
      replace hz := hz.tr hz1
      replace ho := ho.q (hz1.mono nS_sX)
      clear hz1
      refine zb F_offOf_s43 rfl ?_
      rw [nI_1]
      refine ih (i + 1) _ _ (by omega) ho hz ?_
      rw [zsum_s, ← hv0]
      unfold offT
      first
        | rw [if_pos h23, ofI_pu hF hilt]
        | rw [if_neg h23, Int32.add_zero]

set_option maxRecDepth 100000 in
set_option maxHeartbeats 4000000 in
theorem x_offOfN {g : zG} {d : Nat} {F : zF} {μ : zMem} {b day h : Int32} (hF : okF F) (hd : 5 ≤ d) (ho : oX F μ) : zM g d F_offOf [.ref 2, .int b, .int day, .int h] μ (fun r μ' => r = some (.int (offs F b day h)) ∧ zq nS μ μ') := by
  refine zM_of (by decide +kernel) rfl rfl (Nat.le_of_ble_eq_true rfl) rfl ?_
  refine zb F_offOf_s0 rfl ?_
  exact w_F_offOfN hF hd (fV F) 0 0 μ (by omega) ho zq.rf rfl

set_option maxRecDepth 100000 in
set_option maxHeartbeats 4000000 in
theorem w_fillN_65 {g : zG} {d : Nat} {x : Int32} {μ0 : zMem} : ∀ (j i : Nat) (μ : zMem), i + j = 217 → (zq (s1 65) μ0 μ) → (∀ k, k < i → μ.1 65 k = x) → zW g J_fillAI d 5 [some (.ref 65), some (.int x), some (.int (nI i)), some (.int 217)] [] μ (fun r μ' => r = none ∧ zq (s1 65) μ0 μ' ∧ ∀ k, k < 217 → μ'.1 65 k = x) := by
  intro j
  induction j with
  | zero =>
    intro i  μ hi  hv0 hv1
    have hi : 217 = i := by omega
    subst hi
    refine zb J_fillAI_s5 rfl ?_
    refine z_cge J_fillAI_d7 (tgt := 20) rfl (fun h7 => ?_) (fun h7 => absurd (show 217 ≤ nI (217) by first | exact Int32.le_refl _ | (rw [hbd]; exact Int32.le_refl _)) h7)
    refine z_retV J_fillAI_d20 rfl ?_
    exact ⟨rfl, hv0, hv1⟩
  | succ j ih =>
    intro i  μ hi  hv0 hv1
    have hilt : i < 217 := by omega
    have ei : (nI i).toNatClampNeg = i := nI_clamp (by omega)
    refine zb J_fillAI_s5 rfl ?_
    refine z_cge J_fillAI_d7 (tgt := 20) rfl (fun h7 => absurd h7 (show ¬ 217 ≤ nI i by first | exact nI_ge (b := 217) hilt (by omega) | (rw [hbd]; exact nI_ge hilt (by omega)))) (fun h7 => ?_)
    refine zb1 J_fillAI_s10 rfl (vp_in_nI hilt (by omega)) ?_
    rw [nI_1, ei]
    refine ih (i + 1) _ (by omega) (hv0.tr (zq.w rfl)) (fun k hk => ?_)
    rw [zpI_at]
    by_cases y : k = i
    · rw [if_pos y]
    · rw [if_neg y]
      exact hv1 k (by omega)

set_option maxRecDepth 100000 in
set_option maxHeartbeats 4000000 in
theorem x_fillN_65 {g : zG} {d : Nat} {μ : zMem} (x : Int32) : zM g d J_fillAI [.ref 65, .int x] μ (fun r μ' => r = none ∧ zq (s1 65) μ μ' ∧ ∀ k, k < 217 → μ'.1 65 k = x) := by
  refine zM_of (by decide +kernel) rfl rfl (Nat.le_of_ble_eq_true rfl) rfl ?_
  refine zb J_fillAI_s0 rfl ?_
  exact w_fillN_65 (μ0 := μ) 217 0 μ (by omega) zq.rf (fun k hk => by omega)

set_option maxRecDepth 100000 in
set_option maxHeartbeats 4000000 in
theorem w_fillN_69 {g : zG} {d : Nat} {x : Int32} {μ0 : zMem} : ∀ (j i : Nat) (μ : zMem), i + j = 6 → (zq (s1 69) μ0 μ) → (∀ k, k < i → μ.1 69 k = x) → zW g J_fillAI d 5 [some (.ref 69), some (.int x), some (.int (nI i)), some (.int 6)] [] μ (fun r μ' => r = none ∧ zq (s1 69) μ0 μ' ∧ ∀ k, k < 6 → μ'.1 69 k = x) := by
  intro j
  induction j with
  | zero =>
    intro i  μ hi  hv0 hv1
    have hi : 6 = i := by omega
    subst hi
    refine zb J_fillAI_s5 rfl ?_
    refine z_cge J_fillAI_d7 (tgt := 20) rfl (fun h7 => ?_) (fun h7 => absurd (show 6 ≤ nI (6) by first | exact Int32.le_refl _ | (rw [hbd]; exact Int32.le_refl _)) h7)
    refine z_retV J_fillAI_d20 rfl ?_
    exact ⟨rfl, hv0, hv1⟩
  | succ j ih =>
    intro i  μ hi  hv0 hv1
    have hilt : i < 6 := by omega
    have ei : (nI i).toNatClampNeg = i := nI_clamp (by omega)
    refine zb J_fillAI_s5 rfl ?_
    refine z_cge J_fillAI_d7 (tgt := 20) rfl (fun h7 => absurd h7 (show ¬ 6 ≤ nI i by first | exact nI_ge (b := 6) hilt (by omega) | (rw [hbd]; exact nI_ge hilt (by omega)))) (fun h7 => ?_)
    refine zb1 J_fillAI_s10 rfl (vp_in_nI hilt (by omega)) ?_
    rw [nI_1, ei]
    refine ih (i + 1) _ (by omega) (hv0.tr (zq.w rfl)) (fun k hk => ?_)
    rw [zpI_at]
    by_cases y : k = i
    · rw [if_pos y]
    · rw [if_neg y]
      exact hv1 k (by omega)

set_option maxRecDepth 100000 in
set_option maxHeartbeats 4000000 in
theorem x_fillN_69 {g : zG} {d : Nat} {μ : zMem} (x : Int32) : zM g d J_fillAI [.ref 69, .int x] μ (fun r μ' => r = none ∧ zq (s1 69) μ μ' ∧ ∀ k, k < 6 → μ'.1 69 k = x) := by
  refine zM_of (by decide +kernel) rfl rfl (Nat.le_of_ble_eq_true rfl) rfl ?_
  refine zb J_fillAI_s0 rfl ?_
  exact w_fillN_69 (μ0 := μ) 6 0 μ (by omega) zq.rf (fun k hk => by omega)

set_option maxRecDepth 100000 in
set_option maxHeartbeats 4000000 in
theorem w_fillN_70 {g : zG} {d : Nat} {x : Int32} {μ0 : zMem} : ∀ (j i : Nat) (μ : zMem), i + j = 6 → (zq (s1 70) μ0 μ) → (∀ k, k < i → μ.1 70 k = x) → zW g J_fillAI d 5 [some (.ref 70), some (.int x), some (.int (nI i)), some (.int 6)] [] μ (fun r μ' => r = none ∧ zq (s1 70) μ0 μ' ∧ ∀ k, k < 6 → μ'.1 70 k = x) := by
  intro j
  induction j with
  | zero =>
    intro i  μ hi  hv0 hv1
    have hi : 6 = i := by omega
    subst hi
    refine zb J_fillAI_s5 rfl ?_
    refine z_cge J_fillAI_d7 (tgt := 20) rfl (fun h7 => ?_) (fun h7 => absurd (show 6 ≤ nI (6) by first | exact Int32.le_refl _ | (rw [hbd]; exact Int32.le_refl _)) h7)
    refine z_retV J_fillAI_d20 rfl ?_
    exact ⟨rfl, hv0, hv1⟩
  | succ j ih =>
    intro i  μ hi  hv0 hv1
    have hilt : i < 6 := by omega
    have ei : (nI i).toNatClampNeg = i := nI_clamp (by omega)
    refine zb J_fillAI_s5 rfl ?_
    refine z_cge J_fillAI_d7 (tgt := 20) rfl (fun h7 => absurd h7 (show ¬ 6 ≤ nI i by first | exact nI_ge (b := 6) hilt (by omega) | (rw [hbd]; exact nI_ge hilt (by omega)))) (fun h7 => ?_)
    refine zb1 J_fillAI_s10 rfl (vp_in_nI hilt (by omega)) ?_
    rw [nI_1, ei]
    refine ih (i + 1) _ (by omega) (hv0.tr (zq.w rfl)) (fun k hk => ?_)
    rw [zpI_at]
    by_cases y : k = i
    · rw [if_pos y]
    · rw [if_neg y]
      exact hv1 k (by omega)

set_option maxRecDepth 100000 in
set_option maxHeartbeats 4000000 in
theorem x_fillN_70 {g : zG} {d : Nat} {μ : zMem} (x : Int32) : zM g d J_fillAI [.ref 70, .int x] μ (fun r μ' => r = none ∧ zq (s1 70) μ μ' ∧ ∀ k, k < 6 → μ'.1 70 k = x) := by
  refine zM_of (by decide +kernel) rfl rfl (Nat.le_of_ble_eq_true rfl) rfl ?_
  refine zb J_fillAI_s0 rfl ?_
  exact w_fillN_70 (μ0 := μ) 6 0 μ (by omega) zq.rf (fun k hk => by omega)

set_option maxRecDepth 100000 in
set_option maxHeartbeats 4000000 in
theorem w_fillN_71 {g : zG} {d : Nat} {x : Int32} {μ0 : zMem} : ∀ (j i : Nat) (μ : zMem), i + j = 6 → (zq (s1 71) μ0 μ) → (∀ k, k < i → μ.1 71 k = x) → zW g J_fillAI d 5 [some (.ref 71), some (.int x), some (.int (nI i)), some (.int 6)] [] μ (fun r μ' => r = none ∧ zq (s1 71) μ0 μ' ∧ ∀ k, k < 6 → μ'.1 71 k = x) := by
  intro j
  induction j with
  | zero =>
    intro i  μ hi  hv0 hv1
    have hi : 6 = i := by omega
    subst hi
    refine zb J_fillAI_s5 rfl ?_
    refine z_cge J_fillAI_d7 (tgt := 20) rfl (fun h7 => ?_) (fun h7 => absurd (show 6 ≤ nI (6) by first | exact Int32.le_refl _ | (rw [hbd]; exact Int32.le_refl _)) h7)
    refine z_retV J_fillAI_d20 rfl ?_
    exact ⟨rfl, hv0, hv1⟩
  | succ j ih =>
    intro i  μ hi  hv0 hv1
    have hilt : i < 6 := by omega
    have ei : (nI i).toNatClampNeg = i := nI_clamp (by omega)
    refine zb J_fillAI_s5 rfl ?_
    refine z_cge J_fillAI_d7 (tgt := 20) rfl (fun h7 => absurd h7 (show ¬ 6 ≤ nI i by first | exact nI_ge (b := 6) hilt (by omega) | (rw [hbd]; exact nI_ge hilt (by omega)))) (fun h7 => ?_)
    refine zb1 J_fillAI_s10 rfl (vp_in_nI hilt (by omega)) ?_
    rw [nI_1, ei]
    refine ih (i + 1) _ (by omega) (hv0.tr (zq.w rfl)) (fun k hk => ?_)
    rw [zpI_at]
    by_cases y : k = i
    · rw [if_pos y]
    · rw [if_neg y]
      exact hv1 k (by omega)

set_option maxRecDepth 100000 in
set_option maxHeartbeats 4000000 in
theorem x_fillN_71 {g : zG} {d : Nat} {μ : zMem} (x : Int32) : zM g d J_fillAI [.ref 71, .int x] μ (fun r μ' => r = none ∧ zq (s1 71) μ μ' ∧ ∀ k, k < 6 → μ'.1 71 k = x) := by
  refine zM_of (by decide +kernel) rfl rfl (Nat.le_of_ble_eq_true rfl) rfl ?_
  refine zb J_fillAI_s0 rfl ?_
  exact w_fillN_71 (μ0 := μ) 6 0 μ (by omega) zq.rf (fun k hk => by omega)

set_option maxRecDepth 100000 in
set_option maxHeartbeats 4000000 in
theorem w_fillN_72 {g : zG} {d : Nat} {x : Int32} {μ0 : zMem} : ∀ (j i : Nat) (μ : zMem), i + j = 12 → (zq (s1 72) μ0 μ) → (∀ k, k < i → μ.1 72 k = x) → zW g J_fillAI d 5 [some (.ref 72), some (.int x), some (.int (nI i)), some (.int 12)] [] μ (fun r μ' => r = none ∧ zq (s1 72) μ0 μ' ∧ ∀ k, k < 12 → μ'.1 72 k = x) := by
  intro j
  induction j with
  | zero =>
    intro i  μ hi  hv0 hv1
    have hi : 12 = i := by omega
    subst hi
    refine zb J_fillAI_s5 rfl ?_
    refine z_cge J_fillAI_d7 (tgt := 20) rfl (fun h7 => ?_) (fun h7 => absurd (show 12 ≤ nI (12) by first | exact Int32.le_refl _ | (rw [hbd]; exact Int32.le_refl _)) h7)
    refine z_retV J_fillAI_d20 rfl ?_
    exact ⟨rfl, hv0, hv1⟩
  | succ j ih =>
    intro i  μ hi  hv0 hv1
    have hilt : i < 12 := by omega
    have ei : (nI i).toNatClampNeg = i := nI_clamp (by omega)
    refine zb J_fillAI_s5 rfl ?_
    refine z_cge J_fillAI_d7 (tgt := 20) rfl (fun h7 => absurd h7 (show ¬ 12 ≤ nI i by first | exact nI_ge (b := 12) hilt (by omega) | (rw [hbd]; exact nI_ge hilt (by omega)))) (fun h7 => ?_)
    refine zb1 J_fillAI_s10 rfl (vp_in_nI hilt (by omega)) ?_
    rw [nI_1, ei]
    refine ih (i + 1) _ (by omega) (hv0.tr (zq.w rfl)) (fun k hk => ?_)
    rw [zpI_at]
    by_cases y : k = i
    · rw [if_pos y]
    · rw [if_neg y]
      exact hv1 k (by omega)

set_option maxRecDepth 100000 in
set_option maxHeartbeats 4000000 in
theorem x_fillN_72 {g : zG} {d : Nat} {μ : zMem} (x : Int32) : zM g d J_fillAI [.ref 72, .int x] μ (fun r μ' => r = none ∧ zq (s1 72) μ μ' ∧ ∀ k, k < 12 → μ'.1 72 k = x) := by
  refine zM_of (by decide +kernel) rfl rfl (Nat.le_of_ble_eq_true rfl) rfl ?_
  refine zb J_fillAI_s0 rfl ?_
  exact w_fillN_72 (μ0 := μ) 12 0 μ (by omega) zq.rf (fun k hk => by omega)

def bcA (x : Int32) : Int32 := x - (((x).toUInt32 >>> ((1 : Int32).toUInt32 &&& Int32.toUInt32 31)).toInt32 &&& 1431655765)
def bcB (x : Int32) : Int32 := (bcA x &&& 858993459) + (((bcA x).toUInt32 >>> ((2 : Int32).toUInt32 &&& Int32.toUInt32 31)).toInt32 &&& 858993459)
def bcC (x : Int32) : Int32 := (bcB x + ((bcB x).toUInt32 >>> ((4 : Int32).toUInt32 &&& Int32.toUInt32 31)).toInt32) &&& 252645135
def bcD (x : Int32) : Int32 := bcC x + ((bcC x).toUInt32 >>> ((8 : Int32).toUInt32 &&& Int32.toUInt32 31)).toInt32
def bcE (x : Int32) : Int32 := (bcD x + ((bcD x).toUInt32 >>> ((16 : Int32).toUInt32 &&& Int32.toUInt32 31)).toInt32) &&& 63
set_option maxRecDepth 100000 in
theorem bc_pop {x : Nat} (hx : x < 4096) : bcE (nI x) = nI (popN 12 x) := by
  have key : (List.range 4096).all (fun x => decide (bcE (nI x) = nI (popN 12 x))) = true := by decide +kernel
  exact of_decide_eq_true (List.all_eq_true.mp key x (List.mem_range.mpr hx))
set_option maxRecDepth 100000 in
theorem ones_pop {x : Nat} (hx : x < 4096) : onesI (nI x) = nI (popN 12 x) := by
  have key : (List.range 4096).all (fun x => decide (onesI (nI x) = nI (popN 12 x))) = true := by decide +kernel
  exact of_decide_eq_true (List.all_eq_true.mp key x (List.mem_range.mpr hx))
theorem popN_le : ∀ (n A : Nat), popN n A ≤ n
  | 0, _ => Nat.le_refl _
  | n + 1, A => by
    have := popN_le n (A / 2)
    rw [popN]
    omega
theorem popN_up : ∀ (n m A : Nat), A < 2 ^ n → n ≤ m → popN m A = popN n A
  | 0, 0, _, _, _ => rfl
  | 0, m + 1, A, h, _ => by
    have e : A = 0 := by simp at h; exact h
    subst e
    have := popN_up 0 m 0 (by decide) (Nat.zero_le _)
    show 0 % 2 + popN m (0 / 2) = 0
    rw [Nat.zero_div, this]
    rfl
  | n + 1, 0, _, _, h => by omega
  | n + 1, m + 1, A, h, h2 => by
    rw [popN, popN, popN_up n m (A / 2) (by rw [Nat.pow_succ] at h; omega) (by omega)]
theorem shl_pop {n A : Nat} (hn : n ≤ 12) (hA : A < 2 ^ n) : (1 : Int32) <<< (nI (popN 12 A) &&& 31) = nI (2 ^ popN n A) := by
  rw [popN_up n 12 A hA hn]
  have h := popN_le n A
  have key : ∀ k : Fin 13, (1 : Int32) <<< (nI k.1 &&& 31) = nI (2 ^ k.1) := by decide
  exact key ⟨popN n A, by omega⟩
theorem pop_2 {n A : Nat} (hn : n ≤ 12) : 2 ^ popN n A ≤ 4096 := Nat.pow_le_pow_right (by decide) (Nat.le_trans (popN_le n A) hn)
theorem lt_2 {n A : Nat} (hn : n ≤ 12) (hA : A < 2 ^ n) : A < 4096 := Nat.lt_of_lt_of_le hA (Nat.pow_le_pow_right (by decide) hn)
def moreS (m : Nat → Int32) (s : Nat) : Int32 := zsum (fun v => if s / 2 ^ v % 2 = 1 then m v else 0) 12
theorem moreS_congr {m m' : Nat → Int32} {s : Nat} (h : ∀ v, v < 12 → s / 2 ^ v % 2 = 1 → m v = m' v) : moreS m s = moreS m' s := by
  refine zsum_congr _ (fun v hv => ?_)
  by_cases q : s / 2 ^ v % 2 = 1
  · rw [if_pos q, if_pos q, h v hv q]
  · rw [if_neg q, if_neg q]
theorem bit_has {v s : Nat} (hv : v < 12) (hs : s < 4096) : hasB (nI s) (nI v) ↔ s / 2 ^ v % 2 = 1 := by
  unfold hasB
  rw [bit_at hv hs]
  rcases Nat.mod_two_eq_zero_or_one (s / 2 ^ v) with h | h <;> rw [h] <;> decide
theorem sbm_bits {A s v : Nat} (h : sbm A s) (hb : s / 2 ^ v % 2 = 1) : A / 2 ^ v % 2 = 1 := by
  unfold sbm at h
  rw [← h, Nat.and_div_two_pow, Nat.and_mod_two_eq_one] at hb
  exact hb.2

set_option maxRecDepth 100000 in
set_option maxHeartbeats 4000000 in
theorem x_bitCount {g : zG} {d x : Nat} {μ : zMem} (hx : x < 4096) : zM g d J_bitCountI [.int (nI x)] μ (fun r μ' => r = some (.int (nI (popN 12 x))) ∧ μ' = μ) := by
  refine zM_of (by decide +kernel) rfl rfl (Nat.le_of_ble_eq_true rfl) rfl ?_
  refine zb J_bitCountI_s0 rfl ?_
  refine z_ret J_bitCountI_d52 rfl ?_
  rw [← bc_pop hx]
  exact ⟨rfl, rfl⟩

set_option maxRecDepth 100000 in
set_option maxHeartbeats 4000000 in
theorem w_moreBy {g : zG} {d s : Nat} (hs : s < 4096) : ∀ (j i : Nat) (acc : Int32) (μ : zMem), i + j = 12 → (acc = zsum (fun v => if s / 2 ^ v % 2 = 1 then μ.1 64 v else 0) i) → zW g L_moreBy d 4 [some (.ref 5), some (.int (nI s)), some (.int acc), some (.int (nI i))] [] μ (fun r μ' => r = some (.int (moreS (μ.1 64) s)) ∧ μ' = μ) := by
  intro j
  induction j with
  | zero =>
    intro i acc μ hi  hv0
    have hi : 12 = i := by omega
    subst hi
    refine zb L_moreBy_s4 rfl ?_
    refine z_cge L_moreBy_d7 (tgt := 34) rfl (fun h7 => ?_) (fun h7 => absurd (show 12 ≤ nI (12) by first | exact Int32.le_refl _ | (rw [hbd]; exact Int32.le_refl _)) h7)
    refine zb L_moreBy_s34 rfl ?_
    refine z_ret L_moreBy_d35 rfl ?_
    exact ⟨by rw [hv0]; rfl, rfl⟩
  | succ j ih =>
    intro i acc μ hi  hv0
    have hilt : i < 12 := by omega
    have ei : (nI i).toNatClampNeg = i := nI_clamp (by omega)
    refine zb L_moreBy_s4 rfl ?_
    refine z_cge L_moreBy_d7 (tgt := 34) rfl (fun h7 => absurd h7 (show ¬ 12 ≤ nI i by first | exact nI_ge (b := 12) hilt (by omega) | (rw [hbd]; exact nI_ge hilt (by omega)))) (fun h7 => ?_)
    refine zb L_moreBy_s10 rfl ?_
    refine z_cne L_moreBy_d16 (tgt := 28) rfl (fun h16 => ?_) (fun h16 => ?_)
    · refine zb L_moreBy_s28 rfl ?_
      rw [nI_1]
      have hbt := bit_has (v := i) (s := s) hilt hs
      refine ih (i + 1) _ _ (by omega) ?_
      rw [zsum_s, ← hv0]
      first
        | rw [if_pos (hbt.mp h16), ei]
        | rw [if_neg (fun z => h16 (hbt.mpr z)), Int32.add_zero]
    · refine zb1 L_moreBy_s19 rfl (vp_in_nI hilt (by omega)) ?_
      rw [nI_1]
      have hbt := bit_has (v := i) (s := s) hilt hs
      refine ih (i + 1) _ _ (by omega) ?_
      rw [zsum_s, ← hv0]
      first
        | rw [if_pos (hbt.mp h16), ei]
        | rw [if_neg (fun z => h16 (hbt.mpr z)), Int32.add_zero]

set_option maxRecDepth 100000 in
set_option maxHeartbeats 4000000 in
theorem x_moreBy {g : zG} {d s : Nat} {μ : zMem} (hs : s < 4096) : zM g d L_moreBy [.ref 5, .int (nI s)] μ (fun r μ' => r = some (.int (moreS (μ.1 64) s)) ∧ μ' = μ) := by
  refine zM_of (by decide +kernel) rfl rfl (Nat.le_of_ble_eq_true rfl) rfl ?_
  refine zb L_moreBy_s0 rfl ?_
  exact w_moreBy hs 12 0 0 μ (by omega) rfl

set_option maxRecDepth 100000 in
set_option maxHeartbeats 4000000 in
theorem x_nextSet {g : zG} {d n A s : Nat} {μ : zMem} (hn : n ≤ 12) (hA : A < 2 ^ n) (hs : sbm A s) : zM g d L_nextSet [.int (nI s), .int (nI A)] μ (fun r μ' => r = some (.int (nI (nx A s))) ∧ μ' = μ) := by
  refine zM_of (by decide +kernel) rfl rfl (Nat.le_of_ble_eq_true rfl) rfl ?_
  refine zb L_nextSet_s0 rfl ?_
  refine z_ret L_nextSet_d5 rfl ?_
  rw [← nx_I hn hA hs]
  exact ⟨rfl, rfl⟩
