/-! the class: rows filled, what the bells are off, bits counted -/
def offWT (F : zF) (day h wo : Int32) (b v : Nat) : Int32 := if (wo >>> (nI v &&& 31)) &&& 1 = 0 ∧ fbell F v = nI b then pu F v (nI b) day h else 0
def offW (F : zF) (day h wo : Int32) (b : Nat) : Int32 := zsum (offWT F day h wo b) (fV F)

set_option maxRecDepth 100000 in
set_option maxHeartbeats 4000000 in
theorem w_fill_62 {g : zG} {d : Nat} {x : Int32} {μ0 : zMem} : ∀ (j i : Nat) (μ : zMem), i + j = 6 → (zq sX μ0 μ) → (∀ k, k < i → μ.1 62 k = x) → zW g J_fillAI d 5 [some (.ref 62), some (.int x), some (.int (nI i)), some (.int 6)] [] μ (fun r μ' => r = none ∧ zq sX μ0 μ' ∧ ∀ k, k < 6 → μ'.1 62 k = x) := by
  intro j
  induction j with
  | zero =>
    intro i  μ hi  hv0 hv1
    have hi : 6 = i := by omega
    subst hi
    refine zb J_fillAI_s5 rfl ?_
    refine z_cge J_fillAI_d7 (tgt := 20) rfl (fun h7 => ?_) (fun h7 => absurd (show 6 ≤ nI (6) by first | exact Int32.le_refl _ | (rw [hbd]; exact Int32.le_refl _)) h7)
    refine z_retV J_fillAI_d20 rfl ?_
    exact ⟨rfl, hv0, hv1⟩
  | succ j ih =>
    intro i  μ hi  hv0 hv1
    have hilt : i < 6 := by omega
    have ei : (nI i).toNatClampNeg = i := nI_clamp (by omega)
    refine zb J_fillAI_s5 rfl ?_
    refine z_cge J_fillAI_d7 (tgt := 20) rfl (fun h7 => absurd h7 (show ¬ 6 ≤ nI i by first | exact nI_ge (b := 6) hilt (by omega) | (rw [hbd]; exact nI_ge hilt (by omega)))) (fun h7 => ?_)
    refine zb1 J_fillAI_s10 rfl (vp_in_nI hilt (by omega)) ?_
    rw [nI_1, ei]
    refine ih (i + 1) _ (by omega) (hv0.tr (zq.w rfl)) (fun k hk => ?_)
    rw [zpI_at]
    by_cases y : k = i
    · rw [if_pos y]
    · rw [if_neg y]
      exact hv1 k (by omega)

set_option maxRecDepth 100000 in
set_option maxHeartbeats 4000000 in
theorem x_fill_62 {g : zG} {d : Nat} {μ : zMem} (x : Int32) : zM g d J_fillAI [.ref 62, .int x] μ (fun r μ' => r = none ∧ zq sX μ μ' ∧ ∀ k, k < 6 → μ'.1 62 k = x) := by
  refine zM_of (by decide +kernel) rfl rfl (Nat.le_of_ble_eq_true rfl) rfl ?_
  refine zb J_fillAI_s0 rfl ?_
  exact w_fill_62 (μ0 := μ) 6 0 μ (by omega) zq.rf (fun k hk => by omega)

set_option maxRecDepth 100000 in
set_option maxHeartbeats 4000000 in
theorem w_fill_65 {g : zG} {d : Nat} {x : Int32} {μ0 : zMem} : ∀ (j i : Nat) (μ : zMem), i + j = 217 → (zq sX μ0 μ) → (∀ k, k < i → μ.1 65 k = x) → zW g J_fillAI d 5 [some (.ref 65), some (.int x), some (.int (nI i)), some (.int 217)] [] μ (fun r μ' => r = none ∧ zq sX μ0 μ' ∧ ∀ k, k < 217 → μ'.1 65 k = x) := by
  intro j
  induction j with
  | zero =>
    intro i  μ hi  hv0 hv1
    have hi : 217 = i := by omega
    subst hi
    refine zb J_fillAI_s5 rfl ?_
    refine z_cge J_fillAI_d7 (tgt := 20) rfl (fun h7 => ?_) (fun h7 => absurd (show 217 ≤ nI (217) by first | exact Int32.le_refl _ | (rw [hbd]; exact Int32.le_refl _)) h7)
    refine z_retV J_fillAI_d20 rfl ?_
    exact ⟨rfl, hv0, hv1⟩
  | succ j ih =>
    intro i  μ hi  hv0 hv1
    have hilt : i < 217 := by omega
    have ei : (nI i).toNatClampNeg = i := nI_clamp (by omega)
    refine zb J_fillAI_s5 rfl ?_
    refine z_cge J_fillAI_d7 (tgt := 20) rfl (fun h7 => absurd h7 (show ¬ 217 ≤ nI i by first | exact nI_ge (b := 217) hilt (by omega) | (rw [hbd]; exact nI_ge hilt (by omega)))) (fun h7 => ?_)
    refine zb1 J_fillAI_s10 rfl (vp_in_nI hilt (by omega)) ?_
    rw [nI_1, ei]
    refine ih (i + 1) _ (by omega) (hv0.tr (zq.w rfl)) (fun k hk => ?_)
    rw [zpI_at]
    by_cases y : k = i
    · rw [if_pos y]
    · rw [if_neg y]
      exact hv1 k (by omega)

set_option maxRecDepth 100000 in
set_option maxHeartbeats 4000000 in
theorem x_fill_65 {g : zG} {d : Nat} {μ : zMem} (x : Int32) : zM g d J_fillAI [.ref 65, .int x] μ (fun r μ' => r = none ∧ zq sX μ μ' ∧ ∀ k, k < 217 → μ'.1 65 k = x) := by
  refine zM_of (by decide +kernel) rfl rfl (Nat.le_of_ble_eq_true rfl) rfl ?_
  refine zb J_fillAI_s0 rfl ?_
  exact w_fill_65 (μ0 := μ) 217 0 μ (by omega) zq.rf (fun k hk => by omega)

set_option maxRecDepth 100000 in
set_option maxHeartbeats 4000000 in
theorem w_fill_69 {g : zG} {d : Nat} {x : Int32} {μ0 : zMem} : ∀ (j i : Nat) (μ : zMem), i + j = 6 → (zq sX μ0 μ) → (∀ k, k < i → μ.1 69 k = x) → zW g J_fillAI d 5 [some (.ref 69), some (.int x), some (.int (nI i)), some (.int 6)] [] μ (fun r μ' => r = none ∧ zq sX μ0 μ' ∧ ∀ k, k < 6 → μ'.1 69 k = x) := by
  intro j
  induction j with
  | zero =>
    intro i  μ hi  hv0 hv1
    have hi : 6 = i := by omega
    subst hi
    refine zb J_fillAI_s5 rfl ?_
    refine z_cge J_fillAI_d7 (tgt := 20) rfl (fun h7 => ?_) (fun h7 => absurd (show 6 ≤ nI (6) by first | exact Int32.le_refl _ | (rw [hbd]; exact Int32.le_refl _)) h7)
    refine z_retV J_fillAI_d20 rfl ?_
    exact ⟨rfl, hv0, hv1⟩
  | succ j ih =>
    intro i  μ hi  hv0 hv1
    have hilt : i < 6 := by omega
    have ei : (nI i).toNatClampNeg = i := nI_clamp (by omega)
    refine zb J_fillAI_s5 rfl ?_
    refine z_cge J_fillAI_d7 (tgt := 20) rfl (fun h7 => absurd h7 (show ¬ 6 ≤ nI i by first | exact nI_ge (b := 6) hilt (by omega) | (rw [hbd]; exact nI_ge hilt (by omega)))) (fun h7 => ?_)
    refine zb1 J_fillAI_s10 rfl (vp_in_nI hilt (by omega)) ?_
    rw [nI_1, ei]
    refine ih (i + 1) _ (by omega) (hv0.tr (zq.w rfl)) (fun k hk => ?_)
    rw [zpI_at]
    by_cases y : k = i
    · rw [if_pos y]
    · rw [if_neg y]
      exact hv1 k (by omega)

set_option maxRecDepth 100000 in
set_option maxHeartbeats 4000000 in
theorem x_fill_69 {g : zG} {d : Nat} {μ : zMem} (x : Int32) : zM g d J_fillAI [.ref 69, .int x] μ (fun r μ' => r = none ∧ zq sX μ μ' ∧ ∀ k, k < 6 → μ'.1 69 k = x) := by
  refine zM_of (by decide +kernel) rfl rfl (Nat.le_of_ble_eq_true rfl) rfl ?_
  refine zb J_fillAI_s0 rfl ?_
  exact w_fill_69 (μ0 := μ) 6 0 μ (by omega) zq.rf (fun k hk => by omega)

set_option maxRecDepth 100000 in
set_option maxHeartbeats 4000000 in
theorem w_fill_70 {g : zG} {d : Nat} {x : Int32} {μ0 : zMem} : ∀ (j i : Nat) (μ : zMem), i + j = 6 → (zq sX μ0 μ) → (∀ k, k < i → μ.1 70 k = x) → zW g J_fillAI d 5 [some (.ref 70), some (.int x), some (.int (nI i)), some (.int 6)] [] μ (fun r μ' => r = none ∧ zq sX μ0 μ' ∧ ∀ k, k < 6 → μ'.1 70 k = x) := by
  intro j
  induction j with
  | zero =>
    intro i  μ hi  hv0 hv1
    have hi : 6 = i := by omega
    subst hi
    refine zb J_fillAI_s5 rfl ?_
    refine z_cge J_fillAI_d7 (tgt := 20) rfl (fun h7 => ?_) (fun h7 => absurd (show 6 ≤ nI (6) by first | exact Int32.le_refl _ | (rw [hbd]; exact Int32.le_refl _)) h7)
    refine z_retV J_fillAI_d20 rfl ?_
    exact ⟨rfl, hv0, hv1⟩
  | succ j ih =>
    intro i  μ hi  hv0 hv1
    have hilt : i < 6 := by omega
    have ei : (nI i).toNatClampNeg = i := nI_clamp (by omega)
    refine zb J_fillAI_s5 rfl ?_
    refine z_cge J_fillAI_d7 (tgt := 20) rfl (fun h7 => absurd h7 (show ¬ 6 ≤ nI i by first | exact nI_ge (b := 6) hilt (by omega) | (rw [hbd]; exact nI_ge hilt (by omega)))) (fun h7 => ?_)
    refine zb1 J_fillAI_s10 rfl (vp_in_nI hilt (by omega)) ?_
    rw [nI_1, ei]
    refine ih (i + 1) _ (by omega) (hv0.tr (zq.w rfl)) (fun k hk => ?_)
    rw [zpI_at]
    by_cases y : k = i
    · rw [if_pos y]
    · rw [if_neg y]
      exact hv1 k (by omega)

set_option maxRecDepth 100000 in
set_option maxHeartbeats 4000000 in
theorem x_fill_70 {g : zG} {d : Nat} {μ : zMem} (x : Int32) : zM g d J_fillAI [.ref 70, .int x] μ (fun r μ' => r = none ∧ zq sX μ μ' ∧ ∀ k, k < 6 → μ'.1 70 k = x) := by
  refine zM_of (by decide +kernel) rfl rfl (Nat.le_of_ble_eq_true rfl) rfl ?_
  refine zb J_fillAI_s0 rfl ?_
  exact w_fill_70 (μ0 := μ) 6 0 μ (by omega) zq.rf (fun k hk => by omega)

set_option maxRecDepth 100000 in
set_option maxHeartbeats 4000000 in
theorem w_fill_71 {g : zG} {d : Nat} {x : Int32} {μ0 : zMem} : ∀ (j i : Nat) (μ : zMem), i + j = 6 → (zq sX μ0 μ) → (∀ k, k < i → μ.1 71 k = x) → zW g J_fillAI d 5 [some (.ref 71), some (.int x), some (.int (nI i)), some (.int 6)] [] μ (fun r μ' => r = none ∧ zq sX μ0 μ' ∧ ∀ k, k < 6 → μ'.1 71 k = x) := by
  intro j
  induction j with
  | zero =>
    intro i  μ hi  hv0 hv1
    have hi : 6 = i := by omega
    subst hi
    refine zb J_fillAI_s5 rfl ?_
    refine z_cge J_fillAI_d7 (tgt := 20) rfl (fun h7 => ?_) (fun h7 => absurd (show 6 ≤ nI (6) by first | exact Int32.le_refl _ | (rw [hbd]; exact Int32.le_refl _)) h7)
    refine z_retV J_fillAI_d20 rfl ?_
    exact ⟨rfl, hv0, hv1⟩
  | succ j ih =>
    intro i  μ hi  hv0 hv1
    have hilt : i < 6 := by omega
    have ei : (nI i).toNatClampNeg = i := nI_clamp (by omega)
    refine zb J_fillAI_s5 rfl ?_
    refine z_cge J_fillAI_d7 (tgt := 20) rfl (fun h7 => absurd h7 (show ¬ 6 ≤ nI i by first | exact nI_ge (b := 6) hilt (by omega) | (rw [hbd]; exact nI_ge hilt (by omega)))) (fun h7 => ?_)
    refine zb1 J_fillAI_s10 rfl (vp_in_nI hilt (by omega)) ?_
    rw [nI_1, ei]
    refine ih (i + 1) _ (by omega) (hv0.tr (zq.w rfl)) (fun k hk => ?_)
    rw [zpI_at]
    by_cases y : k = i
    · rw [if_pos y]
    · rw [if_neg y]
      exact hv1 k (by omega)

set_option maxRecDepth 100000 in
set_option maxHeartbeats 4000000 in
theorem x_fill_71 {g : zG} {d : Nat} {μ : zMem} (x : Int32) : zM g d J_fillAI [.ref 71, .int x] μ (fun r μ' => r = none ∧ zq sX μ μ' ∧ ∀ k, k < 6 → μ'.1 71 k = x) := by
  refine zM_of (by decide +kernel) rfl rfl (Nat.le_of_ble_eq_true rfl) rfl ?_
  refine zb J_fillAI_s0 rfl ?_
  exact w_fill_71 (μ0 := μ) 6 0 μ (by omega) zq.rf (fun k hk => by omega)

set_option maxRecDepth 100000 in
set_option maxHeartbeats 4000000 in
theorem w_fill_72 {g : zG} {d : Nat} {x : Int32} {μ0 : zMem} : ∀ (j i : Nat) (μ : zMem), i + j = 12 → (zq sX μ0 μ) → (∀ k, k < i → μ.1 72 k = x) → zW g J_fillAI d 5 [some (.ref 72), some (.int x), some (.int (nI i)), some (.int 12)] [] μ (fun r μ' => r = none ∧ zq sX μ0 μ' ∧ ∀ k, k < 12 → μ'.1 72 k = x) := by
  intro j
  induction j with
  | zero =>
    intro i  μ hi  hv0 hv1
    have hi : 12 = i := by omega
    subst hi
    refine zb J_fillAI_s5 rfl ?_
    refine z_cge J_fillAI_d7 (tgt := 20) rfl (fun h7 => ?_) (fun h7 => absurd (show 12 ≤ nI (12) by first | exact Int32.le_refl _ | (rw [hbd]; exact Int32.le_refl _)) h7)
    refine z_retV J_fillAI_d20 rfl ?_
    exact ⟨rfl, hv0, hv1⟩
  | succ j ih =>
    intro i  μ hi  hv0 hv1
    have hilt : i < 12 := by omega
    have ei : (nI i).toNatClampNeg = i := nI_clamp (by omega)
    refine zb J_fillAI_s5 rfl ?_
    refine z_cge J_fillAI_d7 (tgt := 20) rfl (fun h7 => absurd h7 (show ¬ 12 ≤ nI i by first | exact nI_ge (b := 12) hilt (by omega) | (rw [hbd]; exact nI_ge hilt (by omega)))) (fun h7 => ?_)
    refine zb1 J_fillAI_s10 rfl (vp_in_nI hilt (by omega)) ?_
    rw [nI_1, ei]
    refine ih (i + 1) _ (by omega) (hv0.tr (zq.w rfl)) (fun k hk => ?_)
    rw [zpI_at]
    by_cases y : k = i
    · rw [if_pos y]
    · rw [if_neg y]
      exact hv1 k (by omega)

set_option maxRecDepth 100000 in
set_option maxHeartbeats 4000000 in
theorem x_fill_72 {g : zG} {d : Nat} {μ : zMem} (x : Int32) : zM g d J_fillAI [.ref 72, .int x] μ (fun r μ' => r = none ∧ zq sX μ μ' ∧ ∀ k, k < 12 → μ'.1 72 k = x) := by
  refine zM_of (by decide +kernel) rfl rfl (Nat.le_of_ble_eq_true rfl) rfl ?_
  refine zb J_fillAI_s0 rfl ?_
  exact w_fill_72 (μ0 := μ) 12 0 μ (by omega) zq.rf (fun k hk => by omega)

set_option maxRecDepth 100000 in
set_option maxHeartbeats 4000000 in
theorem w_fillOffs_62 {g : zG} {d : Nat} {F : zF} {μ0 : zMem} {wo day h : Int32} (hF : okF F) (hd : 5 ≤ d) : ∀ (j i : Nat) (μ : zMem), i + j = fV F → oX F μ → zq sX μ0 μ → (∀ b, b < 6 → μ.1 62 b = zsum (offWT F day h wo b) i) → zW g F_fillOffs d 8 [some (.ref 2), some (.ref 62), some (.int day), some (.int h), some (.int wo), some (.int (nI i))] [] μ (fun r μ' => r = none ∧ zq sX μ0 μ' ∧ ∀ b, b < 6 → μ'.1 62 b = offW F day h wo b) := by
  intro j
  induction j with
  | zero =>
    intro i  μ hi ho hz hv0
    have hbd := ho.v
    have h12 := ho.v12
    have h6 := ho.b6
    have hi : fV F = i := by omega
    subst hi
    refine zb F_fillOffs_s8 rfl ?_
    refine z_cge F_fillOffs_d14 (tgt := 66) rfl (fun h14 => ?_) (fun h14 => absurd (show μ.1 2 8 ≤ nI (fV F) by first | exact Int32.le_refl _ | (rw [hbd]; exact Int32.le_refl _)) h14)
    refine z_retV F_fillOffs_d66 rfl ?_
    exact ⟨rfl, hz, hv0⟩
  | succ j ih =>
    intro i  μ hi ho hz hv0
    have hbd := ho.v
    have h12 := ho.v12
    have h6 := ho.b6
    have hilt : i < fV F := by omega
    have ei : (nI i).toNatClampNeg = i := nI_clamp (by omega)
    have hvi : vp_in (nI i) 12 := vp_in_nI (by omega) (by omega)
    obtain ⟨b0, hb0, eb0⟩ := (hF.2.1 i hilt).1
    have hvb : vp_in (μ.1 56 (nI i).toNatClampNeg) 6 := by rw [ho.e56, ei, eb0]; exact vp_in_nI (by omega) (by omega)
    have hvb2 : vp_in (nI b0) 6 := vp_in_nI (by omega) (by omega)
    have ec : (nI b0).toNatClampNeg = b0 := nI_clamp (by omega)
    refine zb F_fillOffs_s8 rfl ?_
    refine z_cge F_fillOffs_d14 (tgt := 66) rfl (fun h14 => absurd h14 (show ¬ μ.1 2 8 ≤ nI i by first | exact nI_ge hilt (by omega) | (rw [hbd]; exact nI_ge hilt (by omega)))) (fun h14 => ?_)
    refine zb F_fillOffs_s17 rfl ?_
    refine z_ne F_fillOffs_d24 (tgt := 60) rfl (fun h24 => ?_) (fun h24 => ?_)
    · refine zb F_fillOffs_s60 rfl ?_
      rw [nI_1]
      first
        | (rw [ec, ofI_pu hF hilt, hv0 b0 (by omega)]
           refine ih (i + 1) _ (by omega) (ho.q (zq.w rfl)) (hz.tr (zq.w rfl)) (fun b hb => ?_)
           rw [zpI_at, zsum_s]
           unfold offWT
           by_cases y : b = b0
           · rw [if_pos y, y, if_pos (show (wo >>> (nI i &&& 31)) &&& 1 = 0 ∧ fbell F i = nI b0 from And.intro h24 eb0)]
           · rw [if_neg y, if_neg (fun z => y ((nI_eq (by omega) (by omega)).mp (z.2.symm.trans eb0)))]
             rw [Int32.add_zero]
             exact hv0' b hb)
        | (refine ih (i + 1) _ (by omega) ho hz (fun b hb => ?_)
           rw [zsum_s, ← hv0 b hb]
           unfold offWT
           rw [if_neg (fun z => (show ¬ (wo >>> (nI i &&& 31)) &&& 1 = 0 from h24) z.1), Int32.add_zero])
    · refine zb3 F_fillOffs_s27 rfl (by first | exact hvi | exact hvb | exact hvb2) (by first | exact hvi | exact hvb | exact hvb2) (by first | exact hvi | exact hvb | exact hvb2) ?_
      rw [ho.e56, ei, eb0, ec]
      refine zcallV F_fillOffs_d51 k4_95 (by omega) (x_daysBroken _ (by omega) (by omega) ho) rfl rfl rfl (Nat.le_of_ble_eq_true rfl) ?_
      rintro _ μx ⟨rfl, hx⟩
      rw [hx]
      clear hx μx
      refine zb F_fillOffs_s54 rfl ?_
      refine zcallV F_fillOffs_d55 k4_98 (by omega) (x_offIf (by omega) (by omega) ho) rfl rfl rfl (Nat.le_of_ble_eq_true rfl) ?_
      rintro _ μ1 ⟨rfl, hz1⟩
      have hv0' : ∀ b, b < 6 → μ1.1 62 b = zsum (offWT F day h wo b) i := fun b hb => by rw [hz1.1 62 b rfl]; exact hv0 b hb
      replace hz := hz.tr (hz1.mono nS_sX)
      replace ho := ho.q (hz1.mono nS_sX)
      refine zb1 F_fillOffs_s58 rfl (by first | exact hvi | exact hvb | exact hvb2) ?_
      rw [nI_1]
      first
        | (rw [ec, ofI_pu hF hilt, hv0 b0 (by omega)]
           refine ih (i + 1) _ (by omega) (ho.q (zq.w rfl)) (hz.tr (zq.w rfl)) (fun b hb => ?_)
           rw [zpI_at, zsum_s]
           unfold offWT
           by_cases y : b = b0
           · rw [if_pos y, y, if_pos (show (wo >>> (nI i &&& 31)) &&& 1 = 0 ∧ fbell F i = nI b0 from And.intro h24 eb0)]
           · rw [if_neg y, if_neg (fun z => y ((nI_eq (by omega) (by omega)).mp (z.2.symm.trans eb0)))]
             rw [Int32.add_zero]
             exact hv0' b hb)
        | (refine ih (i + 1) _ (by omega) ho hz (fun b hb => ?_)
           rw [zsum_s, ← hv0 b hb]
           unfold offWT
           rw [if_neg (fun z => (show ¬ (wo >>> (nI i &&& 31)) &&& 1 = 0 from h24) z.1), Int32.add_zero])

set_option maxRecDepth 100000 in
set_option maxHeartbeats 4000000 in
theorem w_fillOffs_69 {g : zG} {d : Nat} {F : zF} {μ0 : zMem} {wo day h : Int32} (hF : okF F) (hd : 5 ≤ d) : ∀ (j i : Nat) (μ : zMem), i + j = fV F → oX F μ → zq sX μ0 μ → (∀ b, b < 6 → μ.1 69 b = zsum (offWT F day h wo b) i) → zW g F_fillOffs d 8 [some (.ref 2), some (.ref 69), some (.int day), some (.int h), some (.int wo), some (.int (nI i))] [] μ (fun r μ' => r = none ∧ zq sX μ0 μ' ∧ ∀ b, b < 6 → μ'.1 69 b = offW F day h wo b) := by
  intro j
  induction j with
  | zero =>
    intro i  μ hi ho hz hv0
    have hbd := ho.v
    have h12 := ho.v12
    have h6 := ho.b6
    have hi : fV F = i := by omega
    subst hi
    refine zb F_fillOffs_s8 rfl ?_
    refine z_cge F_fillOffs_d14 (tgt := 66) rfl (fun h14 => ?_) (fun h14 => absurd (show μ.1 2 8 ≤ nI (fV F) by first | exact Int32.le_refl _ | (rw [hbd]; exact Int32.le_refl _)) h14)
    refine z_retV F_fillOffs_d66 rfl ?_
    exact ⟨rfl, hz, hv0⟩
  | succ j ih =>
    intro i  μ hi ho hz hv0
    have hbd := ho.v
    have h12 := ho.v12
    have h6 := ho.b6
    have hilt : i < fV F := by omega
    have ei : (nI i).toNatClampNeg = i := nI_clamp (by omega)
    have hvi : vp_in (nI i) 12 := vp_in_nI (by omega) (by omega)
    obtain ⟨b0, hb0, eb0⟩ := (hF.2.1 i hilt).1
    have hvb : vp_in (μ.1 56 (nI i).toNatClampNeg) 6 := by rw [ho.e56, ei, eb0]; exact vp_in_nI (by omega) (by omega)
    have hvb2 : vp_in (nI b0) 6 := vp_in_nI (by omega) (by omega)
    have ec : (nI b0).toNatClampNeg = b0 := nI_clamp (by omega)
    refine zb F_fillOffs_s8 rfl ?_
    refine z_cge F_fillOffs_d14 (tgt := 66) rfl (fun h14 => absurd h14 (show ¬ μ.1 2 8 ≤ nI i by first | exact nI_ge hilt (by omega) | (rw [hbd]; exact nI_ge hilt (by omega)))) (fun h14 => ?_)
    refine zb F_fillOffs_s17 rfl ?_
    refine z_ne F_fillOffs_d24 (tgt := 60) rfl (fun h24 => ?_) (fun h24 => ?_)
    · refine zb F_fillOffs_s60 rfl ?_
      rw [nI_1]
      first
        | (rw [ec, ofI_pu hF hilt, hv0 b0 (by omega)]
           refine ih (i + 1) _ (by omega) (ho.q (zq.w rfl)) (hz.tr (zq.w rfl)) (fun b hb => ?_)
           rw [zpI_at, zsum_s]
           unfold offWT
           by_cases y : b = b0
           · rw [if_pos y, y, if_pos (show (wo >>> (nI i &&& 31)) &&& 1 = 0 ∧ fbell F i = nI b0 from And.intro h24 eb0)]
           · rw [if_neg y, if_neg (fun z => y ((nI_eq (by omega) (by omega)).mp (z.2.symm.trans eb0)))]
             rw [Int32.add_zero]
             exact hv0' b hb)
        | (refine ih (i + 1) _ (by omega) ho hz (fun b hb => ?_)
           rw [zsum_s, ← hv0 b hb]
           unfold offWT
           rw [if_neg (fun z => (show ¬ (wo >>> (nI i &&& 31)) &&& 1 = 0 from h24) z.1), Int32.add_zero])
    · refine zb3 F_fillOffs_s27 rfl (by first | exact hvi | exact hvb | exact hvb2) (by first | exact hvi | exact hvb | exact hvb2) (by first | exact hvi | exact hvb | exact hvb2) ?_
      rw [ho.e56, ei, eb0, ec]
      refine zcallV F_fillOffs_d51 k4_95 (by omega) (x_daysBroken _ (by omega) (by omega) ho) rfl rfl rfl (Nat.le_of_ble_eq_true rfl) ?_
      rintro _ μx ⟨rfl, hx⟩
      rw [hx]
      clear hx μx
      refine zb F_fillOffs_s54 rfl ?_
      refine zcallV F_fillOffs_d55 k4_98 (by omega) (x_offIf (by omega) (by omega) ho) rfl rfl rfl (Nat.le_of_ble_eq_true rfl) ?_
      rintro _ μ1 ⟨rfl, hz1⟩
      have hv0' : ∀ b, b < 6 → μ1.1 69 b = zsum (offWT F day h wo b) i := fun b hb => by rw [hz1.1 69 b rfl]; exact hv0 b hb
      replace hz := hz.tr (hz1.mono nS_sX)
      replace ho := ho.q (hz1.mono nS_sX)
      refine zb1 F_fillOffs_s58 rfl (by first | exact hvi | exact hvb | exact hvb2) ?_
      rw [nI_1]
      first
        | (rw [ec, ofI_pu hF hilt, hv0 b0 (by omega)]
           refine ih (i + 1) _ (by omega) (ho.q (zq.w rfl)) (hz.tr (zq.w rfl)) (fun b hb => ?_)
           rw [zpI_at, zsum_s]
           unfold offWT
           by_cases y : b = b0
           · rw [if_pos y, y, if_pos (show (wo >>> (nI i &&& 31)) &&& 1 = 0 ∧ fbell F i = nI b0 from And.intro h24 eb0)]
           · rw [if_neg y, if_neg (fun z => y ((nI_eq (by omega) (by omega)).mp (z.2.symm.trans eb0)))]
             rw [Int32.add_zero]
             exact hv0' b hb)
        | (refine ih (i + 1) _ (by omega) ho hz (fun b hb => ?_)
           rw [zsum_s, ← hv0 b hb]
           unfold offWT
           rw [if_neg (fun z => (show ¬ (wo >>> (nI i &&& 31)) &&& 1 = 0 from h24) z.1), Int32.add_zero])

set_option maxRecDepth 100000 in
set_option maxHeartbeats 4000000 in
theorem x_fillOffs_62 {g : zG} {d : Nat} {F : zF} {μ : zMem} {wo day h : Int32} (hF : okF F) (hd : 5 ≤ d) (ho : oX F μ) : zM g d F_fillOffs [.ref 2, .ref 62, .int day, .int h, .int wo] μ (fun r μ' => r = none ∧ zq sX μ μ' ∧ ∀ b, b < 6 → μ'.1 62 b = offW F day h wo b) := by
  refine zM_of (by decide +kernel) rfl rfl (Nat.le_of_ble_eq_true rfl) rfl ?_
  refine zb F_fillOffs_s0 rfl ?_
  refine zcallS F_fillOffs_d2 k4_102 (by omega) (x_fill_62 _) rfl rfl (Nat.le_of_ble_eq_true rfl) ?_
  rintro _ μ1 ⟨rfl, hz1, h0⟩
  refine zb F_fillOffs_s5 rfl ?_
  exact w_fillOffs_62 hF hd (fV F) 0 μ1 (by omega) (ho.q hz1) hz1 (fun b hb => h0 b hb)

set_option maxRecDepth 100000 in
set_option maxHeartbeats 4000000 in
theorem x_fillOffs_69 {g : zG} {d : Nat} {F : zF} {μ : zMem} {wo day h : Int32} (hF : okF F) (hd : 5 ≤ d) (ho : oX F μ) : zM g d F_fillOffs [.ref 2, .ref 69, .int day, .int h, .int wo] μ (fun r μ' => r = none ∧ zq sX μ μ' ∧ ∀ b, b < 6 → μ'.1 69 b = offW F day h wo b) := by
  refine zM_of (by decide +kernel) rfl rfl (Nat.le_of_ble_eq_true rfl) rfl ?_
  refine zb F_fillOffs_s0 rfl ?_
  refine zcallS F_fillOffs_d2 k4_102 (by omega) (x_fill_69 _) rfl rfl (Nat.le_of_ble_eq_true rfl) ?_
  rintro _ μ1 ⟨rfl, hz1, h0⟩
  refine zb F_fillOffs_s5 rfl ?_
  exact w_fillOffs_69 hF hd (fV F) 0 μ1 (by omega) (ho.q hz1) hz1 (fun b hb => h0 b hb)
