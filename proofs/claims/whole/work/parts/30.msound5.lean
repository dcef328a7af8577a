/-! the reference: winning back, silent vows, sets, heard -/

set_option maxRecDepth 100000 in
set_option maxHeartbeats 4000000 in
theorem w_M_ones {g : zG} {d : Nat} {s : Int32} {μ0 : zMem} : ∀ (j i : Nat) (acc : Int32) (μ : zMem), i + j = 12 → (acc = zsum (fun i => (s >>> (nI i &&& 31)) &&& 1) i) → zW g M_ones d 4 [some (.ref 0), some (.int s), some (.int acc), some (.int (nI i))] [] μ (fun r μ' => r = some (.int (onesI s)) ∧ μ' = μ) := by
  intro j
  induction j with
  | zero =>
    intro i acc μ hi  hv0
    have hi : i = 12 := by omega
    subst hi
    refine zb M_ones_s4 rfl ?_
    refine z_cge M_ones_d7 (tgt := 24) rfl (fun h7 => ?_) (fun h7 => absurd (show 12 ≤ nI (12) by first | exact Int32.le_refl _ | (rw [hbd]; exact Int32.le_refl _)) h7)
    refine zb M_ones_s24 rfl ?_
    refine z_ret M_ones_d25 rfl ?_
    exact ⟨by rw [hv0]; rfl, rfl⟩
  | succ j ih =>
    intro i acc μ hi  hv0
    have hilt : i < 12 := by omega
    have ei : (nI i).toNatClampNeg = i := nI_clamp (by omega)
    refine zb M_ones_s4 rfl ?_
    refine z_cge M_ones_d7 (tgt := 24) rfl (fun h7 => absurd h7 (show ¬ 12 ≤ nI i by first | exact nI_ge (b := 12) hilt (by omega) | (rw [hbd]; exact nI_ge hilt (by omega)))) (fun h7 => ?_)
    refine zb M_ones_s10 rfl ?_
    rw [nI_1]
    exact ih (i + 1) _ _ (by omega) (by rw [zsum_s, ← hv0])

set_option maxRecDepth 100000 in
set_option maxHeartbeats 4000000 in
theorem o_ones {g : zG} {d : Nat} {μ : zMem} (s : Int32) : zM g d M_ones [.ref 0, .int s] μ (fun r μ' => r = some (.int (onesI s)) ∧ μ' = μ) := by
  refine zM_of (by decide +kernel) rfl rfl (Nat.le_of_ble_eq_true rfl) rfl ?_
  refine zb M_ones_s0 rfl ?_
  exact w_M_ones (μ0 := μ) 12 0 0 μ (by omega) rfl

set_option maxRecDepth 100000 in
set_option maxHeartbeats 4000000 in
theorem w_M_isPure_in {g : zG} {d : Nat} {F : zF} {μ0 : zMem} {set day h : Int32} {b : Nat} (hd : 47 ≤ d) {Q : Option Value → zMem → Prop} (hQ : ∀ (μ : zMem) (x5 x6 : Option Value), oM F μ → zq sM μ0 μ → zsum (purV F set day h b) (fV F) = 0 → zW g M_isPure d 3 [some (.ref 0), some (.int set), some (.int day), some (.int h), some (.int (nI (b + 1))), x5, x6] [] μ Q) (hN : ∀ μ : zMem, zq sM μ0 μ → ¬ zsum (purV F set day h b) (fV F) = 0 → Q (some (.int 0)) μ) : ∀ (j i : Nat) (acc : Int32) (μ : zMem), i + j = fV F → oM F μ → zq sM μ0 μ → (acc = zsum (purV F set day h b) i) → zW g M_isPure d 18 [some (.ref 0), some (.int set), some (.int day), some (.int h), some (.int (nI b)), some (.int acc), some (.int (nI i))] [] μ (Q) := by
  intro j
  induction j with
  | zero =>
    intro i acc μ hi ho hz hv0
    have hbd := ho.v
    have h12 := ho.v12
    have h6 := ho.b6
    have hi : i = fV F := by omega
    subst hi
    refine zb M_isPure_s18 rfl ?_
    refine z_cge M_isPure_d24 (tgt := 84) rfl (fun h24 => ?_) (fun h24 => absurd (show μ.1 0 1 ≤ nI (fV F) by first | exact Int32.le_refl _ | (rw [hbd]; exact Int32.le_refl _)) h24)
    refine zb M_isPure_s84 rfl ?_
    refine z_eq M_isPure_d86 (tgt := 91) rfl (fun h86 => ?_) (fun h86 => ?_)
    · refine zb M_isPure_s91 rfl ?_
      skip
      rw [nI_1]
      exact hQ _ _ _ ho hz (by rw [← hv0]; exact h86)
    · refine zb M_isPure_s89 rfl ?_
      refine z_retZ M_isPure_d90 rfl (by first | exact Or.inl rfl | exact Or.inr rfl) ?_
      exact hN _ hz (by rw [← hv0]; exact h86)
  | succ j ih =>
    intro i acc μ hi ho hz hv0
    have hbd := ho.v
    have h12 := ho.v12
    have h6 := ho.b6
    have hilt : i < fV F := by omega
    have ei : (nI i).toNatClampNeg = i := nI_clamp (by omega)
    refine zb M_isPure_s18 rfl ?_
    refine z_cge M_isPure_d24 (tgt := 84) rfl (fun h24 => absurd h24 (show ¬ μ.1 0 1 ≤ nI i by first | exact nI_ge hilt (by omega) | (rw [hbd]; exact nI_ge hilt (by omega)))) (fun h24 => ?_)
    refine zb1 M_isPure_s27 rfl (by first | assumption | exact vp_in_nI (by omega) (by omega) | decide) ?_
    refine z_cne M_isPure_d36 (tgt := 78) rfl (fun h36 => ?_) (fun h36 => ?_)
    · rw [ho.e27, ei] at h36
      refine zb M_isPure_s78 rfl ?_
      rw [nI_1]
      refine ih (i + 1) _ _ (by omega) ho hz ?_
      rw [zsum_s, ← hv0]
      unfold purV
      first
        | rw [if_neg h36, Int32.add_zero]
        | rw [if_pos h36, if_pos (zB_ne0.mp h48)]
        | rw [if_pos h36, if_neg (zB_eq0.mp h48)]
    · rw [ho.e27, ei] at h36
      refine zb M_isPure_s39 rfl ?_
      refine zcallV M_isPure_d45 k11_291 (by omega) (c_M_has _ _) rfl rfl rfl (Nat.le_of_ble_eq_true rfl) ?_
      rintro _ μx ⟨rfl, hx⟩
      rw [hx]
      clear hx μx
      refine z_eq M_isPure_d48 (tgt := 65) rfl (fun h48 => ?_) (fun h48 => ?_)
      · refine zb M_isPure_s65 rfl ?_
        refine zcallV M_isPure_d72 k11_259 (by omega) (o_putsOn (by omega) (by omega) ho) rfl rfl rfl (Nat.le_of_ble_eq_true rfl) ?_
        rintro _ μ1 ⟨rfl, hz1⟩
        replace hz := hz.tr hz1.gm
        replace ho := ho.q hz1.gm
        clear hz1
        refine zb M_isPure_s75 rfl ?_
        rw [nI_1]
        refine ih (i + 1) _ _ (by omega) ho hz ?_
        rw [zsum_s, ← hv0]
        unfold purV
        first
          | rw [if_neg h36, Int32.add_zero]
          | rw [if_pos h36, if_pos (zB_ne0.mp h48)]
          | rw [if_pos h36, if_neg (zB_eq0.mp h48)]
      · refine zb M_isPure_s51 rfl ?_
        refine zcallV M_isPure_d59 k11_252 (by omega) (o_giv (by omega) (by omega) (by first | exact Or.inl rfl | exact Or.inr rfl) ho) rfl rfl rfl (Nat.le_of_ble_eq_true rfl) ?_
        rintro _ μ1 ⟨rfl, hz1⟩
        replace hz := hz.tr hz1.gm
        replace ho := ho.q hz1.gm
        clear hz1
        refine zb M_isPure_s62 rfl ?_
        rw [nI_1]
        refine ih (i + 1) _ _ (by omega) ho hz ?_
        rw [zsum_s, ← hv0]
        unfold purV
        first
          | rw [if_neg h36, Int32.add_zero]
          | rw [if_pos h36, if_pos (zB_ne0.mp h48)]
          | rw [if_pos h36, if_neg (zB_eq0.mp h48)]

set_option maxRecDepth 100000 in
set_option maxHeartbeats 4000000 in
theorem w_M_isPure {g : zG} {d : Nat} {F : zF} {μ0 : zMem} {set day h : Int32} (hd : 47 ≤ d) : ∀ (j i : Nat) (x5 : Option Value) (x6 : Option Value) (μ : zMem), i + j = fB F → oM F μ → zq sM μ0 μ → (∀ b, b < i → zsum (purV F set day h b) (fV F) = 0) → zW g M_isPure d 3 [some (.ref 0), some (.int set), some (.int day), some (.int h), some (.int (nI i)), x5, x6] [] μ (fun r μ' => r = some (.int (zB (pureP F set day h))) ∧ zq sM μ0 μ') := by
  intro j
  induction j with
  | zero =>
    intro i x5 x6 μ hi ho hz hv0
    have hbd := ho.b
    have h12 := ho.v12
    have h6 := ho.b6
    have hi : i = fB F := by omega
    subst hi
    refine zb M_isPure_s3 rfl ?_
    refine z_cge M_isPure_d9 (tgt := 97) rfl (fun h9 => ?_) (fun h9 => absurd (show μ.1 0 0 ≤ nI (fB F) by first | exact Int32.le_refl _ | (rw [hbd]; exact Int32.le_refl _)) h9)
    refine zb M_isPure_s97 rfl ?_
    refine z_retZ M_isPure_d98 rfl (by first | exact Or.inl rfl | exact Or.inr rfl) ?_
    exact ⟨by rw [zB_t (by exact hv0)], hz⟩
  | succ j ih =>
    intro i x5 x6 μ hi ho hz hv0
    have hbd := ho.b
    have h12 := ho.v12
    have h6 := ho.b6
    have hilt : i < fB F := by omega
    have ei : (nI i).toNatClampNeg = i := nI_clamp (by omega)
    refine zb M_isPure_s3 rfl ?_
    refine z_cge M_isPure_d9 (tgt := 97) rfl (fun h9 => absurd h9 (show ¬ μ.1 0 0 ≤ nI i by first | exact nI_ge hilt (by omega) | (rw [hbd]; exact nI_ge hilt (by omega)))) (fun h9 => ?_)
    refine zb M_isPure_s12 rfl ?_
    refine w_M_isPure_in hd (b := i) (fun μ1 y5 y6 ho1 hz1 hp => ih (i + 1) _ _ _ (by omega) ho1 hz1 (fun b hb => ?_)) (fun μ1 hz1 hp => ⟨by rw [zB_f (fun z => hp (z i hilt))], hz1⟩) (fV F) 0 0 μ (by omega) ho hz rfl
    rcases Nat.lt_or_ge b i with q | q
    · exact hv0 b q
    · rw [show b = i by omega]; exact hp

set_option maxRecDepth 100000 in
set_option maxHeartbeats 4000000 in
theorem o_isPure {g : zG} {d : Nat} {F : zF} {μ : zMem} {set day h : Int32} (hd : 47 ≤ d) (ho : oM F μ) : zM g d M_isPure [.ref 0, .int set, .int day, .int h] μ (fun r μ' => r = some (.int (zB (pureP F set day h))) ∧ zq sM μ μ') := by
  refine zM_of (by decide +kernel) rfl rfl (Nat.le_of_ble_eq_true rfl) rfl ?_
  have hz : zq sM μ μ := zq.rf
  have h12 := ho.v12
  have h6 := ho.b6
  refine zb M_isPure_s0 rfl ?_
  exact w_M_isPure hd (fB F) 0 _ _ μ (by omega) ho hz (fun b hb => by omega)

set_option maxRecDepth 100000 in
set_option maxHeartbeats 4000000 in
theorem w_M_win_may {g : zG} {d : Nat} {F : zF} {μ0 : zMem} {dh w i5 : Int32} (hd : 48 ≤ d) {Q : Option Value → zMem → Prop} (hQ : ∀ (μ : zMem), oM F μ → zq sM μ0 μ → zW g M_win d 72 [some (.ref 0), some (.int dh), some (.int w), some (.int (dh / 100)), some (.int (mayS F (dh / 100))), some (.int i5), some (.int 0)] [] μ Q) : ∀ (j i : Nat) (may : Int32) (μ : zMem), i + j = fV F → oM F μ → zq sM μ0 μ → (may = zfold (fun v s => if kept F v (dh / 100) then s else s ||| bit1 v) 0 i 0) → zW g M_win d 35 [some (.ref 0), some (.int dh), some (.int w), some (.int (dh / 100)), some (.int may), some (.int i5), some (.int (nI i))] [] μ (Q) := by
  intro j
  induction j with
  | zero =>
    intro i may μ hi ho hz hv0
    have hbd := ho.v
    have h12 := ho.v12
    have h6 := ho.b6
    have hi : i = fV F := by omega
    subst hi
    refine zb M_win_s35 rfl ?_
    refine z_cge M_win_d41 (tgt := 69) rfl (fun h41 => ?_) (fun h41 => absurd (show μ.1 0 1 ≤ nI (fV F) by first | exact Int32.le_refl _ | (rw [hbd]; exact Int32.le_refl _)) h41)
    refine zb M_win_s69 rfl ?_
    rw [hv0]
    exact hQ _ ho hz
  | succ j ih =>
    intro i may μ hi ho hz hv0
    have hbd := ho.v
    have h12 := ho.v12
    have h6 := ho.b6
    have hilt : i < fV F := by omega
    have ei : (nI i).toNatClampNeg = i := nI_clamp (by omega)
    refine zb M_win_s35 rfl ?_
    refine z_cge M_win_d41 (tgt := 69) rfl (fun h41 => absurd h41 (show ¬ μ.1 0 1 ≤ nI i by first | exact nI_ge hilt (by omega) | (rw [hbd]; exact nI_ge hilt (by omega)))) (fun h41 => ?_)
    refine zb M_win_s44 rfl ?_
    refine zcallV M_win_d48 k11_164 (by omega) (o_isKept ho _ (by omega)) rfl rfl rfl (Nat.le_of_ble_eq_true rfl) ?_
    rintro _ μx ⟨rfl, hx⟩
    rw [hx]
    clear hx μx
    refine z_ne M_win_d51 (tgt := 63) rfl (fun h51 => ?_) (fun h51 => ?_)
    · refine zb M_win_s63 rfl ?_
      rw [nI_1]
      refine ih (i + 1) _ _ (by omega) ho hz ?_
      rw [zf0, ← hv0]
      first | rw [if_neg (zB_eq0.mp h51)]; rfl | rw [if_pos (zB_ne0.mp h51)]
    · refine zb M_win_s54 rfl ?_
      rw [nI_1]
      refine ih (i + 1) _ _ (by omega) ho hz ?_
      rw [zf0, ← hv0]
      first | rw [if_neg (zB_eq0.mp h51)]; rfl | rw [if_pos (zB_ne0.mp h51)]

set_option maxRecDepth 100000 in
set_option maxHeartbeats 4000000 in
theorem w_M_win {g : zG} {d : Nat} {F : zF} {μ0 : zMem} {dh w : Int32} (hd : 48 ≤ d) : ∀ (j i : Nat) (is : Int32) (μ : zMem), i + j = 2 ^ fV F → oM F μ → zq sM μ0 μ → (is = zfold (winStep F (dh / 100) (hro dh) (mayS F (dh / 100))) 0 i (-2)) → zW g M_win d 72 [some (.ref 0), some (.int dh), some (.int w), some (.int (dh / 100)), some (.int (mayS F (dh / 100))), some (.int is), some (.int (nI i))] [] μ (fun r μ' => r = some (.int (if w = 1 ∨ winS F (dh / 100) (hro dh) = -2 then winS F (dh / 100) (hro dh) else onesI (winS F (dh / 100) (hro dh)))) ∧ zq sM μ0 μ') := by
  intro j
  induction j with
  | zero =>
    intro i is μ hi ho hz hv0
    have hbd := ho.v
    have h12 := ho.v12
    have h6 := ho.b6
    have hp2 := p2le h12
    replace hbd : (1 : Int32) <<< (μ.1 0 1 &&& 31) = nI (2 ^ fV F) := by rw [ho.v, sh1 h12]
    have hi : i = 2 ^ fV F := by omega
    subst hi
    refine zb M_win_s72 rfl ?_
    refine z_cge M_win_d80 (tgt := 142) rfl (fun h80 => ?_) (fun h80 => absurd (show (1 : Int32) <<< (μ.1 0 1 &&& 31) ≤ nI (2 ^ fV F) by first | exact Int32.le_refl _ | (rw [hbd]; exact Int32.le_refl _)) h80)
    refine zb M_win_s142 rfl ?_
    refine z_ceq M_win_d144 (tgt := 154) rfl (fun h144 => ?_) (fun h144 => ?_)
    · refine zb M_win_s154 rfl ?_
      refine z_ret M_win_d165 rfl ?_
      rw [show winS F (dh / 100) (hro dh) = is from hv0.symm]
      first
        | exact ⟨by rw [if_pos (Or.inl h144)], hz⟩
        | exact ⟨by rw [if_pos (Or.inr h151)], hz⟩
        | exact ⟨by rw [if_neg (fun z => z.elim h144 h151)], hz⟩
    · refine zb M_win_s147 rfl ?_
      refine z_cne M_win_d151 (tgt := 159) rfl (fun h151 => ?_) (fun h151 => ?_)
      · refine zb M_win_s159 rfl ?_
        refine zcallV M_win_d162 k11_297 (by omega) (o_ones _) rfl rfl rfl (Nat.le_of_ble_eq_true rfl) ?_
        rintro _ μx ⟨rfl, hx⟩
        rw [hx]
        clear hx μx
        refine z_ret M_win_d165 rfl ?_
        rw [show winS F (dh / 100) (hro dh) = is from hv0.symm]
        first
          | exact ⟨by rw [if_pos (Or.inl h144)], hz⟩
          | exact ⟨by rw [if_pos (Or.inr h151)], hz⟩
          | exact ⟨by rw [if_neg (fun z => z.elim h144 h151)], hz⟩
      · refine zb M_win_s154 rfl ?_
        refine z_ret M_win_d165 rfl ?_
        rw [show winS F (dh / 100) (hro dh) = is from hv0.symm]
        first
          | exact ⟨by rw [if_pos (Or.inl h144)], hz⟩
          | exact ⟨by rw [if_pos (Or.inr h151)], hz⟩
          | exact ⟨by rw [if_neg (fun z => z.elim h144 h151)], hz⟩
  | succ j ih =>
    intro i is μ hi ho hz hv0
    have hbd := ho.v
    have h12 := ho.v12
    have h6 := ho.b6
    have hp2 := p2le h12
    replace hbd : (1 : Int32) <<< (μ.1 0 1 &&& 31) = nI (2 ^ fV F) := by rw [ho.v, sh1 h12]
    have hilt : i < 2 ^ fV F := by omega
    have ei : (nI i).toNatClampNeg = i := nI_clamp (by omega)
    refine zb M_win_s72 rfl ?_
    refine z_cge M_win_d80 (tgt := 142) rfl (fun h80 => absurd h80 (show ¬ (1 : Int32) <<< (μ.1 0 1 &&& 31) ≤ nI i by first | exact nI_ge hilt (by omega) | (rw [hbd]; exact nI_ge hilt (by omega)))) (fun h80 => ?_)
    refine zb M_win_s83 rfl ?_
    refine z_ne M_win_d90 (tgt := 136) rfl (fun h90 => ?_) (fun h90 => ?_)
    · refine zb M_win_s136 rfl ?_
      rw [nI_1]
      refine ih (i + 1) _ _ (by omega) ho hz ?_
      rw [zf0, ← hv0]
      unfold winStep
      first
        | rw [if_pos (Or.inl h90)]
        | rw [if_pos (Or.inr (And.intro h97 h112))]
        | rw [if_neg (fun z => z.elim h90 (fun q => by first | exact q.1 h97 | exact q.2 h112)), if_pos (zB_ne0.mp h129)]
        | rw [if_neg (fun z => z.elim h90 (fun q => by first | exact q.1 h97 | exact q.2 h112)), if_neg (zB_eq0.mp h129)]
    · replace h90 := fun z : ¬ (nI i &&& (mayS F (dh / 100) ^^^ -1)) = 0 => z h90
      refine zb M_win_s93 rfl ?_
      refine z_ceq M_win_d97 (tgt := 118) rfl (fun h97 => ?_) (fun h97 => ?_)
      · refine zb1 M_win_s118 rfl (by decide) ?_
        refine zcallV M_win_d126 k11_300 (by omega) (o_isPure (by omega) ho) rfl rfl rfl (Nat.le_of_ble_eq_true rfl) ?_
        rintro _ μ1 ⟨rfl, hz1⟩
        replace hz := hz.tr hz1
        replace ho := ho.q hz1
        clear hz1
        refine z_eq M_win_d129 (tgt := 136) rfl (fun h129 => ?_) (fun h129 => ?_)
        · refine zb M_win_s136 rfl ?_
          rw [nI_1]
          refine ih (i + 1) _ _ (by omega) ho hz ?_
          rw [zf0, ← hv0]
          unfold winStep
          first
            | rw [if_pos (Or.inl h90)]
            | rw [if_pos (Or.inr (And.intro h97 h112))]
            | rw [if_neg (fun z => z.elim h90 (fun q => by first | exact q.1 h97 | exact q.2 h112)), if_pos (zB_ne0.mp h129)]
            | rw [if_neg (fun z => z.elim h90 (fun q => by first | exact q.1 h97 | exact q.2 h112)), if_neg (zB_eq0.mp h129)]
        · refine zb M_win_s132 rfl ?_
          rw [nI_1]
          refine ih (i + 1) _ _ (by omega) ho hz ?_
          rw [zf0, ← hv0]
          unfold winStep
          first
            | rw [if_pos (Or.inl h90)]
            | rw [if_pos (Or.inr (And.intro h97 h112))]
            | rw [if_neg (fun z => z.elim h90 (fun q => by first | exact q.1 h97 | exact q.2 h112)), if_pos (zB_ne0.mp h129)]
            | rw [if_neg (fun z => z.elim h90 (fun q => by first | exact q.1 h97 | exact q.2 h112)), if_neg (zB_eq0.mp h129)]
      · refine zb M_win_s100 rfl ?_
        refine zcallV M_win_d103 k11_297 (by omega) (o_ones _) rfl rfl rfl (Nat.le_of_ble_eq_true rfl) ?_
        rintro _ μx ⟨rfl, hx⟩
        rw [hx]
        clear hx μx
        refine zb M_win_s106 rfl ?_
        refine zcallV M_win_d109 k11_297 (by omega) (o_ones _) rfl rfl rfl (Nat.le_of_ble_eq_true rfl) ?_
        rintro _ μx ⟨rfl, hx⟩
        rw [hx]
        clear hx μx
        refine z_clt M_win_d112 (tgt := 118) rfl (fun h112 => ?_) (fun h112 => ?_)
        · refine zb1 M_win_s118 rfl (by decide) ?_
          refine zcallV M_win_d126 k11_300 (by omega) (o_isPure (by omega) ho) rfl rfl rfl (Nat.le_of_ble_eq_true rfl) ?_
          rintro _ μ1 ⟨rfl, hz1⟩
          replace hz := hz.tr hz1
          replace ho := ho.q hz1
          clear hz1
          refine z_eq M_win_d129 (tgt := 136) rfl (fun h129 => ?_) (fun h129 => ?_)
          · refine zb M_win_s136 rfl ?_
            rw [nI_1]
            refine ih (i + 1) _ _ (by omega) ho hz ?_
            rw [zf0, ← hv0]
            unfold winStep
            first
              | rw [if_pos (Or.inl h90)]
              | rw [if_pos (Or.inr (And.intro h97 h112))]
              | rw [if_neg (fun z => z.elim h90 (fun q => by first | exact q.1 h97 | exact q.2 h112)), if_pos (zB_ne0.mp h129)]
              | rw [if_neg (fun z => z.elim h90 (fun q => by first | exact q.1 h97 | exact q.2 h112)), if_neg (zB_eq0.mp h129)]
          · refine zb M_win_s132 rfl ?_
            rw [nI_1]
            refine ih (i + 1) _ _ (by omega) ho hz ?_
            rw [zf0, ← hv0]
            unfold winStep
            first
              | rw [if_pos (Or.inl h90)]
              | rw [if_pos (Or.inr (And.intro h97 h112))]
              | rw [if_neg (fun z => z.elim h90 (fun q => by first | exact q.1 h97 | exact q.2 h112)), if_pos (zB_ne0.mp h129)]
              | rw [if_neg (fun z => z.elim h90 (fun q => by first | exact q.1 h97 | exact q.2 h112)), if_neg (zB_eq0.mp h129)]
        · refine zb M_win_s115 rfl ?_
          rw [nI_1]
          refine ih (i + 1) _ _ (by omega) ho hz ?_
          rw [zf0, ← hv0]
          unfold winStep
          first
            | rw [if_pos (Or.inl h90)]
            | rw [if_pos (Or.inr (And.intro h97 h112))]
            | rw [if_neg (fun z => z.elim h90 (fun q => by first | exact q.1 h97 | exact q.2 h112)), if_pos (zB_ne0.mp h129)]
            | rw [if_neg (fun z => z.elim h90 (fun q => by first | exact q.1 h97 | exact q.2 h112)), if_neg (zB_eq0.mp h129)]

set_option maxRecDepth 100000 in
set_option maxHeartbeats 4000000 in
theorem o_win {g : zG} {d : Nat} {F : zF} {μ : zMem} {dh w : Int32} (hd : 49 ≤ d) (ho : oM F μ) : zM g d M_win [.ref 0, .int dh, .int w] μ (fun r μ' => r = some (.int (sWin F dh w)) ∧ zq sM μ μ') := by
  refine zM_of (by decide +kernel) rfl rfl (Nat.le_of_ble_eq_true rfl) rfl ?_
  have hz : zq sM μ μ := zq.rf
  have h12 := ho.v12
  have h6 := ho.b6
  refine zb M_win_s0 rfl ?_
  refine zcallV M_win_d2 k11_256 (by omega) (c_M_isTime _) rfl rfl rfl (Nat.le_of_ble_eq_true rfl) ?_
  rintro _ μx ⟨rfl, hx⟩
  rw [hx]
  clear hx μx
  refine z_eq M_win_d5 (tgt := 18) rfl (fun h5 => ?_) (fun h5 => ?_)
  · refine zb M_win_s18 rfl ?_
    refine z_ret M_win_d19 rfl ?_
    unfold sWin
    first
      | exact ⟨by rw [if_neg (fun z => (zB_eq0.mp h5) z.1)], hz⟩
      | exact ⟨by rw [if_neg (fun z => (zB_eq0.mp h15) z.2)], hz⟩
  · refine zb M_win_s8 rfl ?_
    refine zcallV M_win_d12 k11_112 (by omega) (c_M_isIn _ _ _) rfl rfl rfl (Nat.le_of_ble_eq_true rfl) ?_
    rintro _ μx ⟨rfl, hx⟩
    rw [hx]
    clear hx μx
    refine z_ne M_win_d15 (tgt := 20) rfl (fun h15 => ?_) (fun h15 => ?_)
    · refine zb1 M_win_s20 rfl (by decide) ?_
      unfold sWin
      rw [if_pos ⟨zB_ne0.mp h5, zB_ne0.mp h15⟩]
      exact w_M_win_may (by omega) (fun μ1 ho1 hz1 => w_M_win (by omega) (2 ^ fV F) 0 (-2) μ1 (by omega) ho1 hz1 rfl) (fV F) 0 0 μ (by omega) ho hz rfl
    · refine zb M_win_s18 rfl ?_
      refine z_ret M_win_d19 rfl ?_
      unfold sWin
      first
        | exact ⟨by rw [if_neg (fun z => (zB_eq0.mp h5) z.1)], hz⟩
        | exact ⟨by rw [if_neg (fun z => (zB_eq0.mp h15) z.2)], hz⟩

set_option maxRecDepth 100000 in
set_option maxHeartbeats 4000000 in
theorem w_M_silent {g : zG} {d : Nat} {F : zF} {μ0 : zMem} {hour dd : Int32} (hd : 48 ≤ d) : ∀ (j i : Nat) (acc : Int32) (μ : zMem), i + j = fV F → oM F μ → zq sM μ0 μ → (acc = zfold (fun v s => if giv F v (fbell F v) 1 0 hour = giv F v (fbell F v) 0 dd hour then s ||| bit1 v else s) 0 i 0) → zW g M_silent d 29 [some (.ref 0), some (.int hour), some (.int dd), some (.int acc), some (.int (nI i))] [] μ (fun r μ' => r = some (.int (silS F hour dd)) ∧ zq sM μ0 μ') := by
  intro j
  induction j with
  | zero =>
    intro i acc μ hi ho hz hv0
    have hbd := ho.v
    have h12 := ho.v12
    have h6 := ho.b6
    have hi : i = fV F := by omega
    subst hi
    refine zb M_silent_s29 rfl ?_
    refine z_cge M_silent_d35 (tgt := 86) rfl (fun h35 => ?_) (fun h35 => absurd (show μ.1 0 1 ≤ nI (fV F) by first | exact Int32.le_refl _ | (rw [hbd]; exact Int32.le_refl _)) h35)
    refine zb M_silent_s86 rfl ?_
    refine z_ret M_silent_d87 rfl ?_
    exact ⟨by rw [hv0]; rfl, hz⟩
  | succ j ih =>
    intro i acc μ hi ho hz hv0
    have hbd := ho.v
    have h12 := ho.v12
    have h6 := ho.b6
    have hilt : i < fV F := by omega
    have ei : (nI i).toNatClampNeg = i := nI_clamp (by omega)
    refine zb M_silent_s29 rfl ?_
    refine z_cge M_silent_d35 (tgt := 86) rfl (fun h35 => absurd h35 (show ¬ μ.1 0 1 ≤ nI i by first | exact nI_ge hilt (by omega) | (rw [hbd]; exact nI_ge hilt (by omega)))) (fun h35 => ?_)
    refine zb1 M_silent_s38 rfl (by first | assumption | exact vp_in_nI (by omega) (by omega) | decide) ?_
    rw [ho.e27, ei]
    refine zcallV M_silent_d51 k11_252 (by omega) (o_giv (by omega) (by omega) (by first | exact Or.inl rfl | exact Or.inr rfl) ho) rfl rfl rfl (Nat.le_of_ble_eq_true rfl) ?_
    rintro _ μ1 ⟨rfl, hz1⟩
    replace hz := hz.tr hz1.gm
    replace ho := ho.q hz1.gm
    clear hz1
    refine zb1 M_silent_s54 rfl (by first | assumption | exact vp_in_nI (by omega) (by omega) | decide) ?_
    rw [ho.e27, ei]
    refine zcallV M_silent_d67 k11_252 (by omega) (o_giv (by omega) (by omega) (by first | exact Or.inl rfl | exact Or.inr rfl) ho) rfl rfl rfl (Nat.le_of_ble_eq_true rfl) ?_
    rintro _ μ1 ⟨rfl, hz1⟩
    replace hz := hz.tr hz1.gm
    replace ho := ho.q hz1.gm
    clear hz1
    refine z_cne M_silent_d70 (tgt := 80) rfl (fun h70 => ?_) (fun h70 => ?_)
    · refine zb M_silent_s80 rfl ?_
      rw [nI_1]
      refine ih (i + 1) _ _ (by omega) ho hz ?_
      rw [zf0, ← hv0]
      first | rw [if_neg h70] | rw [if_pos h70]; rfl
    · refine zb M_silent_s73 rfl ?_
      rw [nI_1]
      refine ih (i + 1) _ _ (by omega) ho hz ?_
      rw [zf0, ← hv0]
      first | rw [if_neg h70] | rw [if_pos h70]; rfl

set_option maxRecDepth 100000 in
set_option maxHeartbeats 4000000 in
theorem o_silent {g : zG} {d : Nat} {F : zF} {μ : zMem} {hour dd : Int32} (hd : 48 ≤ d) (ho : oM F μ) : zM g d M_silent [.ref 0, .int hour, .int dd] μ (fun r μ' => r = some (.int (sSilent F hour dd)) ∧ zq sM μ μ') := by
  refine zM_of (by decide +kernel) rfl rfl (Nat.le_of_ble_eq_true rfl) rfl ?_
  have hz : zq sM μ μ := zq.rf
  have h12 := ho.v12
  have h6 := ho.b6
  refine zb M_silent_s0 rfl ?_
  refine zcallV M_silent_d5 k11_112 (by omega) (c_M_isIn _ _ _) rfl rfl rfl (Nat.le_of_ble_eq_true rfl) ?_
  rintro _ μx ⟨rfl, hx⟩
  rw [hx]
  clear hx μx
  refine z_eq M_silent_d8 (tgt := 22) rfl (fun h8 => ?_) (fun h8 => ?_)
  · refine zb M_silent_s22 rfl ?_
    refine z_ret M_silent_d23 rfl ?_
    unfold sSilent
    first
      | exact ⟨by rw [if_neg (fun z => (zB_eq0.mp h8) z.1)], hz⟩
      | exact ⟨by rw [if_neg (fun z => (zB_eq0.mp h19) z.2)], hz⟩
  · refine zb M_silent_s11 rfl ?_
    refine zcallV M_silent_d16 k11_112 (by omega) (c_M_isIn _ _ _) rfl rfl rfl (Nat.le_of_ble_eq_true rfl) ?_
    rintro _ μx ⟨rfl, hx⟩
    rw [hx]
    clear hx μx
    refine z_ne M_silent_d19 (tgt := 24) rfl (fun h19 => ?_) (fun h19 => ?_)
    · refine zb M_silent_s24 rfl ?_
      unfold sSilent
      rw [if_pos ⟨zB_ne0.mp h8, zB_ne0.mp h19⟩]
      exact w_M_silent hd (fV F) 0 0 μ (by omega) ho hz rfl
    · refine zb M_silent_s22 rfl ?_
      refine z_ret M_silent_d23 rfl ?_
      unfold sSilent
      first
        | exact ⟨by rw [if_neg (fun z => (zB_eq0.mp h8) z.1)], hz⟩
        | exact ⟨by rw [if_neg (fun z => (zB_eq0.mp h19) z.2)], hz⟩

set_option maxRecDepth 100000 in
set_option maxHeartbeats 4000000 in
theorem w_M_ofBell {g : zG} {d : Nat} {F : zF} {μ0 : zMem} {b : Int32} : ∀ (j i : Nat) (acc : Int32) (μ : zMem), i + j = fV F → oM F μ → zq sM μ0 μ → (acc = zfold (fun v s => if fbell F v = b then s ||| bit1 v else s) 0 i 0) → zW g M_ofBell d 4 [some (.ref 0), some (.int b), some (.int acc), some (.int (nI i))] [] μ (fun r μ' => r = some (.int (setOf F b)) ∧ μ' = μ) := by
  intro j
  induction j with
  | zero =>
    intro i acc μ hi ho hz hv0
    have hbd := ho.v
    have h12 := ho.v12
    have h6 := ho.b6
    have hi : i = fV F := by omega
    subst hi
    refine zb M_ofBell_s4 rfl ?_
    refine z_cge M_ofBell_d9 (tgt := 34) rfl (fun h9 => ?_) (fun h9 => absurd (show μ.1 0 1 ≤ nI (fV F) by first | exact Int32.le_refl _ | (rw [hbd]; exact Int32.le_refl _)) h9)
    refine zb M_ofBell_s34 rfl ?_
    refine z_ret M_ofBell_d35 rfl ?_
    exact ⟨by rw [hv0]; rfl, rfl⟩
  | succ j ih =>
    intro i acc μ hi ho hz hv0
    have hbd := ho.v
    have h12 := ho.v12
    have h6 := ho.b6
    have hilt : i < fV F := by omega
    have ei : (nI i).toNatClampNeg = i := nI_clamp (by omega)
    refine zb M_ofBell_s4 rfl ?_
    refine z_cge M_ofBell_d9 (tgt := 34) rfl (fun h9 => absurd h9 (show ¬ μ.1 0 1 ≤ nI i by first | exact nI_ge hilt (by omega) | (rw [hbd]; exact nI_ge hilt (by omega)))) (fun h9 => ?_)
    refine zb1 M_ofBell_s12 rfl (by first | assumption | exact vp_in_nI (by omega) (by omega) | decide) ?_
    refine z_cne M_ofBell_d19 (tgt := 28) rfl (fun h19 => ?_) (fun h19 => ?_)
    · refine zb M_ofBell_s28 rfl ?_
      rw [ho.e27, ei] at h19
      rw [nI_1]
      refine ih (i + 1) _ _ (by omega) ho hz ?_
      rw [zf0, ← hv0]
      first | rw [if_neg h19] | rw [if_pos h19]; rfl
    · refine zb M_ofBell_s22 rfl ?_
      rw [ho.e27, ei] at h19
      rw [nI_1]
      refine ih (i + 1) _ _ (by omega) ho hz ?_
      rw [zf0, ← hv0]
      first | rw [if_neg h19] | rw [if_pos h19]; rfl

set_option maxRecDepth 100000 in
set_option maxHeartbeats 4000000 in
theorem o_ofBell {g : zG} {d : Nat} {F : zF} {μ : zMem} (b : Int32) (ho : oM F μ) : zM g d M_ofBell [.ref 0, .int b] μ (fun r μ' => r = some (.int (setOf F b)) ∧ μ' = μ) := by
  refine zM_of (by decide +kernel) rfl rfl (Nat.le_of_ble_eq_true rfl) rfl ?_
  refine zb M_ofBell_s0 rfl ?_
  exact w_M_ofBell (μ0 := μ) (fV F) 0 0 μ (by omega) ho zq.rf rfl

set_option maxRecDepth 100000 in
set_option maxHeartbeats 4000000 in
theorem w_M_givesAll {g : zG} {d : Nat} {F : zF} {μ0 : zMem} {hd : Int32} (hd1 : 46 ≤ d) : ∀ (j i : Nat) (μ : zMem), i + j = fV F → oM F μ → zq sM μ0 μ → (∀ v, v < i → μ.1 39 v = kG F hd v ∧ μ.1 40 v = bG F hd v) → zW g M_givesAll d 2 [some (.ref 0), some (.int hd), some (.int (nI i))] [] μ (fun r μ' => r = none ∧ zq sM μ0 μ' ∧ ∀ v, v < fV F → μ'.1 39 v = kG F hd v ∧ μ'.1 40 v = bG F hd v) := by
  intro j
  induction j with
  | zero =>
    intro i  μ hi ho hz hv0
    have hbd := ho.v
    have h12 := ho.v12
    have h6 := ho.b6
    have hi : i = fV F := by omega
    subst hi
    refine zb M_givesAll_s2 rfl ?_
    refine z_cge M_givesAll_d7 (tgt := 65) rfl (fun h7 => ?_) (fun h7 => absurd (show μ.1 0 1 ≤ nI (fV F) by first | exact Int32.le_refl _ | (rw [hbd]; exact Int32.le_refl _)) h7)
    refine z_retV M_givesAll_d65 rfl ?_
    exact ⟨rfl, hz, hv0⟩
  | succ j ih =>
    intro i  μ hi ho hz hv0
    have hbd := ho.v
    have h12 := ho.v12
    have h6 := ho.b6
    have hilt : i < fV F := by omega
    have ei : (nI i).toNatClampNeg = i := nI_clamp (by omega)
    refine zb M_givesAll_s2 rfl ?_
    refine z_cge M_givesAll_d7 (tgt := 65) rfl (fun h7 => absurd h7 (show ¬ μ.1 0 1 ≤ nI i by first | exact nI_ge hilt (by omega) | (rw [hbd]; exact nI_ge hilt (by omega)))) (fun h7 => ?_)
    refine zb2 M_givesAll_s10 rfl (by first | assumption | exact vp_in_nI (by omega) (by omega) | decide) (by first | assumption | exact vp_in_nI (by omega) (by omega) | decide) ?_
    rw [ho.e27, ei]
    refine zcallV M_givesAll_d29 k11_252 (by omega) (o_giv (by omega) (by omega) (by first | exact Or.inl rfl | exact Or.inr rfl) ho) rfl rfl rfl (Nat.le_of_ble_eq_true rfl) ?_
    rintro _ μ1 ⟨rfl, hz1⟩
    replace hz := hz.tr hz1.gm
    replace ho := ho.q hz1.gm
    replace hv0 : ∀ v, v < i → μ1.1 39 v = kG F hd v ∧ μ1.1 40 v = bG F hd v := fun v hv => by rw [hz1.1 39 v rfl, hz1.1 40 v rfl]; exact hv0 v hv
    clear hz1
    have ho2 := ho.q (zq.rf.put (c := 39) (k := i) (v := giv F i (fbell F i) 1 0 (hd / 100)) rfl)
    have hz2 := hz.put (c := 39) (k := i) (v := giv F i (fbell F i) 1 0 (hd / 100)) rfl
    refine zb4 M_givesAll_s32 rfl (by first | assumption | exact vp_in_nI (by omega) (by omega) | decide) (by first | assumption | exact vp_in_nI (by omega) (by omega) | decide) (by first | assumption | exact vp_in_nI (by omega) (by omega) | decide) (by first | assumption | exact vp_in_nI (by omega) (by omega) | decide) ?_
    rw [ei, ho2.e27]
    refine zcallV M_givesAll_d55 k11_252 (by omega) (o_giv (by omega) (by omega) (by first | exact Or.inl rfl | exact Or.inr rfl) ho2) rfl rfl rfl (Nat.le_of_ble_eq_true rfl) ?_
    rintro _ μ2 ⟨rfl, hz1⟩
    replace hz := hz2.tr hz1.gm
    replace ho := ho2.q hz1.gm
    replace hv0 : ∀ v, v < i → μ2.1 39 v = kG F hd v ∧ μ2.1 40 v = bG F hd v := fun v hv => by
      rw [hz1.1 39 v rfl, hz1.1 40 v rfl, ← (hv0 v hv).1, ← (hv0 v hv).2]
      exact ⟨by simp [zpI, zu, show v ≠ i by omega], rfl⟩
    have hv1 : μ2.1 39 i = kG F hd i := by
      rw [hz1.1 39 i rfl]
      simp [zpI, zu, kG]
    refine zb1 M_givesAll_s58 rfl (by first | assumption | exact vp_in_nI (by omega) (by omega) | decide) ?_
    rw [nI_1, ei]
    refine ih (i + 1) _ (by omega) (ho.q (zq.rf.put rfl)) (hz.put rfl) (fun v hv => ?_)
    rcases Nat.lt_or_ge v i with q | q
    · exact ⟨(hv0 v q).1, by rw [← (hv0 v q).2]; simp [zpI, zu, show v ≠ i by omega]⟩
    · rw [show v = i by omega]
      exact ⟨hv1, by simp [zpI, zu, bG]⟩

set_option maxRecDepth 100000 in
set_option maxHeartbeats 4000000 in
theorem o_givesAll {g : zG} {d : Nat} {F : zF} {μ : zMem} {hd : Int32} (hd1 : 46 ≤ d) (ho : oM F μ) : zM g d M_givesAll [.ref 0, .int hd] μ (fun r μ' => r = none ∧ zq sM μ μ' ∧ ∀ v, v < fV F → μ'.1 39 v = kG F hd v ∧ μ'.1 40 v = bG F hd v) := by
  refine zM_of (by decide +kernel) rfl rfl (Nat.le_of_ble_eq_true rfl) rfl ?_
  refine zb M_givesAll_s0 rfl ?_
  exact w_M_givesAll hd1 (fV F) 0 μ (by omega) ho zq.rf (fun v hv => by omega)

set_option maxRecDepth 100000 in
set_option maxHeartbeats 4000000 in
theorem w_M_pitchBy {g : zG} {d : Nat} {F : zF} {kp bp : Nat → Int32} {b set : Int32} (hd : 1 ≤ d) : ∀ (j i : Nat) (acc : Int32) (μ : zMem), i + j = fV F → oM F μ → (∀ v, v < fV F → μ.1 39 v = kp v ∧ μ.1 40 v = bp v) → (acc = ftone F b.toNatClampNeg + zsum (pbT F kp bp b set) i) → zW g M_pitchBy d 10 [some (.ref 0), some (.int b), some (.int set), some (.int acc), some (.int (nI i))] [] μ (fun r μ' => r = some (.int (pby F kp bp b set)) ∧ μ' = μ) := by
  intro j
  induction j with
  | zero =>
    intro i acc μ hi ho hk hv0
    have hbd := ho.v
    have h12 := ho.v12
    have h6 := ho.b6
    have hi : i = fV F := by omega
    subst hi
    refine zb M_pitchBy_s10 rfl ?_
    refine z_cge M_pitchBy_d16 (tgt := 66) rfl (fun h16 => ?_) (fun h16 => absurd (show μ.1 0 1 ≤ nI (fV F) by first | exact Int32.le_refl _ | (rw [hbd]; exact Int32.le_refl _)) h16)
    refine zb M_pitchBy_s66 rfl ?_
    refine z_ret M_pitchBy_d67 rfl ?_
    exact ⟨by rw [hv0]; rfl, rfl⟩
  | succ j ih =>
    intro i acc μ hi ho hk hv0
    have hbd := ho.v
    have h12 := ho.v12
    have h6 := ho.b6
    have hilt : i < fV F := by omega
    have ei : (nI i).toNatClampNeg = i := nI_clamp (by omega)
    refine zb M_pitchBy_s10 rfl ?_
    refine z_cge M_pitchBy_d16 (tgt := 66) rfl (fun h16 => absurd h16 (show ¬ μ.1 0 1 ≤ nI i by first | exact nI_ge hilt (by omega) | (rw [hbd]; exact nI_ge hilt (by omega)))) (fun h16 => ?_)
    refine zb1 M_pitchBy_s19 rfl (by first | assumption | exact vp_in_nI (by omega) (by omega) | decide) ?_
    refine z_cne M_pitchBy_d27 (tgt := 60) rfl (fun h27 => ?_) (fun h27 => ?_)
    · refine zb M_pitchBy_s60 rfl ?_
      rw [ho.e27, ei] at h27
      rw [nI_1]
      refine ih (i + 1) _ _ (by omega) ho hk ?_
      rw [zsum_s, ← Int32.add_assoc, ← hv0]
      unfold pbT
      first
        | rw [if_neg h27, Int32.add_zero]
        | rw [if_pos h27, if_pos (zB_ne0.mp h38), ei, (hk i hilt).2]
        | rw [if_pos h27, if_neg (zB_eq0.mp h38), ei, (hk i hilt).1]
    · refine zb M_pitchBy_s30 rfl ?_
      refine zcallV M_pitchBy_d35 k11_291 (by omega) (c_M_has _ _) rfl rfl rfl (Nat.le_of_ble_eq_true rfl) ?_
      rintro _ μx ⟨rfl, hx⟩
      rw [hx]
      clear hx μx
      refine z_eq M_pitchBy_d38 (tgt := 51) rfl (fun h38 => ?_) (fun h38 => ?_)
      · refine zb1 M_pitchBy_s51 rfl (by first | assumption | exact vp_in_nI (by omega) (by omega) | decide) ?_
        rw [ho.e27, ei] at h27
        rw [nI_1]
        refine ih (i + 1) _ _ (by omega) ho hk ?_
        rw [zsum_s, ← Int32.add_assoc, ← hv0]
        unfold pbT
        first
          | rw [if_neg h27, Int32.add_zero]
          | rw [if_pos h27, if_pos (zB_ne0.mp h38), ei, (hk i hilt).2]
          | rw [if_pos h27, if_neg (zB_eq0.mp h38), ei, (hk i hilt).1]
      · refine zb1 M_pitchBy_s41 rfl (by first | assumption | exact vp_in_nI (by omega) (by omega) | decide) ?_
        rw [ho.e27, ei] at h27
        rw [nI_1]
        refine ih (i + 1) _ _ (by omega) ho hk ?_
        rw [zsum_s, ← Int32.add_assoc, ← hv0]
        unfold pbT
        first
          | rw [if_neg h27, Int32.add_zero]
          | rw [if_pos h27, if_pos (zB_ne0.mp h38), ei, (hk i hilt).2]
          | rw [if_pos h27, if_neg (zB_eq0.mp h38), ei, (hk i hilt).1]

set_option maxRecDepth 100000 in
set_option maxHeartbeats 4000000 in
theorem o_pitchBy {g : zG} {d : Nat} {F : zF} {μ : zMem} {kp bp : Nat → Int32} {b set : Int32} (hd : 1 ≤ d) (hb : vp_in b 6) (ho : oM F μ) (hk : ∀ v, v < fV F → μ.1 39 v = kp v ∧ μ.1 40 v = bp v) : zM g d M_pitchBy [.ref 0, .int b, .int set] μ (fun r μ' => r = some (.int (pby F kp bp b set)) ∧ μ' = μ) := by
  refine zM_of (by decide +kernel) rfl rfl (Nat.le_of_ble_eq_true rfl) rfl ?_
  refine zb1 M_pitchBy_s0 rfl hb ?_
  exact w_M_pitchBy hd (fV F) 0 _ μ (by omega) ho hk (by rw [ho.e25]; exact (Int32.add_zero _).symm)

set_option maxRecDepth 100000 in
set_option maxHeartbeats 4000000 in
theorem w_M_heard {g : zG} {d : Nat} {F : zF} {μ0 : zMem} {kp bp : Nat → Int32} {b pitch hd w : Int32} (hd1 : 47 ≤ d) (hbi : vp_in b 6) : ∀ (j i : Nat) (a6 : Int32) (a7 : Int32) (a8 : Int32) (a9 : Int32) (μ : zMem), i + j = 2 ^ fV F → oM F μ → zq sM μ0 μ → (∀ v, v < fV F → μ.1 39 v = kp v ∧ μ.1 40 v = bp v) → ((a6, a7, a8, a9) = zfold (hStep F kp bp b pitch (setOf F b)) 0 i (0, setOf F b, setOf F b, -2)) → zW g M_heard d 59 [some (.ref 0), some (.int b), some (.int pitch), some (.int hd), some (.int w), some (.int (setOf F b)), some (.int a6), some (.int a7), some (.int a8), some (.int a9), some (.int (nI i))] [] μ (fun r μ' => r = some (.int (heW (zfold (hStep F kp bp b pitch (setOf F b)) 0 (2 ^ fV F) (0, setOf F b, setOf F b, -2)) w)) ∧ zq sM μ0 μ') := by
  intro j
  induction j with
  | zero =>
    intro i a6 a7 a8 a9 μ hi ho hz hk hv0
    have hbd := ho.v
    have h12 := ho.v12
    have h6 := ho.b6
    have hp2 := p2le h12
    replace hbd : (1 : Int32) <<< (μ.1 0 1 &&& 31) = nI (2 ^ fV F) := by rw [ho.v, sh1 h12]
    have hi : i = 2 ^ fV F := by omega
    subst hi
    refine zb M_heard_s59 rfl ?_
    refine z_cge M_heard_d67 (tgt := 135) rfl (fun h67 => ?_) (fun h67 => absurd (show (1 : Int32) <<< (μ.1 0 1 &&& 31) ≤ nI (2 ^ fV F) by first | exact Int32.le_refl _ | (rw [hbd]; exact Int32.le_refl _)) h67)
    refine zb M_heard_s135 rfl ?_
    refine z_ne M_heard_d137 (tgt := 143) rfl (fun h137 => ?_) (fun h137 => ?_)
    · refine zb M_heard_s143 rfl ?_
      refine z_ne M_heard_d145 (tgt := 153) rfl (fun h145 => ?_) (fun h145 => ?_)
      · refine zb M_heard_s153 rfl ?_
        refine z_cne M_heard_d156 (tgt := 164) rfl (fun h156 => ?_) (fun h156 => ?_)
        · refine zb M_heard_s164 rfl ?_
          refine z_cne M_heard_d167 (tgt := 175) rfl (fun h167 => ?_) (fun h167 => ?_)
          · refine zb M_heard_s175 rfl ?_
            refine z_ret M_heard_d177 rfl ?_
            rw [← hv0]
            unfold heW
            first
              | exact ⟨by rw [if_pos h137], hz⟩
              | exact ⟨by rw [if_neg h137, if_pos h145], hz⟩
              | exact ⟨by rw [if_neg h137, if_neg h145, if_pos h156], hz⟩
              | exact ⟨by rw [if_neg h137, if_neg h145, if_neg h156, if_pos h167], hz⟩
              | exact ⟨by rw [if_neg h137, if_neg h145, if_neg h156, if_neg h167], hz⟩
          · refine zb M_heard_s170 rfl ?_
            refine z_ret M_heard_d177 rfl ?_
            rw [← hv0]
            unfold heW
            first
              | exact ⟨by rw [if_pos h137], hz⟩
              | exact ⟨by rw [if_neg h137, if_pos h145], hz⟩
              | exact ⟨by rw [if_neg h137, if_neg h145, if_pos h156], hz⟩
              | exact ⟨by rw [if_neg h137, if_neg h145, if_neg h156, if_pos h167], hz⟩
              | exact ⟨by rw [if_neg h137, if_neg h145, if_neg h156, if_neg h167], hz⟩
        · refine zb M_heard_s159 rfl ?_
          refine z_ret M_heard_d177 rfl ?_
          rw [← hv0]
          unfold heW
          first
            | exact ⟨by rw [if_pos h137], hz⟩
            | exact ⟨by rw [if_neg h137, if_pos h145], hz⟩
            | exact ⟨by rw [if_neg h137, if_neg h145, if_pos h156], hz⟩
            | exact ⟨by rw [if_neg h137, if_neg h145, if_neg h156, if_pos h167], hz⟩
            | exact ⟨by rw [if_neg h137, if_neg h145, if_neg h156, if_neg h167], hz⟩
      · refine zb M_heard_s148 rfl ?_
        refine z_ret M_heard_d177 rfl ?_
        rw [← hv0]
        unfold heW
        first
          | exact ⟨by rw [if_pos h137], hz⟩
          | exact ⟨by rw [if_neg h137, if_pos h145], hz⟩
          | exact ⟨by rw [if_neg h137, if_neg h145, if_pos h156], hz⟩
          | exact ⟨by rw [if_neg h137, if_neg h145, if_neg h156, if_pos h167], hz⟩
          | exact ⟨by rw [if_neg h137, if_neg h145, if_neg h156, if_neg h167], hz⟩
    · refine zb M_heard_s140 rfl ?_
      refine z_ret M_heard_d142 rfl ?_
      rw [← hv0]
      unfold heW
      first
        | exact ⟨by rw [if_pos h137], hz⟩
        | exact ⟨by rw [if_neg h137, if_pos h145], hz⟩
        | exact ⟨by rw [if_neg h137, if_neg h145, if_pos h156], hz⟩
        | exact ⟨by rw [if_neg h137, if_neg h145, if_neg h156, if_pos h167], hz⟩
        | exact ⟨by rw [if_neg h137, if_neg h145, if_neg h156, if_neg h167], hz⟩
  | succ j ih =>
    intro i a6 a7 a8 a9 μ hi ho hz hk hv0
    have hbd := ho.v
    have h12 := ho.v12
    have h6 := ho.b6
    have hp2 := p2le h12
    replace hbd : (1 : Int32) <<< (μ.1 0 1 &&& 31) = nI (2 ^ fV F) := by rw [ho.v, sh1 h12]
    have hilt : i < 2 ^ fV F := by omega
    have ei : (nI i).toNatClampNeg = i := nI_clamp (by omega)
    refine zb M_heard_s59 rfl ?_
    refine z_cge M_heard_d67 (tgt := 135) rfl (fun h67 => absurd h67 (show ¬ (1 : Int32) <<< (μ.1 0 1 &&& 31) ≤ nI i by first | exact nI_ge hilt (by omega) | (rw [hbd]; exact nI_ge hilt (by omega)))) (fun h67 => ?_)
    refine zb M_heard_s70 rfl ?_
    refine z_ne M_heard_d77 (tgt := 129) rfl (fun h77 => ?_) (fun h77 => ?_)
    · refine zb M_heard_s129 rfl ?_
      rw [nI_1]
      refine ih (i + 1) _ _ _ _ _ (by omega) ho hz hk ?_
      rw [zf0, ← hv0]
      unfold hStep
      first
        | rw [if_pos (Or.inl h77)]
        | rw [if_pos (Or.inr h88)]
        | (rw [if_neg (fun z => z.elim h77 h88)]; dsimp only; rw [if_pos h98])
        | (rw [if_neg (fun z => z.elim h77 h88)]; dsimp only; rw [if_neg h98])
    · replace h77 := fun z : ¬ (nI i &&& (setOf F b ^^^ -1)) = 0 => z h77
      refine zb M_heard_s80 rfl ?_
      refine zcallV M_heard_d84 k11_313 (by omega) (o_pitchBy (by omega) hbi ho hk) rfl rfl rfl (Nat.le_of_ble_eq_true rfl) ?_
      rintro _ μx ⟨rfl, hx⟩
      rw [hx]
      clear hx μx
      refine zb M_heard_s87 rfl ?_
      refine z_ceq M_heard_d88 (tgt := 94) rfl (fun h88 => ?_) (fun h88 => ?_)
      · replace h88 := fun z : ¬ pby F kp bp b (nI i) = pitch => z h88
        refine zb M_heard_s94 rfl ?_
        refine z_cne M_heard_d98 (tgt := 106) rfl (fun h98 => ?_) (fun h98 => ?_)
        · refine zb M_heard_s106 rfl ?_
          rw [nI_1]
          refine ih (i + 1) _ _ _ _ _ (by omega) ho hz hk ?_
          rw [zf0, ← hv0]
          unfold hStep
          first
            | rw [if_pos (Or.inl h77)]
            | rw [if_pos (Or.inr h88)]
            | (rw [if_neg (fun z => z.elim h77 h88)]; dsimp only; rw [if_pos h98])
            | (rw [if_neg (fun z => z.elim h77 h88)]; dsimp only; rw [if_neg h98])
        · refine zb M_heard_s101 rfl ?_
          rw [nI_1]
          refine ih (i + 1) _ _ _ _ _ (by omega) ho hz hk ?_
          rw [zf0, ← hv0]
          unfold hStep
          first
            | rw [if_pos (Or.inl h77)]
            | rw [if_pos (Or.inr h88)]
            | (rw [if_neg (fun z => z.elim h77 h88)]; dsimp only; rw [if_pos h98])
            | (rw [if_neg (fun z => z.elim h77 h88)]; dsimp only; rw [if_neg h98])
      · refine zb M_heard_s91 rfl ?_
        rw [nI_1]
        refine ih (i + 1) _ _ _ _ _ (by omega) ho hz hk ?_
        rw [zf0, ← hv0]
        unfold hStep
        first
          | rw [if_pos (Or.inl h77)]
          | rw [if_pos (Or.inr h88)]
          | (rw [if_neg (fun z => z.elim h77 h88)]; dsimp only; rw [if_pos h98])
          | (rw [if_neg (fun z => z.elim h77 h88)]; dsimp only; rw [if_neg h98])

set_option maxRecDepth 100000 in
set_option maxHeartbeats 4000000 in
theorem o_heard {g : zG} {d : Nat} {F : zF} {μ : zMem} {b pitch hd w : Int32} (hd1 : 48 ≤ d) (ho : oM F μ) : zM g d M_heard [.ref 0, .int b, .int pitch, .int hd, .int w] μ (fun r μ' => r = some (.int (sHeard F b pitch hd w)) ∧ zq sM μ μ') := by
  refine zM_of (by decide +kernel) rfl rfl (Nat.le_of_ble_eq_true rfl) rfl ?_
  have hz : zq sM μ μ := zq.rf
  have h12 := ho.v12
  have h6 := ho.b6
  refine zb M_heard_s0 rfl ?_
  refine zcallV M_heard_d2 k11_116 (by omega) (c_M_isBell _) rfl rfl rfl (Nat.le_of_ble_eq_true rfl) ?_
  rintro _ μx ⟨rfl, hx⟩
  rw [hx]
  clear hx μx
  rw [ho.b]
  refine z_eq M_heard_d5 (tgt := 27) rfl (fun h5 => ?_) (fun h5 => ?_)
  · refine zb M_heard_s27 rfl ?_
    refine z_ret M_heard_d28 rfl ?_
    unfold sHeard
    first
      | exact ⟨by rw [if_neg (fun z => (zB_eq0.mp h5) z.1)], hz⟩
      | exact ⟨by rw [if_neg (fun z => (zB_eq0.mp h13) z.2.1)], hz⟩
      | exact ⟨by rw [if_neg (fun z => (zB_eq0.mp h24) z.2.2)], hz⟩
  · refine zb M_heard_s8 rfl ?_
    refine zcallV M_heard_d10 k11_303 (by omega) (c_M_isHeardTime _) rfl rfl rfl (Nat.le_of_ble_eq_true rfl) ?_
    rintro _ μx ⟨rfl, hx⟩
    rw [hx]
    clear hx μx
    refine z_eq M_heard_d13 (tgt := 27) rfl (fun h13 => ?_) (fun h13 => ?_)
    · refine zb M_heard_s27 rfl ?_
      refine z_ret M_heard_d28 rfl ?_
      unfold sHeard
      first
        | exact ⟨by rw [if_neg (fun z => (zB_eq0.mp h5) z.1)], hz⟩
        | exact ⟨by rw [if_neg (fun z => (zB_eq0.mp h13) z.2.1)], hz⟩
        | exact ⟨by rw [if_neg (fun z => (zB_eq0.mp h24) z.2.2)], hz⟩
    · refine zb M_heard_s16 rfl ?_
      refine zcallV M_heard_d21 k11_112 (by omega) (c_M_isIn _ _ _) rfl rfl rfl (Nat.le_of_ble_eq_true rfl) ?_
      rintro _ μx ⟨rfl, hx⟩
      rw [hx]
      clear hx μx
      refine z_ne M_heard_d24 (tgt := 29) rfl (fun h24 => ?_) (fun h24 => ?_)
      · refine zb M_heard_s29 rfl ?_
        refine zcallV M_heard_d31 k11_306 (by omega) (o_givesAll (by omega) ho) rfl rfl rfl (Nat.le_of_ble_eq_true rfl) ?_
        rintro _ μ1 ⟨rfl, hz1, hk⟩
        replace hz := hz.tr hz1
        replace ho := ho.q hz1
        clear hz1
        refine zb M_heard_s34 rfl ?_
        refine zcallV M_heard_d36 k11_310 (by omega) (o_ofBell _ ho) rfl rfl rfl (Nat.le_of_ble_eq_true rfl) ?_
        rintro _ μx ⟨rfl, hx⟩
        rw [hx]
        clear hx μx
        refine zb M_heard_s39 rfl ?_
        unfold sHeard heS
        have hb := zB_ne0.mp h5
        rw [if_pos ⟨hb, zB_ne0.mp h13, zB_ne0.mp h24⟩]
        have hbi : vp_in b 6 := by
          obtain ⟨q, hq, rfl, -⟩ := zix hb.1 hb.2 (by omega)
          exact vp_in_nI (by omega) (by omega)
        exact w_M_heard (by omega) hbi (2 ^ fV F) 0 _ _ _ _ μ1 (by omega) ho hz hk rfl
      · refine zb M_heard_s27 rfl ?_
        refine z_ret M_heard_d28 rfl ?_
        unfold sHeard
        first
          | exact ⟨by rw [if_neg (fun z => (zB_eq0.mp h5) z.1)], hz⟩
          | exact ⟨by rw [if_neg (fun z => (zB_eq0.mp h13) z.2.1)], hz⟩
          | exact ⟨by rw [if_neg (fun z => (zB_eq0.mp h24) z.2.2)], hz⟩
