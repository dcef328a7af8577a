/-! the class: years by draws -/
def rngS (V L : Nat) (sc : Nat → Int32) : Prop := ∀ v, v < V → sc v = 999 ∨ ∃ q, q < L ∧ sc v = nI q
theorem drT_is {F : zF} (hF : okF F) (h6 : fB F ≤ 6) {sc : Nat → Int32} {L v b : Nat} (hL : L ≤ 999) (hr : rngS (fV F) L sc) (hv : v < fV F) : drT F (nI L - 1) sc b v = if fbell F v = nI b then ofI F v (nI b) (if sc v = 999 then -1 else nI L - 1 - sc v) 12 else 0 := by
  unfold drT
  by_cases q : fbell F v = nI b
  · rw [if_pos q, if_pos q]
    by_cases y : sc v = 999
    · rw [zB_t y, if_pos y, ofI_giv1]
    · rw [zB_f y, if_neg y, ofI_giv0]
      obtain ⟨p, hp, e⟩ := (hr v hv).resolve_left y
      rw [e, show nI L - 1 - nI p = nI (L - 1 - p) by rw [show (1 : Int32) = nI 1 from rfl, pk_sub (by omega), pk_sub (by omega)]]
      exact nI_pos' (by omega)
  · rw [if_neg q, if_neg q]
theorem many_o {F : zF} (h6 : fB F ≤ 6) {f r : Nat → Int32} (hr : ∀ b, b < 6 → r b = f b) (ho : ∀ b, fB F ≤ b → b < 6 → f b = 0) : zsum (fun b => zB (¬ r b = 0)) 6 = zsum (fun b => zB (¬ f b = 0)) (fB F) := by
  have e : 6 = fB F + (6 - fB F) := by omega
  rw [show zsum (fun b => zB (¬ r b = 0)) 6 = zsum (fun b => zB (¬ r b = 0)) (fB F + (6 - fB F)) by rw [← e]]
  rw [zsum_tail (fB F) (6 - fB F) (fun b h1 h2 => by
    rw [hr b (by omega), ho b h1 (by omega)]
    rfl)]
  exact zsum_congr _ (fun b hb => by rw [hr b (by omega)])
theorem bell_o {F : zF} (hF : okF F) (h6 : fB F ≤ 6) {v b : Nat} (hv : v < fV F) (hb : fB F ≤ b) (hb6 : b < 6) : ¬ fbell F v = nI b := fun z => by
  obtain ⟨b0, h0, e0⟩ := (hF.2.1 v hv).1
  have := (nI_eq (a := b0) (b := b) (by omega) (by omega)).mp (e0.symm.trans z)
  omega

set_option maxRecDepth 100000 in
set_option maxHeartbeats 4000000 in
theorem w_drOff {g : zG} {d : Nat} {F : zF} {μ0 : zMem} {sc : Nat → Int32} {L : Nat} (hL : L ≤ 999) (hr : rngS (fV F) L sc) (hs : ∀ v, v < fV F → μ0.1 72 v = sc v) (hF : okF F) (hd : 5 ≤ d) : ∀ (j i : Nat) (x3 : Option Value) (x4 : Option Value) (μ : zMem), i + j = fV F → oX F μ → zq (n1 70) μ0 μ → (∀ b, b < 6 → μ.1 70 b = zsum (drT F (nI L - 1) sc b) i) → zW g C_drawnOff d 10 [some (.ref 6), some (.int (nI L - 1)), some (.int (nI i)), x3, x4] [] μ (fun r μ' => r = some (.int (drO F (nI L - 1) sc)) ∧ zq (n1 70) μ0 μ') := by
  intro j
  induction j with
  | zero =>
    intro i x3 x4 μ hi ho hz hv0
    have hbd := ho.v
    have h12 := ho.v12
    have h6 := ho.b6
    have hi : fV F = i := by omega
    subst hi
    refine zb C_drawnOff_s10 rfl ?_
    refine z_cge C_drawnOff_d18 (tgt := 85) rfl (fun h18 => ?_) (fun h18 => absurd (show μ.1 2 8 ≤ nI (fV F) by first | exact Int32.le_refl _ | (rw [hbd]; exact Int32.le_refl _)) h18)
    refine zb C_drawnOff_s85 rfl ?_
    refine zcallS C_drawnOff_d89 k1_46 (by omega) (x_countOff_70 (by omega)) rfl rfl (Nat.le_of_ble_eq_true rfl) ?_
    rintro _ μx ⟨rfl, hx⟩
    rw [hx]
    clear hx μx
    refine z_ret C_drawnOff_d92 rfl ?_
    refine ⟨congrArg (fun z => some (Value.int z)) ?_, hz⟩
    exact many_o h6 hv0 (fun b h1 h2 => zsum_0 _ (fun v hv => by
      unfold drT
      exact if_neg (bell_o hF h6 hv h1 h2)))
  | succ j ih =>
    intro i x3 x4 μ hi ho hz hv0
    have hbd := ho.v
    have h12 := ho.v12
    have h6 := ho.b6
    have hilt : i < fV F := by omega
    have ei : (nI i).toNatClampNeg = i := nI_clamp (by omega)
    have hvi : vp_in (nI i) 12 := vp_in_nI (by omega) (by omega)
    have e56 := ho.e56
    obtain ⟨b0, hb0, eb0⟩ := (hF.2.1 i hilt).1
    have hvb : vp_in (μ.1 56 (nI i).toNatClampNeg) 6 := by rw [e56, ei, eb0]; exact vp_in_nI (by omega) (by omega)
    have hvb2 : vp_in (nI b0) 6 := vp_in_nI (by omega) (by omega)
    have ec : (nI b0).toNatClampNeg = b0 := nI_clamp (by omega)
    have hsc : μ.1 72 i = sc i := by rw [hz.1 72 i rfl]; exact hs i hilt
    refine zb C_drawnOff_s10 rfl ?_
    refine z_cge C_drawnOff_d18 (tgt := 85) rfl (fun h18 => absurd h18 (show ¬ μ.1 2 8 ≤ nI i by first | exact nI_ge hilt (by omega) | (rw [hbd]; exact nI_ge hilt (by omega)))) (fun h18 => ?_)
    refine zb2 C_drawnOff_s21 rfl (by first | exact hvi | exact hvb | exact hvb2 | (rw [ec]; exact hvb2) | (rw [e56, ei, eb0]; exact hvb2)) (by first | exact hvi | exact hvb | exact hvb2 | (rw [ec]; exact hvb2) | (rw [e56, ei, eb0]; exact hvb2)) ?_
    refine z_cne C_drawnOff_d40 (tgt := 47) rfl (fun h40 => ?_) (fun h40 => ?_)
    · refine zb2 C_drawnOff_s47 rfl (by first | exact hvi | exact hvb | exact hvb2 | (rw [ec]; exact hvb2) | (rw [e56, ei, eb0]; exact hvb2)) (by first | exact hvi | exact hvb | exact hvb2 | (rw [ec]; exact hvb2) | (rw [e56, ei, eb0]; exact hvb2)) ?_
      rw [e56, ei, eb0, ec]
      (try rw [hsc])
      refine zcallV C_drawnOff_d74 k1_60 (by omega) (x_offIf (by omega) (by omega) ho) rfl rfl rfl (Nat.le_of_ble_eq_true rfl) ?_
      rintro _ μ1 ⟨rfl, hz1⟩
      have hv0a : ∀ b, b < 6 → μ1.1 70 b = zsum (drT F (nI L - 1) sc b) i := fun b hb => by rw [hz1.1 70 b rfl]; exact hv0 b hb
      replace hz := hz.tr (hz1.mono nS_n1)
      replace ho := ho.q (hz1.mono nS_sX)
      refine zb1 C_drawnOff_s77 rfl (by first | exact hvi | exact hvb | exact hvb2 | (rw [ec]; exact hvb2) | (rw [e56, ei, eb0]; exact hvb2)) ?_
      rw [nI_1]
      (try rw [ec])
      rw [ei, hsc] at h40
      refine ih (i + 1) _ _ _ (by omega) (ho.q (zq.w (m := sX) rfl)) (hz.tr (zq.w rfl)) (fun b hb => ?_)
      rw [zpI_at, zsum_s, drT_is hF h6 hL hr hilt]
      by_cases y : b = b0
      · rw [if_pos y, y, if_pos eb0, hv0 b0 (by omega)]
        first
          | (rw [if_pos h40]; done)
          | (rw [if_neg h40]; done)
      · rw [if_neg y, if_neg (fun z => y ((nI_eq (by omega) (by omega)).mp (z.symm.trans eb0))), Int32.add_zero]
        exact hv0a b hb
    · refine zb1 C_drawnOff_s43 rfl (by first | exact hvi | exact hvb | exact hvb2 | (rw [ec]; exact hvb2) | (rw [e56, ei, eb0]; exact hvb2)) ?_
      rw [e56, ei, eb0, ec]
      (try rw [hsc])
      refine zcallV C_drawnOff_d74 k1_60 (by omega) (x_offIf (by omega) (by omega) ho) rfl rfl rfl (Nat.le_of_ble_eq_true rfl) ?_
      rintro _ μ1 ⟨rfl, hz1⟩
      have hv0a : ∀ b, b < 6 → μ1.1 70 b = zsum (drT F (nI L - 1) sc b) i := fun b hb => by rw [hz1.1 70 b rfl]; exact hv0 b hb
      replace hz := hz.tr (hz1.mono nS_n1)
      replace ho := ho.q (hz1.mono nS_sX)
      refine zb1 C_drawnOff_s77 rfl (by first | exact hvi | exact hvb | exact hvb2 | (rw [ec]; exact hvb2) | (rw [e56, ei, eb0]; exact hvb2)) ?_
      rw [nI_1]
      (try rw [ec])
      rw [ei, hsc] at h40
      refine ih (i + 1) _ _ _ (by omega) (ho.q (zq.w (m := sX) rfl)) (hz.tr (zq.w rfl)) (fun b hb => ?_)
      rw [zpI_at, zsum_s, drT_is hF h6 hL hr hilt]
      by_cases y : b = b0
      · rw [if_pos y, y, if_pos eb0, hv0 b0 (by omega)]
        first
          | (rw [if_pos h40]; done)
          | (rw [if_neg h40]; done)
      · rw [if_neg y, if_neg (fun z => y ((nI_eq (by omega) (by omega)).mp (z.symm.trans eb0))), Int32.add_zero]
        exact hv0a b hb

set_option maxRecDepth 100000 in
set_option maxHeartbeats 4000000 in
theorem x_drOff {g : zG} {d : Nat} {F : zF} {μ0 : zMem} {sc : Nat → Int32} {L : Nat} (hL : L ≤ 999) (hr : rngS (fV F) L sc) (hs : ∀ v, v < fV F → μ0.1 72 v = sc v) (hF : okF F) (hd : 5 ≤ d) (ho : oX F μ0) : zM g d C_drawnOff [.ref 6, .int (nI L - 1)] μ0 (fun r μ' => r = some (.int (drO F (nI L - 1) sc)) ∧ zq (n1 70) μ0 μ') := by
  refine zM_of (by decide +kernel) rfl rfl (Nat.le_of_ble_eq_true rfl) rfl ?_
  refine zb C_drawnOff_s0 rfl ?_
  refine zcallS C_drawnOff_d5 k1_34 (by omega) (x_fillN_70 0) rfl rfl (Nat.le_of_ble_eq_true rfl) ?_
  rintro _ μ1 ⟨rfl, hz1, hf1⟩
  refine zb C_drawnOff_s8 rfl ?_
  exact w_drOff hL hr hs hF hd (fV F) 0 _ _ μ1 (by omega) (ho.q (hz1.mono (s1_sX (fun _ => rfl)))) (hz1.mono s1_n1) (fun b hb => hf1 b hb)

set_option maxRecDepth 100000 in
set_option maxHeartbeats 4000000 in
theorem w_drBr {g : zG} {d : Nat} {F : zF} {μ0 : zMem} {sc : Nat → Int32} (hs : ∀ v, v < fV F → μ0.1 72 v = sc v) (hd : 1 ≤ d) : ∀ (j i : Nat) (acc : Int32) (μ : zMem), i + j = fV F → oX F μ → μ = μ0 → (acc = zsum (fun v => zB (¬ sc v = 999)) i) → zW g C_drawnBroken d 4 [some (.ref 6), some (.int acc), some (.int (nI i))] [] μ (fun r μ' => r = some (.int (drG F sc)) ∧ μ' = μ0) := by
  intro j
  induction j with
  | zero =>
    intro i acc μ hi ho hz hv0
    have hbd := ho.v
    have h12 := ho.v12
    have h6 := ho.b6
    have hi : fV F = i := by omega
    subst hi
    refine zb C_drawnBroken_s4 rfl ?_
    refine z_cge C_drawnBroken_d12 (tgt := 44) rfl (fun h12 => ?_) (fun h12 => absurd (show μ.1 2 8 ≤ nI (fV F) by first | exact Int32.le_refl _ | (rw [hbd]; exact Int32.le_refl _)) h12)
    refine zb C_drawnBroken_s44 rfl ?_
    refine z_ret C_drawnBroken_d45 rfl ?_
    exact ⟨by rw [hv0]; rfl, hz⟩
  | succ j ih =>
    intro i acc μ hi ho hz hv0
    have hbd := ho.v
    have h12 := ho.v12
    have h6 := ho.b6
    have hilt : i < fV F := by omega
    have ei : (nI i).toNatClampNeg = i := nI_clamp (by omega)
    have hvi : vp_in (nI i) 12 := vp_in_nI (by omega) (by omega)
    have hsc : μ.1 72 i = sc i := by rw [hz]; exact hs i hilt
    refine zb C_drawnBroken_s4 rfl ?_
    refine z_cge C_drawnBroken_d12 (tgt := 44) rfl (fun h12 => absurd h12 (show ¬ μ.1 2 8 ≤ nI i by first | exact nI_ge hilt (by omega) | (rw [hbd]; exact nI_ge hilt (by omega)))) (fun h12 => ?_)
    refine zb1 C_drawnBroken_s15 rfl hvi ?_
    refine z_ceq C_drawnBroken_d25 (tgt := 32) rfl (fun h25 => ?_) (fun h25 => ?_)
    · refine zb C_drawnBroken_s32 rfl ?_
      refine zcallN C_drawnBroken_d33 k1_64 (by omega) (x_bit _) rfl rfl (Nat.le_of_ble_eq_true rfl) ?_
      rintro _ μx ⟨rfl, hx⟩
      rw [hx]
      clear hx μx
      refine zb C_drawnBroken_s36 rfl ?_
      rw [ei, hsc] at h25
      rw [nI_1]
      refine ih (i + 1) _ _ (by omega) ho hz ?_
      rw [zsum_s, ← hv0]
      congr 1
      first
        | exact zB_cong (iff_of_true (by decide) h25)
        | exact zB_cong (iff_of_false (by decide) (fun z => z h25))
    · refine zb C_drawnBroken_s28 rfl ?_
      refine zcallN C_drawnBroken_d33 k1_64 (by omega) (x_bit _) rfl rfl (Nat.le_of_ble_eq_true rfl) ?_
      rintro _ μx ⟨rfl, hx⟩
      rw [hx]
      clear hx μx
      refine zb C_drawnBroken_s36 rfl ?_
      rw [ei, hsc] at h25
      rw [nI_1]
      refine ih (i + 1) _ _ (by omega) ho hz ?_
      rw [zsum_s, ← hv0]
      congr 1
      first
        | exact zB_cong (iff_of_true (by decide) h25)
        | exact zB_cong (iff_of_false (by decide) (fun z => z h25))

set_option maxRecDepth 100000 in
set_option maxHeartbeats 4000000 in
theorem x_drBr {g : zG} {d : Nat} {F : zF} {μ0 : zMem} {sc : Nat → Int32} (hs : ∀ v, v < fV F → μ0.1 72 v = sc v) (hd : 1 ≤ d) (ho : oX F μ0) : zM g d C_drawnBroken [.ref 6] μ0 (fun r μ' => r = some (.int (drG F sc)) ∧ μ' = μ0) := by
  refine zM_of (by decide +kernel) rfl rfl (Nat.le_of_ble_eq_true rfl) rfl ?_
  refine zb C_drawnBroken_s0 rfl ?_
  exact w_drBr hs hd (fV F) 0 0 μ0 (by omega) ho rfl rfl

set_option maxRecDepth 100000 in
set_option maxHeartbeats 4000000 in
theorem w_drV {g : zG} {d : Nat} {F : zF} {μ0 : zMem} {seed w cnt fl : Int32} {ys m D y : Nat} {k : Nat} {t0 : Int32 × (Nat → Int32)} {Q : Option Value → zMem → Prop} (hk : k < m) (hDm : D + m ≤ 999) (hfl : μ0.1 2 9 = fl) (hQ : ∀ (z : Int32) (sc : Nat → Int32) (μ : zMem), oX F μ → zq sX μ0 μ → (∀ v, v < fV F → μ.1 72 v = sc v) → rngS (fV F) (D + m) sc → (z, sc) = zfold (drV fl (nI (D + k))) 0 (fV F) t0 → zW g C_drawYears d 122 [some (.ref 6), some (.int seed), some (.int (nI ys)), some (.int (nI m)), some (.int (nI D)), some (.int w), some (.int z), some (.int (nI (D + m) - 1)), some (.int cnt), some (.int (nI y)), some (.int (nI (D + k))), some (.int (nI (fV F)))] [] μ Q) : ∀ (j i : Nat) (z : Int32) (sc : Nat → Int32) (μ : zMem), i + j = fV F → oX F μ → zq sX μ0 μ → ((∀ v, v < fV F → μ.1 72 v = sc v)) → (rngS (fV F) (D + m) sc) → ((z, sc) = zfold (drV fl (nI (D + k))) 0 i t0) → zW g C_drawYears d 47 [some (.ref 6), some (.int seed), some (.int (nI ys)), some (.int (nI m)), some (.int (nI D)), some (.int w), some (.int z), some (.int (nI (D + m) - 1)), some (.int cnt), some (.int (nI y)), some (.int (nI (D + k))), some (.int (nI i))] [] μ (Q) := by
  intro j
  induction j with
  | zero =>
    intro i z sc μ hi ho hz hv0 hv1 hv2
    have hbd := ho.v
    have h12 := ho.v12
    have h6 := ho.b6
    have hi : fV F = i := by omega
    subst hi
    refine zb C_drawYears_s47 rfl ?_
    refine z_cge C_drawYears_d56 (tgt := 122) rfl (fun h56 => ?_) (fun h56 => absurd (show μ.1 2 8 ≤ nI (fV F) by first | exact Int32.le_refl _ | (rw [hbd]; exact Int32.le_refl _)) h56)
    exact hQ z sc μ ho hz hv0 hv1 hv2
  | succ j ih =>
    intro i z sc μ hi ho hz hv0 hv1 hv2
    have hbd := ho.v
    have h12 := ho.v12
    have h6 := ho.b6
    have hilt : i < fV F := by omega
    have ei : (nI i).toNatClampNeg = i := nI_clamp (by omega)
    have hvi : vp_in (nI i) 12 := vp_in_nI (by omega) (by omega)
    have hsc := hv0 i hilt
    have hf2 : μ.1 2 9 = fl := by rw [hz.1 2 9 rfl]; exact hfl
    have hz0 : zfold (drV fl (nI (D + k))) 0 (i + 1) t0 = drV fl (nI (D + k)) i (z, sc) := by rw [zf0, ← hv2]
    have hset : ∀ x : Int32, (x = 999 ∨ ∃ q, q < D + m ∧ x = nI q) → rngS (fV F) (D + m) (fu sc i x) ∧ ∀ v, v < fV F → (zpI μ 72 i x).1 72 v = fu sc i x v := fun x hx => by
      refine ⟨fun v hv => ?_, fun v hv => ?_⟩
      · unfold fu
        by_cases q : v = i
        · rw [if_pos q]; exact hx
        · rw [if_neg q]; exact hv1 v hv
      · rw [zpI_at]
        unfold fu
        by_cases q : v = i
        · rw [if_pos q, if_pos q]
        · rw [if_neg q, if_neg q]; exact hv0 v hv
    refine zb C_drawYears_s47 rfl ?_
    refine z_cge C_drawYears_d56 (tgt := 122) rfl (fun h56 => absurd h56 (show ¬ μ.1 2 8 ≤ nI i by first | exact nI_ge hilt (by omega) | (rw [hbd]; exact nI_ge hilt (by omega)))) (fun h56 => ?_)
    refine zb1 C_drawYears_s59 rfl (by decide) ?_
    refine z_cge C_drawYears_d85 (tgt := 116) rfl (fun h85 => ?_) (fun h85 => ?_)
    · refine zb C_drawYears_s116 rfl ?_
      rw [nI_1]
      (try rw [ei, hsc] at h104)
      have e1 : z * 1103515245 + 12345 = drZ z := rfl
      rw [hf2] at h85
      first
        | (have e : drV fl (nI (D + k)) i (z, sc) = (drZ z, fu sc i (nI (D + k))) := by
             unfold drV
             rw [if_pos (show zrem (zush (drZ z)) 12 < fl from Int32.not_le.mp h85), if_pos h104]
           rw [e] at hz0
           have ks := hset (nI (D + k)) (Or.inr ⟨D + k, by omega, rfl⟩)
           rw [ei]
           exact ih (i + 1) _ _ _ (by omega) (ho.q (zq.w (m := sX) rfl)) (hz.tr (zq.w rfl)) ks.2 ks.1 hz0.symm)
        | (have e : drV fl (nI (D + k)) i (z, sc) = (drZ z, fu sc i 999) := by
             unfold drV
             rw [if_pos (show zrem (zush (drZ z)) 12 < fl from Int32.not_le.mp h85), if_neg h104]
           rw [e] at hz0
           have ks := hset 999 (Or.inl rfl)
           rw [ei]
           exact ih (i + 1) _ _ _ (by omega) (ho.q (zq.w (m := sX) rfl)) (hz.tr (zq.w rfl)) ks.2 ks.1 hz0.symm)
        | (have e : drV fl (nI (D + k)) i (z, sc) = (drZ z, sc) := by
             unfold drV
             rw [if_neg (show ¬ zrem (zush (drZ z)) 12 < fl from Int32.not_lt.mpr h85)]
           rw [e] at hz0
           exact ih (i + 1) _ _ _ (by omega) ho hz hv0 hv1 hz0.symm)
    · refine zb1 C_drawYears_s88 rfl hvi ?_
      refine z_cne C_drawYears_d104 (tgt := 112) rfl (fun h104 => ?_) (fun h104 => ?_)
      · refine zb1 C_drawYears_s112 rfl hvi ?_
        rw [nI_1]
        (try rw [ei, hsc] at h104)
        have e1 : z * 1103515245 + 12345 = drZ z := rfl
        rw [hf2] at h85
        first
          | (have e : drV fl (nI (D + k)) i (z, sc) = (drZ z, fu sc i (nI (D + k))) := by
               unfold drV
               rw [if_pos (show zrem (zush (drZ z)) 12 < fl from Int32.not_le.mp h85), if_pos h104]
             rw [e] at hz0
             have ks := hset (nI (D + k)) (Or.inr ⟨D + k, by omega, rfl⟩)
             rw [ei]
             exact ih (i + 1) _ _ _ (by omega) (ho.q (zq.w (m := sX) rfl)) (hz.tr (zq.w rfl)) ks.2 ks.1 hz0.symm)
          | (have e : drV fl (nI (D + k)) i (z, sc) = (drZ z, fu sc i 999) := by
               unfold drV
               rw [if_pos (show zrem (zush (drZ z)) 12 < fl from Int32.not_le.mp h85), if_neg h104]
             rw [e] at hz0
             have ks := hset 999 (Or.inl rfl)
             rw [ei]
             exact ih (i + 1) _ _ _ (by omega) (ho.q (zq.w (m := sX) rfl)) (hz.tr (zq.w rfl)) ks.2 ks.1 hz0.symm)
          | (have e : drV fl (nI (D + k)) i (z, sc) = (drZ z, sc) := by
               unfold drV
               rw [if_neg (show ¬ zrem (zush (drZ z)) 12 < fl from Int32.not_lt.mpr h85)]
             rw [e] at hz0
             exact ih (i + 1) _ _ _ (by omega) ho hz hv0 hv1 hz0.symm)
      · refine zb1 C_drawYears_s107 rfl hvi ?_
        rw [nI_1]
        (try rw [ei, hsc] at h104)
        have e1 : z * 1103515245 + 12345 = drZ z := rfl
        rw [hf2] at h85
        first
          | (have e : drV fl (nI (D + k)) i (z, sc) = (drZ z, fu sc i (nI (D + k))) := by
               unfold drV
               rw [if_pos (show zrem (zush (drZ z)) 12 < fl from Int32.not_le.mp h85), if_pos h104]
             rw [e] at hz0
             have ks := hset (nI (D + k)) (Or.inr ⟨D + k, by omega, rfl⟩)
             rw [ei]
             exact ih (i + 1) _ _ _ (by omega) (ho.q (zq.w (m := sX) rfl)) (hz.tr (zq.w rfl)) ks.2 ks.1 hz0.symm)
          | (have e : drV fl (nI (D + k)) i (z, sc) = (drZ z, fu sc i 999) := by
               unfold drV
               rw [if_pos (show zrem (zush (drZ z)) 12 < fl from Int32.not_le.mp h85), if_neg h104]
             rw [e] at hz0
             have ks := hset 999 (Or.inl rfl)
             rw [ei]
             exact ih (i + 1) _ _ _ (by omega) (ho.q (zq.w (m := sX) rfl)) (hz.tr (zq.w rfl)) ks.2 ks.1 hz0.symm)
          | (have e : drV fl (nI (D + k)) i (z, sc) = (drZ z, sc) := by
               unfold drV
               rw [if_neg (show ¬ zrem (zush (drZ z)) 12 < fl from Int32.not_lt.mpr h85)]
             rw [e] at hz0
             exact ih (i + 1) _ _ _ (by omega) ho hz hv0 hv1 hz0.symm)

set_option maxRecDepth 100000 in
set_option maxHeartbeats 4000000 in
theorem w_drK {g : zG} {d : Nat} {F : zF} {μ0 : zMem} {seed w cnt fl : Int32} {ys m D y : Nat} {z0 : Int32} {Q : Option Value → zMem → Prop} (hDm : D + m ≤ 999) (hfl : μ0.1 2 9 = fl) (hQ : ∀ (z : Int32) (sc : Nat → Int32) (μ : zMem) (x10 x11 : Option Value), oX F μ → zq sX μ0 μ → (∀ v, v < fV F → μ.1 72 v = sc v) → rngS (fV F) (D + m) sc → (z, sc) = drY (fV F) fl (nI D) m z0 → zW g C_drawYears d 128 [some (.ref 6), some (.int seed), some (.int (nI ys)), some (.int (nI m)), some (.int (nI D)), some (.int w), some (.int z), some (.int (nI (D + m) - 1)), some (.int cnt), some (.int (nI y)), x10, x11] [] μ Q) : ∀ (j i : Nat) (z : Int32) (sc : Nat → Int32) (x11 : Option Value) (μ : zMem), i + j = m → oX F μ → zq sX μ0 μ → ((∀ v, v < fV F → μ.1 72 v = sc v)) → (rngS (fV F) (D + m) sc) → ((z, sc) = zfold (drK (fV F) fl (nI D)) 0 i (z0, fun _ => 999)) → zW g C_drawYears d 37 [some (.ref 6), some (.int seed), some (.int (nI ys)), some (.int (nI m)), some (.int (nI D)), some (.int w), some (.int z), some (.int (nI (D + m) - 1)), some (.int cnt), some (.int (nI y)), some (.int (nI (D + i))), x11] [] μ (Q) := by
  intro j
  induction j with
  | zero =>
    intro i z sc x11 μ hi ho hz hv0 hv1 hv2
    have hbd := ho.v
    have h12 := ho.v12
    have h6 := ho.b6
    have hi : m = i := by omega
    subst hi
    refine zb C_drawYears_s37 rfl ?_
    refine z_cgt C_drawYears_d41 (tgt := 128) rfl (fun h41 => ?_) (fun h41 => absurd ((lst_gt (by omega) (by omega)).mpr (Nat.le_refl _)) h41)
    exact hQ z sc μ _ _ ho hz hv0 hv1 hv2
  | succ j ih =>
    intro i z sc x11 μ hi ho hz hv0 hv1 hv2
    have hbd := ho.v
    have h12 := ho.v12
    have h6 := ho.b6
    have hilt : i < m := by omega
    have ei : (nI i).toNatClampNeg = i := nI_clamp (by omega)
    have hz0 : zfold (drK (fV F) fl (nI D)) 0 (i + 1) (z0, fun _ => 999) = zfold (drV fl (nI (D + i))) 0 (fV F) (z, sc) := by
      rw [zf0, ← hv2]
      unfold drK
      rw [nI_add]
    refine zb C_drawYears_s37 rfl ?_
    refine z_cgt C_drawYears_d41 (tgt := 128) rfl (fun h41 => absurd ((lst_gt (by omega) (by omega)).mp h41) (by omega)) (fun h41 => ?_)
    refine zb C_drawYears_s44 rfl ?_
    refine w_drV (k := i) (t0 := (z, sc)) hilt hDm hfl (fun z2 sc2 μ2 ho2 hz2 hs2 hr2 he2 => ?_) (fV F) 0 z sc μ (by omega) ho hz hv0 hv1 rfl
    refine zb C_drawYears_s122 rfl ?_
    rw [nI_1]
    exact ih (i + 1) _ _ _ _ (by omega) ho2 hz2 hs2 hr2 (he2.trans hz0.symm)

set_option maxRecDepth 100000 in
set_option maxHeartbeats 4000000 in
theorem w_drY {g : zG} {d : Nat} {F : zF} {μ0 : zMem} {seed w fl : Int32} {ys m D : Nat} (hF : okF F) (hDm : D + m ≤ 999) (hys : ys < 2 ^ 31) (hfl : μ0.1 2 9 = fl) (hd : 6 ≤ d) : ∀ (j i : Nat) (z : Int32) (cnt : Int32) (x10 : Option Value) (x11 : Option Value) (μ : zMem), i + j = ys → oX F μ → zq sX μ0 μ → (z = (zfold (drS F fl (nI D) m) 0 i (seed, 0, 0)).1) → (cnt = if w = 0 then (zfold (drS F fl (nI D) m) 0 i (seed, 0, 0)).2.1 else (zfold (drS F fl (nI D) m) 0 i (seed, 0, 0)).2.2) → zW g C_drawYears d 17 [some (.ref 6), some (.int seed), some (.int (nI ys)), some (.int (nI m)), some (.int (nI D)), some (.int w), some (.int z), some (.int (nI (D + m) - 1)), some (.int cnt), some (.int (nI i)), x10, x11] [] μ (fun r μ' => r = some (.int (if w = 0 then (drawS F fl seed (nI D) ys m).2.1 else (drawS F fl seed (nI D) ys m).2.2)) ∧ zq sX μ0 μ') := by
  intro j
  induction j with
  | zero =>
    intro i z cnt x10 x11 μ hi ho hz hv0 hv1
    have hbd := ho.v
    have h12 := ho.v12
    have h6 := ho.b6
    have hi : ys = i := by omega
    subst hi
    refine zb C_drawYears_s17 rfl ?_
    refine z_cge C_drawYears_d20 (tgt := 157) rfl (fun h20 => ?_) (fun h20 => absurd (Int32.le_refl _) h20)
    refine zb C_drawYears_s157 rfl ?_
    refine z_ret C_drawYears_d159 rfl ?_
    exact ⟨by rw [hv1]; rfl, hz⟩
  | succ j ih =>
    intro i z cnt x10 x11 μ hi ho hz hv0 hv1
    have hbd := ho.v
    have h12 := ho.v12
    have h6 := ho.b6
    have hilt : i < ys := by omega
    have ei : (nI i).toNatClampNeg = i := nI_clamp (by omega)
    have hz0 : zfold (drS F fl (nI D) m) 0 (i + 1) (seed, 0, 0) = drS F fl (nI D) m i (zfold (drS F fl (nI D) m) 0 i (seed, 0, 0)) := by rw [zf0]
    refine zb C_drawYears_s17 rfl ?_
    refine z_cge C_drawYears_d20 (tgt := 157) rfl (fun h20 => absurd h20 (nI_ge hilt (by omega))) (fun h20 => ?_)
    refine zb C_drawYears_s23 rfl ?_
    refine zcallS C_drawYears_d30 k1_34 (by omega) (x_fillN_72 999) rfl rfl (Nat.le_of_ble_eq_true rfl) ?_
    rintro _ μ1 ⟨rfl, hz1, hf1⟩
    have hzx := hz1.mono (s1_sX (fun _ => rfl))
    refine zb C_drawYears_s33 rfl ?_
    refine w_drK (F := F) (z0 := z) (μ0 := μ0) hDm hfl (fun z2 sc2 μ2 y10 y11 ho2 hz2 hs2 hr2 he2 => ?_) m 0 z (fun _ => 999) _ μ1 (by omega) (ho.q hzx) (hz.tr hzx) (fun v hv => hf1 v (by omega)) (fun v hv => Or.inl rfl) rfl
    have hd1 : (drY (fV F) fl (nI D) m (zfold (drS F fl (nI D) m) 0 i (seed, 0, 0)).1) = (z2, sc2) := by rw [← hv0]; exact he2.symm
    have hdS : zfold (drS F fl (nI D) m) 0 (i + 1) (seed, 0, 0) = (z2, (zfold (drS F fl (nI D) m) 0 i (seed, 0, 0)).2.1 + drO F (nI (D + m) - 1) sc2, (zfold (drS F fl (nI D) m) 0 i (seed, 0, 0)).2.2 + drG F sc2) := by
      rw [hz0]
      generalize zfold (drS F fl (nI D) m) 0 i (seed, 0, 0) = T at hd1 ⊢
      unfold drS
      rw [hd1, nI_add]
    refine zb C_drawYears_s128 rfl ?_
    refine z_ne C_drawYears_d132 (tgt := 144) rfl (fun h132 => ?_) (fun h132 => ?_)
    · refine zb C_drawYears_s144 rfl ?_
      refine zcallV C_drawYears_d145 k1_108 (by omega) (x_drBr hs2 (by omega) ho2) rfl rfl rfl (Nat.le_of_ble_eq_true rfl) ?_
      rintro _ μx ⟨rfl, hx⟩
      rw [hx]
      clear hx μx
      refine zb C_drawYears_s148 rfl ?_
      rw [nI_1]
      first
        | exact ih (i + 1) _ _ _ _ _ (by omega) (ho2.q hzx3) (hz2.tr hzx3) (by rw [hdS]) (by rw [hdS, if_pos h132, hv1, if_pos h132])
        | exact ih (i + 1) _ _ _ _ _ (by omega) ho2 hz2 (by rw [hdS]) (by rw [hdS, if_neg h132, hv1, if_neg h132])
    · refine zb C_drawYears_s135 rfl ?_
      refine zcallV C_drawYears_d138 k1_105 (by omega) (x_drOff hDm hr2 hs2 hF (by omega) ho2) rfl rfl rfl (Nat.le_of_ble_eq_true rfl) ?_
      rintro _ μ3 ⟨rfl, hz3⟩
      have hzx3 := hz3.mono (n1_sX (fun _ => rfl))
      refine zb C_drawYears_s141 rfl ?_
      rw [nI_1]
      first
        | exact ih (i + 1) _ _ _ _ _ (by omega) (ho2.q hzx3) (hz2.tr hzx3) (by rw [hdS]) (by rw [hdS, if_pos h132, hv1, if_pos h132])
        | exact ih (i + 1) _ _ _ _ _ (by omega) ho2 hz2 (by rw [hdS]) (by rw [hdS, if_neg h132, hv1, if_neg h132])

set_option maxRecDepth 100000 in
set_option maxHeartbeats 4000000 in
theorem x_drYears {g : zG} {d : Nat} {F : zF} {μ : zMem} {seed w fl : Int32} {ys m D : Nat} (hF : okF F) (hDm : D + m ≤ 999) (hys : ys < 2 ^ 31) (hfl : μ.1 2 9 = fl) (hd : 6 ≤ d) (ho : oX F μ) : zM g d C_drawYears [.ref 6, .int seed, .int (nI ys), .int (nI m), .int (nI D), .int w] μ (fun r μ' => r = some (.int (if w = 0 then (drawS F fl seed (nI D) ys m).2.1 else (drawS F fl seed (nI D) ys m).2.2)) ∧ zq sX μ μ') := by
  refine zM_of (by decide +kernel) rfl rfl (Nat.le_of_ble_eq_true rfl) rfl ?_
  refine zb C_drawYears_s0 rfl ?_
  rw [nI_add]
  exact w_drY hF hDm hys hfl hd ys 0 seed 0 _ _ μ (by omega) ho zq.rf rfl (by split <;> rfl)

set_option maxRecDepth 100000 in
set_option maxHeartbeats 4000000 in
theorem x_drawn {g : zG} {d : Nat} {F : zF} {μ : zMem} {seed nm day w fl : Int32} (hF : okF F) (hfl : μ.1 2 9 = fl) (hd9 : 7 ≤ d) (ho : oX F μ) : zM g d X_drawn [.ref 1, .int seed, .int nm, .int day, .int w] μ (fun r μ' => r = some (.int (sDrawn F fl seed nm day w)) ∧ zq sX μ μ') := by
  refine zM_of (by decide +kernel) rfl rfl (Nat.le_of_ble_eq_true rfl) rfl ?_
  have hz : zq sX μ μ := zq.rf
  have h12 := ho.v12
  have h6 := ho.b6
  refine zb X_drawn_s0 rfl ?_
  refine z_lt X_drawn_d1 (tgt := 23) rfl (fun h1 => ?_) (fun h1 => ?_)
  · refine zb X_drawn_s23 rfl ?_
    refine z_ret X_drawn_d24 rfl ?_
    refine ⟨congrArg (fun z => some (Value.int z)) ?_, hz⟩
    unfold sDrawn
    first
      | (rw [if_pos hok]
         unfold zrem
         rw [e2, e1, nI_clamp (show N / 100 < 2 ^ 31 by omega), nI_clamp (show N % 100 < 2 ^ 31 by omega)])
      | (refine (if_neg (fun z => ?_)).symm
         first
           | exact z.1.1 h1
           | exact (show ¬ (0 ≤ day ∧ day ≤ 998) from zB_eq0.mp h11) z.2.2.1
           | exact (show ¬ (0 ≤ w ∧ w ≤ 1) from zB_eq0.mp h20) z.2.2.2.2
           | exact absurd h40 (Int32.not_lt.mpr z.1.2.1)
           | exact absurd h47 (Int32.not_lt.mpr z.1.2.2)
           | exact absurd h53 (Int32.not_lt.mpr z.2.1)
           | exact h65 z.2.2.2.1)
  · refine zb X_drawn_s4 rfl ?_
    refine zcallS X_drawn_d8 k10_170 (by omega) (x_isWithin _ _) rfl rfl (Nat.le_of_ble_eq_true rfl) ?_
    rintro _ μx ⟨rfl, hx⟩
    rw [hx]
    clear hx μx
    refine z_eq X_drawn_d11 (tgt := 23) rfl (fun h11 => ?_) (fun h11 => ?_)
    · refine zb X_drawn_s23 rfl ?_
      refine z_ret X_drawn_d24 rfl ?_
      refine ⟨congrArg (fun z => some (Value.int z)) ?_, hz⟩
      unfold sDrawn
      first
        | (rw [if_pos hok]
           unfold zrem
           rw [e2, e1, nI_clamp (show N / 100 < 2 ^ 31 by omega), nI_clamp (show N % 100 < 2 ^ 31 by omega)])
        | (refine (if_neg (fun z => ?_)).symm
           first
             | exact z.1.1 h1
             | exact (show ¬ (0 ≤ day ∧ day ≤ 998) from zB_eq0.mp h11) z.2.2.1
             | exact (show ¬ (0 ≤ w ∧ w ≤ 1) from zB_eq0.mp h20) z.2.2.2.2
             | exact absurd h40 (Int32.not_lt.mpr z.1.2.1)
             | exact absurd h47 (Int32.not_lt.mpr z.1.2.2)
             | exact absurd h53 (Int32.not_lt.mpr z.2.1)
             | exact h65 z.2.2.2.1)
    · refine zb X_drawn_s14 rfl ?_
      refine zcallS X_drawn_d17 k10_170 (by omega) (x_isWithin _ _) rfl rfl (Nat.le_of_ble_eq_true rfl) ?_
      rintro _ μx ⟨rfl, hx⟩
      rw [hx]
      clear hx μx
      refine z_ne X_drawn_d20 (tgt := 25) rfl (fun h20 => ?_) (fun h20 => ?_)
      · refine zb2 X_drawn_s25 rfl (by decide) (by decide) ?_
        refine z_clt X_drawn_d40 (tgt := 68) rfl (fun h40 => ?_) (fun h40 => ?_)
        · refine zb X_drawn_s68 rfl ?_
          refine z_ret X_drawn_d69 rfl ?_
          refine ⟨congrArg (fun z => some (Value.int z)) ?_, hz⟩
          unfold sDrawn
          first
            | (rw [if_pos hok]
               unfold zrem
               rw [e2, e1, nI_clamp (show N / 100 < 2 ^ 31 by omega), nI_clamp (show N % 100 < 2 ^ 31 by omega)])
            | (refine (if_neg (fun z => ?_)).symm
               first
                 | exact z.1.1 h1
                 | exact (show ¬ (0 ≤ day ∧ day ≤ 998) from zB_eq0.mp h11) z.2.2.1
                 | exact (show ¬ (0 ≤ w ∧ w ≤ 1) from zB_eq0.mp h20) z.2.2.2.2
                 | exact absurd h40 (Int32.not_lt.mpr z.1.2.1)
                 | exact absurd h47 (Int32.not_lt.mpr z.1.2.2)
                 | exact absurd h53 (Int32.not_lt.mpr z.2.1)
                 | exact h65 z.2.2.2.1)
        · refine zb X_drawn_s43 rfl ?_
          refine z_cgt X_drawn_d47 (tgt := 68) rfl (fun h47 => ?_) (fun h47 => ?_)
          · refine zb X_drawn_s68 rfl ?_
            refine z_ret X_drawn_d69 rfl ?_
            refine ⟨congrArg (fun z => some (Value.int z)) ?_, hz⟩
            unfold sDrawn
            first
              | (rw [if_pos hok]
                 unfold zrem
                 rw [e2, e1, nI_clamp (show N / 100 < 2 ^ 31 by omega), nI_clamp (show N % 100 < 2 ^ 31 by omega)])
              | (refine (if_neg (fun z => ?_)).symm
                 first
                   | exact z.1.1 h1
                   | exact (show ¬ (0 ≤ day ∧ day ≤ 998) from zB_eq0.mp h11) z.2.2.1
                   | exact (show ¬ (0 ≤ w ∧ w ≤ 1) from zB_eq0.mp h20) z.2.2.2.2
                   | exact absurd h40 (Int32.not_lt.mpr z.1.2.1)
                   | exact absurd h47 (Int32.not_lt.mpr z.1.2.2)
                   | exact absurd h53 (Int32.not_lt.mpr z.2.1)
                   | exact h65 z.2.2.2.1)
          · refine zb X_drawn_s50 rfl ?_
            refine z_clt X_drawn_d53 (tgt := 68) rfl (fun h53 => ?_) (fun h53 => ?_)
            · refine zb X_drawn_s68 rfl ?_
              refine z_ret X_drawn_d69 rfl ?_
              refine ⟨congrArg (fun z => some (Value.int z)) ?_, hz⟩
              unfold sDrawn
              first
                | (rw [if_pos hok]
                   unfold zrem
                   rw [e2, e1, nI_clamp (show N / 100 < 2 ^ 31 by omega), nI_clamp (show N % 100 < 2 ^ 31 by omega)])
                | (refine (if_neg (fun z => ?_)).symm
                   first
                     | exact z.1.1 h1
                     | exact (show ¬ (0 ≤ day ∧ day ≤ 998) from zB_eq0.mp h11) z.2.2.1
                     | exact (show ¬ (0 ≤ w ∧ w ≤ 1) from zB_eq0.mp h20) z.2.2.2.2
                     | exact absurd h40 (Int32.not_lt.mpr z.1.2.1)
                     | exact absurd h47 (Int32.not_lt.mpr z.1.2.2)
                     | exact absurd h53 (Int32.not_lt.mpr z.2.1)
                     | exact h65 z.2.2.2.1)
            · refine zb X_drawn_s56 rfl ?_
              refine z_cle X_drawn_d65 (tgt := 70) rfl (fun h65 => ?_) (fun h65 => ?_)
              · have q1 : ¬ nm < 0 := h1
                have q2 : 0 ≤ day ∧ day ≤ 998 := zB_ne0.mp h11
                have q3 : 0 ≤ w ∧ w ≤ 1 := zB_ne0.mp h20
                have hok : drOK nm day w := ⟨⟨q1, Int32.not_lt.mp h40, Int32.not_lt.mp h47⟩, Int32.not_lt.mp h53, q2, h65, q3⟩
                obtain ⟨N, hN, rfl⟩ := nI_of q1
                obtain ⟨D, hD, rfl⟩ := nI_of2 (M := 998) (n := 998) rfl (Int32.not_lt.mpr q2.1) q2.2
                have e1 : nI N / 100 = nI (N / 100) := pk_div (d := 100) hN (by decide) (by decide)
                have e2 : nI N - nI N / 100 * 100 = nI (N % 100) := pk_rem (d := 100) hN (by decide) (by decide)
                have hDm : D + N % 100 ≤ 999 := by
                  have h65b := h65
                  rw [e2, nI_add] at h65b
                  exact (lst_le (by omega)).mp h65b
                refine zb X_drawn_s70 rfl ?_
                rw [e2, e1]
                refine zcallV X_drawn_d82 k10_276 (by omega) (x_drYears hF hDm (by omega) hfl (by omega) ho) rfl rfl rfl (Nat.le_of_ble_eq_true rfl) ?_
                rintro _ μ1 ⟨rfl, hz1⟩
                replace hz := hz.tr hz1
                replace ho := ho.q hz1
                clear hz1
                refine z_ret X_drawn_d85 rfl ?_
                refine ⟨congrArg (fun z => some (Value.int z)) ?_, hz⟩
                unfold sDrawn
                first
                  | (rw [if_pos hok]
                     unfold zrem
                     rw [e2, e1, nI_clamp (show N / 100 < 2 ^ 31 by omega), nI_clamp (show N % 100 < 2 ^ 31 by omega)])
                  | (refine (if_neg (fun z => ?_)).symm
                     first
                       | exact z.1.1 h1
                       | exact (show ¬ (0 ≤ day ∧ day ≤ 998) from zB_eq0.mp h11) z.2.2.1
                       | exact (show ¬ (0 ≤ w ∧ w ≤ 1) from zB_eq0.mp h20) z.2.2.2.2
                       | exact absurd h40 (Int32.not_lt.mpr z.1.2.1)
                       | exact absurd h47 (Int32.not_lt.mpr z.1.2.2)
                       | exact absurd h53 (Int32.not_lt.mpr z.2.1)
                       | exact h65 z.2.2.2.1)
              · refine zb X_drawn_s68 rfl ?_
                refine z_ret X_drawn_d69 rfl ?_
                refine ⟨congrArg (fun z => some (Value.int z)) ?_, hz⟩
                unfold sDrawn
                first
                  | (rw [if_pos hok]
                     unfold zrem
                     rw [e2, e1, nI_clamp (show N / 100 < 2 ^ 31 by omega), nI_clamp (show N % 100 < 2 ^ 31 by omega)])
                  | (refine (if_neg (fun z => ?_)).symm
                     first
                       | exact z.1.1 h1
                       | exact (show ¬ (0 ≤ day ∧ day ≤ 998) from zB_eq0.mp h11) z.2.2.1
                       | exact (show ¬ (0 ≤ w ∧ w ≤ 1) from zB_eq0.mp h20) z.2.2.2.2
                       | exact absurd h40 (Int32.not_lt.mpr z.1.2.1)
                       | exact absurd h47 (Int32.not_lt.mpr z.1.2.2)
                       | exact absurd h53 (Int32.not_lt.mpr z.2.1)
                       | exact h65 z.2.2.2.1)
      · refine zb X_drawn_s23 rfl ?_
        refine z_ret X_drawn_d24 rfl ?_
        refine ⟨congrArg (fun z => some (Value.int z)) ?_, hz⟩
        unfold sDrawn
        first
          | (rw [if_pos hok]
             unfold zrem
             rw [e2, e1, nI_clamp (show N / 100 < 2 ^ 31 by omega), nI_clamp (show N % 100 < 2 ^ 31 by omega)])
          | (refine (if_neg (fun z => ?_)).symm
             first
               | exact z.1.1 h1
               | exact (show ¬ (0 ≤ day ∧ day ≤ 998) from zB_eq0.mp h11) z.2.2.1
               | exact (show ¬ (0 ≤ w ∧ w ≤ 1) from zB_eq0.mp h20) z.2.2.2.2
               | exact absurd h40 (Int32.not_lt.mpr z.1.2.1)
               | exact absurd h47 (Int32.not_lt.mpr z.1.2.2)
               | exact absurd h53 (Int32.not_lt.mpr z.2.1)
               | exact h65 z.2.2.2.1)
