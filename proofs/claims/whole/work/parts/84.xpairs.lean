/-! the class: vows exchanged -/
theorem zq.putA {m : Nat → Nat → Bool} {a b : zMem} {c : Nat} {r : Nat → Int32} (h : zq m a b) (hm : ∀ k, m c k = true) : zq m a (zpA b c r) := by
  refine ⟨fun x j hx => ?_, h.2⟩
  rw [← h.1 x j hx]
  have : ¬ x = c := fun e => by rw [e, hm j] at hx; cases hx
  simp [zpA, zuA, this]
theorem okF_fsb {F : zF} (hF : okF F) {v : Nat} {y : Int32} (hy : ∃ b, b < fB F ∧ y = nI b) : okF (fsb F v y) := by
  refine ⟨hF.1, fun u hu => ⟨?_, (hF.2.1 u hu).2⟩, hF.2.2⟩
  show ∃ b, b < fB F ∧ fu (fbell F) v y u = nI b
  unfold fu
  by_cases q : u = v
  · rw [if_pos q]; exact hy
  · rw [if_neg q]; exact (hF.2.1 u hu).1
theorem zsum_upd {f g : Nat → Int32} {v : Nat} {n : Nat} (hv : v < n) (ho : ∀ u, u < n → ¬ u = v → f u = g u) : zsum f n = zsum g n - g v + f v := by
  have h := zsum_off n hv ho
  grind
theorem offs_fsb {F : zF} {v : Nat} {y b day h : Int32} (hv : v < fV F) : offs (fsb F v y) b day h = offs F b day h - (if fbell F v = b then pu F v b day h else 0) + if y = b then pu F v b day h else 0 := by
  have k := zsum_upd (f := offT (fsb F v y) b day h) (g := offT F b day h) (v := v) (n := fV F) hv (fun u _ hne => by
    unfold offT
    have e : fbell (fsb F v y) u = fbell F u := if_neg hne
    rw [e]
    rfl)
  have e1 : offT (fsb F v y) b day h v = if y = b then pu F v b day h else 0 := by
    unfold offT
    have e : fbell (fsb F v y) v = y := if_pos rfl
    rw [e]
    rfl
  rw [e1] at k
  exact k
theorem many_fsb {F : zF} (hF : okF F) (h6 : fB F ≤ 6) {day h : Int32} {r : Nat → Int32} (hr : ∀ b, b < 6 → r b = offs F (nI b) day h) : zsum (fun b => zB (¬ r b = 0)) 6 = manyOff F day h :=
  many_o (F := F) h6 hr (fun b h1 h2 => zsum_0 _ (fun v hv => if_neg (bell_o hF h6 hv h1 h2)))

set_option maxRecDepth 100000 in
set_option maxHeartbeats 4000000 in
theorem x_move {g : zG} {d : Nat} {F : zF} {μ : zMem} {v y : Nat} {day h : Int32} (hF : okF F) (hd : 5 ≤ d) (hv : v < fV F) (hy : y < 6) (ho : oX F μ) : zM g d C_move [.ref 6, .int (nI v), .int (nI y), .int day, .int h] μ (fun r μ' => r = none ∧ zq (n1 70) μ μ' ∧ ∀ b, b < 6 → μ'.1 70 b = μ.1 70 b - (if fbell F v = nI b then pu F v (nI b) day h else 0) + if nI y = nI b then pu F v (nI b) day h else 0) := by
  refine zM_of (by decide +kernel) rfl rfl (Nat.le_of_ble_eq_true rfl) rfl ?_
  have hz : zq (n1 70) μ μ := zq.rf
  have h12 := ho.v12
  have h6 := ho.b6
  have e56 := ho.e56
  have hvi : vp_in (nI v) 12 := vp_in_nI (by omega) (by omega)
  have ev : (nI v).toNatClampNeg = v := nI_clamp (by omega)
  obtain ⟨b0, hb0, eb0⟩ := (hF.2.1 v hv).1
  have hvb2 : vp_in (nI b0) 6 := vp_in_nI (by omega) (by omega)
  have ec : (nI b0).toNatClampNeg = b0 := nI_clamp (by omega)
  have hvy : vp_in (nI y) 6 := vp_in_nI hy (by omega)
  have ecy : (nI y).toNatClampNeg = y := nI_clamp (by omega)
  refine zb C_move_s0 rfl ?_
  refine zcallV C_move_d6 k1_52 (by omega) (x_daysBroken _ (by omega) (by omega) ho) rfl rfl rfl (Nat.le_of_ble_eq_true rfl) ?_
  rintro _ μx ⟨rfl, hx⟩
  rw [hx]
  clear hx μx
  refine zb2 C_move_s9 rfl (by first | exact hvi | exact hvb2 | exact hvy | (rw [e56, ev, eb0]; exact hvb2)) (by first | exact hvi | exact hvb2 | exact hvy | (rw [e56, ev, eb0]; exact hvb2)) ?_
  rw [e56, ev, eb0, ec]
  refine zcallV C_move_d41 k1_60 (by omega) (x_offIf (by omega) (by omega) ho) rfl rfl rfl (Nat.le_of_ble_eq_true rfl) ?_
  rintro _ μ1 ⟨rfl, hz1⟩
  have hk1 : ∀ b, μ1.1 70 b = μ.1 70 b := fun b => hz1.1 70 b rfl
  replace hz := hz.tr (hz1.mono nS_n1)
  replace ho := ho.q (hz1.mono nS_sX)
  refine zb2 C_move_s44 rfl (by first | exact hvi | exact hvb2 | exact hvy | (rw [e56, ev, eb0]; exact hvb2)) (by first | exact hvi | exact hvb2 | exact hvy | (rw [e56, ev, eb0]; exact hvb2)) ?_
  rw [ofI_pu hF hv, ec, ecy]
  refine zcallV C_move_d63 k1_60 (by omega) (x_offIf (by omega) (by omega) (ho.q ((zq.w (m := sX) rfl)))) rfl rfl rfl (Nat.le_of_ble_eq_true rfl) ?_
  rintro _ μ2 ⟨rfl, hz2⟩
  have hk2 : ∀ b, μ2.1 70 b = (zpI μ1 70 b0 (μ.1 70 b0 - pu F v (nI b0) day h)).1 70 b := fun b => hz2.1 70 b rfl
  refine zb1 C_move_s66 rfl (by first | exact hvi | exact hvb2 | exact hvy | (rw [e56, ev, eb0]; exact hvb2)) ?_
  refine z_retV C_move_d68 rfl ?_
  (try rw [ecy])
  rw [ofI_pu hF hv]
  refine ⟨rfl, ((hz.tr (zq.w rfl)).tr (hz2.mono nS_n1)).tr (zq.w rfl), fun b hb => ?_⟩
  rw [zpI_at, zpI_at, hk2 b, zpI_at]
  simp only [hk1]
  have en : ∀ a c : Nat, a < 6 → c < 6 → (nI a = nI c ↔ a = c) := fun a c ha hc => nI_eq (by omega) (by omega)
  (try rw [eb0])
  by_cases q1 : b = b0
  · rw [if_pos ((en b0 b (by omega) hb).mpr q1.symm), q1]
    by_cases q2 : y = b0
    · rw [if_pos q2.symm, if_pos ((en y b0 hy (by omega)).mpr q2), if_pos q2, q2]
    · rw [if_neg (fun z => q2 z.symm), if_neg (fun z => q2 ((en y b0 hy (by omega)).mp z)), if_pos rfl, Int32.add_zero]
  · rw [if_neg (fun z => q1 ((en b0 b (by omega) hb).mp z).symm), if_neg q1, Int32.sub_zero]
    by_cases q2 : b = y
    · rw [if_pos q2, if_pos ((en y b hy hb).mpr q2.symm), q2, if_neg (fun z => q1 (q2.trans z))]
    · rw [if_neg q2, if_neg (fun z => q2 ((en y b hy hb).mp z).symm), Int32.add_zero]

set_option maxRecDepth 100000 in
set_option maxHeartbeats 4000000 in
theorem w_pairs_in {g : zG} {d : Nat} {F : zF} {μ0 : zMem} {day h : Int32} {a : Nat} {t0 : Int32 × Int32} {Q : Option Value → zMem → Prop} (hF : okF F) (hd : 6 ≤ d) (ha : a < fV F) (hQ : ∀ (best few : Int32) (μ : zMem) (x6 x7 : Option Value), oX F μ → zq sX μ0 μ → (∀ b, b < 6 → μ.1 69 b = offW F day h 0 b) → (best, few) = prA F day h a t0 → zW g C_bestExchange d 170 [some (.ref 6), some (.int day), some (.int h), some (.int few), some (.int best), some (.int (nI a)), x6, x7] [] μ Q) : ∀ (j i : Nat) (best : Int32) (few : Int32) (x7 : Option Value) (μ : zMem), i + j = fV F → oX F μ → zq sX μ0 μ → ((∀ b, b < 6 → μ.1 69 b = offW F day h 0 b)) → (a < i) → ((best, few) = zfold (prStep F day h a) (a + 1) (i - (a + 1)) t0) → zW g C_bestExchange d 47 [some (.ref 6), some (.int day), some (.int h), some (.int few), some (.int best), some (.int (nI a)), some (.int (nI i)), x7] [] μ (Q) := by
  intro j
  induction j with
  | zero =>
    intro i best few x7 μ hi ho hz hv0 hv1 hv2
    have hbd := ho.v
    have h12 := ho.v12
    have h6 := ho.b6
    have hi : fV F = i := by omega
    subst hi
    refine zb C_bestExchange_s47 rfl ?_
    refine z_cge C_bestExchange_d56 (tgt := 170) rfl (fun h56 => ?_) (fun h56 => absurd (show μ.1 2 8 ≤ nI (fV F) by first | exact Int32.le_refl _ | (rw [hbd]; exact Int32.le_refl _)) h56)
    exact hQ best few μ _ _ ho hz hv0 hv2
  | succ j ih =>
    intro i best few x7 μ hi ho hz hv0 hv1 hv2
    have hbd := ho.v
    have h12 := ho.v12
    have h6 := ho.b6
    have hilt : i < fV F := by omega
    have ei : (nI i).toNatClampNeg = i := nI_clamp (by omega)
    have hvi : vp_in (nI i) 12 := vp_in_nI (by omega) (by omega)
    have hva : vp_in (nI a) 12 := vp_in_nI (by omega) (by omega)
    have ea : (nI a).toNatClampNeg = a := nI_clamp (by omega)
    have e56 := ho.e56
    obtain ⟨ba, hba, eba⟩ := (hF.2.1 a ha).1
    obtain ⟨bi, hbi, ebi⟩ := (hF.2.1 i hilt).1
    have hst : zfold (prStep F day h a) (a + 1) (i + 1 - (a + 1)) t0 = prStep F day h a i (best, few) := by
      rw [show i + 1 - (a + 1) = (i - (a + 1)) + 1 by omega, zfold_s, ← hv2, show a + 1 + (i - (a + 1)) = i by omega]
    have hF1 : okF (fsb F a (fbell F i)) := okF_fsb hF ⟨bi, hbi, ebi⟩
    have hF2 : okF (fsb (fsb F a (fbell F i)) i (fbell F a)) := okF_fsb hF1 ⟨ba, hba, eba⟩
    have hmove : ∀ r : Nat → Int32, (∀ b, b < 6 → r b = (offs F (nI b) day h - (if fbell F a = nI b then pu F a (nI b) day h else 0) + if nI bi = nI b then pu F a (nI b) day h else 0) - (if fbell F i = nI b then pu F i (nI b) day h else 0) + if nI ba = nI b then pu F i (nI b) day h else 0) → zsum (fun b => zB (¬ r b = 0)) 6 = manyOff (fsb (fsb F a (fbell F i)) i (fbell F a)) day h := fun r hr => many_fsb (F := (fsb (fsb F a (fbell F i)) i (fbell F a))) hF2 h6 (fun b hb => by
      rw [hr b hb, offs_fsb (F := fsb F a (fbell F i)) (v := i) hilt, offs_fsb (F := F) (v := a) ha, show fbell (fsb F a (fbell F i)) i = fbell F i from if_neg (show ¬ i = a by omega), ebi, eba]
      rfl)
    refine zb C_bestExchange_s47 rfl ?_
    refine z_cge C_bestExchange_d56 (tgt := 170) rfl (fun h56 => absurd h56 (show ¬ μ.1 2 8 ≤ nI i by first | exact nI_ge hilt (by omega) | (rw [hbd]; exact nI_ge hilt (by omega)))) (fun h56 => ?_)
    refine zb2 C_bestExchange_s59 rfl (by first | exact hvi | exact hva) (by first | exact hvi | exact hva) ?_
    refine z_cne C_bestExchange_d79 (tgt := 85) rfl (fun h79 => ?_) (fun h79 => ?_)
    · refine zb C_bestExchange_s85 rfl ?_
      refine zcpI C_bestExchange_d97 k1_88 (by omega) (Nat.le_of_ble_eq_true rfl) rfl rfl (by decide) (by decide) (by decide) (by decide) (by decide) ?_
      refine zb1 C_bestExchange_s100 rfl (by first | exact hvi | exact hva) ?_
      rw [show (zpA μ 70 (va_cpy (μ.1 69) (μ.1 70) (0 : Int32).toNatClampNeg (0 : Int32).toNatClampNeg (6 : Int32).toNatClampNeg)).1 56 = fbell F from e56, ei, ebi]
      refine zcallV C_bestExchange_d115 k1_97 (by omega) (x_move hF (by omega) ha (show bi < 6 by omega) (ho.q ((zq.rf (m := sX)).putA (fun _ => rfl)))) rfl rfl rfl (Nat.le_of_ble_eq_true rfl) ?_
      rintro _ μ1 ⟨rfl, hz1, hr1⟩
      have hc1 : zq sX μ μ1 := ((zq.rf (m := sX)).putA (fun _ => rfl)).tr (hz1.mono (n1_sX (fun _ => rfl)))
      refine zb1 C_bestExchange_s118 rfl (by first | exact hvi | exact hva) ?_
      rw [show μ1.1 56 = fbell F by rw [← e56]; exact funext (fun k => (hz1.1 56 k rfl)), ea, eba]
      refine zcallV C_bestExchange_d133 k1_97 (by omega) (x_move hF (by omega) hilt (show ba < 6 by omega) (ho.q hc1)) rfl rfl rfl (Nat.le_of_ble_eq_true rfl) ?_
      rintro _ μ2 ⟨rfl, hz2, hr2⟩
      have hc2 : zq sX μ μ2 := hc1.tr (hz2.mono (n1_sX (fun _ => rfl)))
      refine zb C_bestExchange_s136 rfl ?_
      refine zcallS C_bestExchange_d140 k1_46 (by omega) (x_countOff_70 (by omega)) rfl rfl (Nat.le_of_ble_eq_true rfl) ?_
      rintro _ μx ⟨rfl, hx⟩
      rw [hx]
      clear hx μx
      refine zb C_bestExchange_s143 rfl ?_
      refine z_cge C_bestExchange_d148 (tgt := 164) rfl (fun h148 => ?_) (fun h148 => ?_)
      · refine zb C_bestExchange_s164 rfl ?_
        rw [nI_1]
        first
          | (rw [e56, ea, ei] at h79
             have e : prStep F day h a i (best, few) = (best, few) := if_pos h79
             rw [e] at hst
             exact ih (i + 1) _ _ _ _ (by omega) ho hz hv0 (by omega) hst.symm)
          | (rw [e56, ea, ei] at h79
             have hm := hmove (μ2.1 70) (fun b hb => by
               rw [hr2 b hb, hr1 b hb]
               rw [show (zpA μ 70 (va_cpy (μ.1 69) (μ.1 70) (0 : Int32).toNatClampNeg (0 : Int32).toNatClampNeg (6 : Int32).toNatClampNeg)).1 70 b = μ.1 69 b by
                 show (if 70 = 70 then va_cpy (μ.1 69) (μ.1 70) (0 : Int32).toNatClampNeg (0 : Int32).toNatClampNeg (6 : Int32).toNatClampNeg else μ.1 70) b = _
                 rw [if_pos rfl]
                 exact (pk_cpy_in (Nat.zero_le _) (by show b < 0 + 6; omega)).trans (congrArg (μ.1 69) (by show 0 + (b - 0) = b; omega)), hv0 b hb, offW_0 F day h b h12])
             rw [hm] at h148
             have hv69 : ∀ b, b < 6 → μ2.1 69 b = offW F day h 0 b := fun b hb => by
               rw [hz2.1 69 b rfl, hz1.1 69 b rfl]
               exact hv0 b hb
             first
               | (have e : prStep F day h a i (best, few) = (20 * nI a + nI i, manyOff (fsb (fsb F a (fbell F i)) i (fbell F a)) day h) := by
                    unfold prStep
                    rw [if_neg h79, if_pos (Int32.not_le.mp h148)]
                  rw [e] at hst
                  rw [hm]
                  exact ih (i + 1) _ _ _ _ (by omega) (ho.q hc2) (hz.tr hc2) hv69 (by omega) hst.symm)
               | (have e : prStep F day h a i (best, few) = (best, few) := by
                    unfold prStep
                    rw [if_neg h79, if_neg (Int32.not_lt.mpr h148)]
                  rw [e] at hst
                  exact ih (i + 1) _ _ _ _ (by omega) (ho.q hc2) (hz.tr hc2) hv69 (by omega) hst.symm))
      · refine zb C_bestExchange_s151 rfl ?_
        rw [nI_1]
        first
          | (rw [e56, ea, ei] at h79
             have e : prStep F day h a i (best, few) = (best, few) := if_pos h79
             rw [e] at hst
             exact ih (i + 1) _ _ _ _ (by omega) ho hz hv0 (by omega) hst.symm)
          | (rw [e56, ea, ei] at h79
             have hm := hmove (μ2.1 70) (fun b hb => by
               rw [hr2 b hb, hr1 b hb]
               rw [show (zpA μ 70 (va_cpy (μ.1 69) (μ.1 70) (0 : Int32).toNatClampNeg (0 : Int32).toNatClampNeg (6 : Int32).toNatClampNeg)).1 70 b = μ.1 69 b by
                 show (if 70 = 70 then va_cpy (μ.1 69) (μ.1 70) (0 : Int32).toNatClampNeg (0 : Int32).toNatClampNeg (6 : Int32).toNatClampNeg else μ.1 70) b = _
                 rw [if_pos rfl]
                 exact (pk_cpy_in (Nat.zero_le _) (by show b < 0 + 6; omega)).trans (congrArg (μ.1 69) (by show 0 + (b - 0) = b; omega)), hv0 b hb, offW_0 F day h b h12])
             rw [hm] at h148
             have hv69 : ∀ b, b < 6 → μ2.1 69 b = offW F day h 0 b := fun b hb => by
               rw [hz2.1 69 b rfl, hz1.1 69 b rfl]
               exact hv0 b hb
             first
               | (have e : prStep F day h a i (best, few) = (20 * nI a + nI i, manyOff (fsb (fsb F a (fbell F i)) i (fbell F a)) day h) := by
                    unfold prStep
                    rw [if_neg h79, if_pos (Int32.not_le.mp h148)]
                  rw [e] at hst
                  rw [hm]
                  exact ih (i + 1) _ _ _ _ (by omega) (ho.q hc2) (hz.tr hc2) hv69 (by omega) hst.symm)
               | (have e : prStep F day h a i (best, few) = (best, few) := by
                    unfold prStep
                    rw [if_neg h79, if_neg (Int32.not_lt.mpr h148)]
                  rw [e] at hst
                  exact ih (i + 1) _ _ _ _ (by omega) (ho.q hc2) (hz.tr hc2) hv69 (by omega) hst.symm))
    · refine zb C_bestExchange_s82 rfl ?_
      rw [nI_1]
      first
        | (rw [e56, ea, ei] at h79
           have e : prStep F day h a i (best, few) = (best, few) := if_pos h79
           rw [e] at hst
           exact ih (i + 1) _ _ _ _ (by omega) ho hz hv0 (by omega) hst.symm)
        | (rw [e56, ea, ei] at h79
           have hm := hmove (μ2.1 70) (fun b hb => by
             rw [hr2 b hb, hr1 b hb]
             rw [show (zpA μ 70 (va_cpy (μ.1 69) (μ.1 70) (0 : Int32).toNatClampNeg (0 : Int32).toNatClampNeg (6 : Int32).toNatClampNeg)).1 70 b = μ.1 69 b by
               show (if 70 = 70 then va_cpy (μ.1 69) (μ.1 70) (0 : Int32).toNatClampNeg (0 : Int32).toNatClampNeg (6 : Int32).toNatClampNeg else μ.1 70) b = _
               rw [if_pos rfl]
               exact (pk_cpy_in (Nat.zero_le _) (by show b < 0 + 6; omega)).trans (congrArg (μ.1 69) (by show 0 + (b - 0) = b; omega)), hv0 b hb, offW_0 F day h b h12])
           rw [hm] at h148
           have hv69 : ∀ b, b < 6 → μ2.1 69 b = offW F day h 0 b := fun b hb => by
             rw [hz2.1 69 b rfl, hz1.1 69 b rfl]
             exact hv0 b hb
           first
             | (have e : prStep F day h a i (best, few) = (20 * nI a + nI i, manyOff (fsb (fsb F a (fbell F i)) i (fbell F a)) day h) := by
                  unfold prStep
                  rw [if_neg h79, if_pos (Int32.not_le.mp h148)]
                rw [e] at hst
                rw [hm]
                exact ih (i + 1) _ _ _ _ (by omega) (ho.q hc2) (hz.tr hc2) hv69 (by omega) hst.symm)
             | (have e : prStep F day h a i (best, few) = (best, few) := by
                  unfold prStep
                  rw [if_neg h79, if_neg (Int32.not_lt.mpr h148)]
                rw [e] at hst
                exact ih (i + 1) _ _ _ _ (by omega) (ho.q hc2) (hz.tr hc2) hv69 (by omega) hst.symm))

set_option maxRecDepth 100000 in
set_option maxHeartbeats 4000000 in
theorem w_pairs {g : zG} {d : Nat} {F : zF} {μ0 : zMem} {day h : Int32} (hF : okF F) (hd : 6 ≤ d) : ∀ (j i : Nat) (best : Int32) (few : Int32) (x6 : Option Value) (x7 : Option Value) (μ : zMem), i + j = fV F → oX F μ → zq sX μ0 μ → ((∀ b, b < 6 → μ.1 69 b = offW F day h 0 b)) → ((best, few) = zfold (prA F day h) 0 i (-2, manyOff F day h)) → zW g C_bestExchange d 29 [some (.ref 6), some (.int day), some (.int h), some (.int few), some (.int best), some (.int (nI i)), x6, x7] [] μ (fun r μ' => r = some (.int (zfold (prA F day h) 0 (fV F) (-2, manyOff F day h)).1) ∧ zq sX μ0 μ') := by
  intro j
  induction j with
  | zero =>
    intro i best few x6 x7 μ hi ho hz hv0 hv1
    have hbd := ho.v
    have h12 := ho.v12
    have h6 := ho.b6
    have hi : fV F = i := by omega
    subst hi
    refine zb C_bestExchange_s29 rfl ?_
    refine z_cge C_bestExchange_d38 (tgt := 176) rfl (fun h38 => ?_) (fun h38 => absurd (show μ.1 2 8 ≤ nI (fV F) by first | exact Int32.le_refl _ | (rw [hbd]; exact Int32.le_refl _)) h38)
    refine zb C_bestExchange_s176 rfl ?_
    refine z_ret C_bestExchange_d178 rfl ?_
    rw [← hv1]
    exact ⟨rfl, hz⟩
  | succ j ih =>
    intro i best few x6 x7 μ hi ho hz hv0 hv1
    have hbd := ho.v
    have h12 := ho.v12
    have h6 := ho.b6
    have hilt : i < fV F := by omega
    have ei : (nI i).toNatClampNeg = i := nI_clamp (by omega)
    have hst : zfold (prA F day h) 0 (i + 1) (-2, manyOff F day h) = prA F day h i (best, few) := by rw [zf0, ← hv1]
    refine zb C_bestExchange_s29 rfl ?_
    refine z_cge C_bestExchange_d38 (tgt := 176) rfl (fun h38 => absurd h38 (show ¬ μ.1 2 8 ≤ nI i by first | exact nI_ge hilt (by omega) | (rw [hbd]; exact nI_ge hilt (by omega)))) (fun h38 => ?_)
    refine zb C_bestExchange_s41 rfl ?_
    rw [nI_1]
    refine w_pairs_in (t0 := (best, few)) hF hd hilt (fun b2 f2 μ2 y6 y7 ho2 hz2 hr2 he2 => ?_) (fV F - (i + 1)) (i + 1) best few _ μ (by omega) ho hz hv0 (by omega) (by rw [Nat.sub_self]; rfl)
    refine zb C_bestExchange_s170 rfl ?_
    rw [nI_1]
    exact ih (i + 1) _ _ _ _ _ (by omega) ho2 hz2 hr2 (he2.trans hst.symm)

set_option maxRecDepth 100000 in
set_option maxHeartbeats 4000000 in
theorem x_bestEx {g : zG} {d : Nat} {F : zF} {μ : zMem} {day h : Int32} (hF : okF F) (hd : 6 ≤ d) (ho : oX F μ) : zM g d C_bestExchange [.ref 6, .int day, .int h] μ (fun r μ' => r = some (.int (zfold (prA F day h) 0 (fV F) (-2, manyOff F day h)).1) ∧ zq sX μ μ') := by
  refine zM_of (by decide +kernel) rfl rfl (Nat.le_of_ble_eq_true rfl) rfl ?_
  have h12 := ho.v12
  have h6 := ho.b6
  refine zb C_bestExchange_s0 rfl ?_
  refine zcallV C_bestExchange_d11 k1_40 (by omega) (x_fillOffs_69 hF (by omega) ho) rfl rfl rfl (Nat.le_of_ble_eq_true rfl) ?_
  rintro _ μ1 ⟨rfl, hz1, hr1⟩
  refine zb C_bestExchange_s14 rfl ?_
  refine zcallS C_bestExchange_d18 k1_46 (by omega) (x_countOff_69 (by omega)) rfl rfl (Nat.le_of_ble_eq_true rfl) ?_
  rintro _ μx ⟨rfl, hx⟩
  rw [hx]
  clear hx μx
  refine zb C_bestExchange_s21 rfl ?_
  rw [many_6 hF h6 h12 day h hr1]
  exact w_pairs hF hd (fV F) 0 _ _ _ _ μ1 (by omega) (ho.q hz1) hz1 hr1 rfl

set_option maxRecDepth 100000 in
set_option maxHeartbeats 4000000 in
theorem x_pairs {g : zG} {d : Nat} {F : zF} {μ : zMem} {dh : Int32} (hF : okF F) (hd9 : 7 ≤ d) (ho : oX F μ) : zM g d X_pairs [.ref 1, .int dh] μ (fun r μ' => r = some (.int (sPairs F dh)) ∧ zq sX μ μ') := by
  refine zM_of (by decide +kernel) rfl rfl (Nat.le_of_ble_eq_true rfl) rfl ?_
  have hz : zq sX μ μ := zq.rf
  have h12 := ho.v12
  have h6 := ho.b6
  refine zb X_pairs_s0 rfl ?_
  refine zcallS X_pairs_d1 k10_160 (by omega) (x_isDayHour _) rfl rfl (Nat.le_of_ble_eq_true rfl) ?_
  rintro _ μx ⟨rfl, hx⟩
  rw [hx]
  clear hx μx
  refine z_eq X_pairs_d4 (tgt := 25) rfl (fun h4 => ?_) (fun h4 => ?_)
  · refine zb X_pairs_s25 rfl ?_
    refine z_ret X_pairs_d26 rfl ?_
    refine ⟨congrArg (fun z => some (Value.int z)) ?_, hz⟩
    unfold sPairs
    first
      | (rw [if_pos (show tim dh from zB_ne0.mp h4)]; done)
      | (rw [if_pos (show tim dh from zB_ne0.mp h4)]; rfl)
      | (rw [if_neg (show ¬ tim dh from zB_eq0.mp h4)]; done)
  · refine zb2 X_pairs_s7 rfl (by decide) (by decide) ?_
    refine zcallV X_pairs_d19 k10_273 (by omega) (x_bestEx hF (by omega) ho) rfl rfl rfl (Nat.le_of_ble_eq_true rfl) ?_
    rintro _ μ1 ⟨rfl, hz1⟩
    replace hz := hz.tr hz1
    replace ho := ho.q hz1
    clear hz1
    refine zb X_pairs_s22 rfl ?_
    refine z_ret X_pairs_d26 rfl ?_
    refine ⟨congrArg (fun z => some (Value.int z)) ?_, hz⟩
    unfold sPairs
    first
      | (rw [if_pos (show tim dh from zB_ne0.mp h4)]; done)
      | (rw [if_pos (show tim dh from zB_ne0.mp h4)]; rfl)
      | (rw [if_neg (show ¬ tim dh from zB_eq0.mp h4)]; done)
