/-! the class: into which bell a vow should be cast -/
theorem bit1_at : ∀ v u : Fin 12, ((bit1 v.1 >>> (nI u.1 &&& 31)) &&& 1 = 0 ↔ ¬ u.1 = v.1) := by decide
def crow (F : zF) (v : Nat) (day h : Int32) (b q : Nat) : Int32 := if q = b then offW F day h (bit1 v) b + pu F v (nI b) day h else offW F day h (bit1 v) q
theorem offs_cast {F : zF} (hV : fV F ≤ 12) {v : Nat} (hv : v < fV F) {day h : Int32} {b q : Nat} (hb : b < 6) (hq : q < 6) : offs (fsb F v (nI b)) (nI q) day h = crow F v day h b q := by
  have k := zsum_upd (f := offT (fsb F v (nI b)) (nI q) day h) (g := offWT F day h (bit1 v) q) (v := v) (n := fV F) hv (fun u hu hne => by
    unfold offT offWT
    have e : fbell (fsb F v (nI b)) u = fbell F u := if_neg hne
    have hb1 := (bit1_at ⟨v, by omega⟩ ⟨u, by omega⟩).mpr hne
    rw [e]
    by_cases z : fbell F u = nI q
    · rw [if_pos z, if_pos ⟨hb1, z⟩]
      rfl
    · rw [if_neg z, if_neg (fun y => z y.2)])
  have e0 : offWT F day h (bit1 v) q v = 0 := if_neg (fun z => (bit1_at ⟨v, by omega⟩ ⟨v, by omega⟩).mp z.1 rfl)
  have e1 : offT (fsb F v (nI b)) (nI q) day h v = if b = q then pu F v (nI q) day h else 0 := by
    unfold offT
    have e : fbell (fsb F v (nI b)) v = nI b := if_pos rfl
    rw [e]
    by_cases z : b = q
    · rw [if_pos z, z, if_pos rfl]
      rfl
    · rw [if_neg z, if_neg (fun y => z ((nI_eq (by omega) (by omega)).mp y))]
  rw [e0, e1, Int32.sub_zero] at k
  unfold crow
  refine k.trans ?_
  by_cases z : q = b
  · rw [if_pos z, if_pos z.symm, z]
    rfl
  · rw [if_neg z, if_neg (fun y => z y.symm), Int32.add_zero]
    rfl
theorem many_cast {F : zF} (hF : okF F) (h6 : fB F ≤ 6) (hV : fV F ≤ 12) {v : Nat} (hv : v < fV F) {day h : Int32} {b : Nat} (hb : b < fB F) : manyOff (fsb F v (nI b)) day h = zsum (fun q => zB (¬ offW F day h (bit1 v) q = 0)) 6 - zB (¬ offW F day h (bit1 v) b = 0) + zB (¬ offW F day h (bit1 v) b + pu F v (nI b) day h = 0) := by
  have hF2 : okF (fsb F v (nI b)) := okF_fsb hF ⟨b, hb, rfl⟩
  rw [← many_fsb (F := fsb F v (nI b)) hF2 h6 (r := crow F v day h b) (fun q hq => (offs_cast hV hv (by omega) hq).symm)]
  have k := zsum_upd (f := fun q => zB (¬ crow F v day h b q = 0)) (g := fun q => zB (¬ offW F day h (bit1 v) q = 0)) (v := b) (n := 6) (by omega) (fun u _ hne => by
    unfold crow
    rw [if_neg hne])
  rw [k]
  unfold crow
  rw [if_pos rfl]
def cS (F : zF) (v : Nat) (h : Int32) (k b : Nat) : Int32 := zsum (fun day => manyOff (fsb F v (nI b)) (nI day) h) k

theorem d100_nn {q : Int32} (h : 0 ≤ q) : 0 ≤ q / 100 := by
  obtain ⟨k, hk, rfl⟩ := nI_of (Int32.not_lt.mpr h)
  rw [show (nI k) / 100 = nI (k / 100) from pk_div (d := 100) hk (by decide) (by decide)]
  exact nI_pos' (by omega)

set_option maxRecDepth 100000 in
set_option maxHeartbeats 4000000 in
theorem w_fillOffsN {g : zG} {d : Nat} {F : zF} {μ0 : zMem} {wo day h : Int32} (hF : okF F) (hd : 5 ≤ d) : ∀ (j i : Nat) (μ : zMem), i + j = fV F → oX F μ → zq (n1 69) μ0 μ → (∀ b, b < 6 → μ.1 69 b = zsum (offWT F day h wo b) i) → zW g F_fillOffs d 8 [some (.ref 2), some (.ref 69), some (.int day), some (.int h), some (.int wo), some (.int (nI i))] [] μ (fun r μ' => r = none ∧ zq (n1 69) μ0 μ' ∧ ∀ b, b < 6 → μ'.1 69 b = offW F day h wo b) := by
  intro j
  induction j with
  | zero =>
    intro i  μ hi ho hz hv0
    have hbd := ho.v
    have h12 := ho.v12
    have h6 := ho.b6
    have hi : fV F = i := by omega
    subst hi
    refine zb F_fillOffs_s8 rfl ?_
    refine z_cge F_fillOffs_d14 (tgt := 66) rfl (fun h14 => ?_) (fun h14 => absurd (show μ.1 2 8 ≤ nI (fV F) by first | exact Int32.le_refl _ | (rw [hbd]; exact Int32.le_refl _)) h14)
    refine z_retV F_fillOffs_d66 rfl ?_
    exact ⟨rfl, hz, hv0⟩
  | succ j ih =>
    intro i  μ hi ho hz hv0
    have hbd := ho.v
    have h12 := ho.v12
    have h6 := ho.b6
    have hilt : i < fV F := by omega
    have ei : (nI i).toNatClampNeg = i := nI_clamp (by omega)
    have hvi : vp_in (nI i) 12 := vp_in_nI (by omega) (by omega)
    obtain ⟨b0, hb0, eb0⟩ := (hF.2.1 i hilt).1
    have hvb : vp_in (μ.1 56 (nI i).toNatClampNeg) 6 := by rw [ho.e56, ei, eb0]; exact vp_in_nI (by omega) (by omega)
    have hvb2 : vp_in (nI b0) 6 := vp_in_nI (by omega) (by omega)
    have ec : (nI b0).toNatClampNeg = b0 := nI_clamp (by omega)
    refine zb F_fillOffs_s8 rfl ?_
    refine z_cge F_fillOffs_d14 (tgt := 66) rfl (fun h14 => absurd h14 (show ¬ μ.1 2 8 ≤ nI i by first | exact nI_ge hilt (by omega) | (rw [hbd]; exact nI_ge hilt (by omega)))) (fun h14 => ?_)
    refine zb F_fillOffs_s17 rfl ?_
    refine z_ne F_fillOffs_d24 (tgt := 60) rfl (fun h24 => ?_) (fun h24 => ?_)
    · refine zb F_fillOffs_s60 rfl ?_
      rw [nI_1]
      first
        | (rw [ec, ofI_pu hF hilt, hv0 b0 (by omega)]
           refine ih (i + 1) _ (by omega) (ho.q (zq.w (m := sX) rfl)) (hz.tr (zq.w rfl)) (fun b hb => ?_)
           rw [zpI_at, zsum_s]
           unfold offWT
           by_cases y : b = b0
           · rw [if_pos y, y, if_pos (show (wo >>> (nI i &&& 31)) &&& 1 = 0 ∧ fbell F i = nI b0 from And.intro h24 eb0)]
           · rw [if_neg y, if_neg (fun z => y ((nI_eq (by omega) (by omega)).mp (z.2.symm.trans eb0)))]
             rw [Int32.add_zero]
             exact hv0' b hb)
        | (refine ih (i + 1) _ (by omega) ho hz (fun b hb => ?_)
           rw [zsum_s, ← hv0 b hb]
           unfold offWT
           rw [if_neg (fun z => (show ¬ (wo >>> (nI i &&& 31)) &&& 1 = 0 from h24) z.1), Int32.add_zero])
    · refine zb3 F_fillOffs_s27 rfl (by first | exact hvi | exact hvb | exact hvb2) (by first | exact hvi | exact hvb | exact hvb2) (by first | exact hvi | exact hvb | exact hvb2) ?_
      rw [ho.e56, ei, eb0, ec]
      refine zcallV F_fillOffs_d51 k4_95 (by omega) (x_daysBroken _ (by omega) (by omega) ho) rfl rfl rfl (Nat.le_of_ble_eq_true rfl) ?_
      rintro _ μx ⟨rfl, hx⟩
      rw [hx]
      clear hx μx
      refine zb F_fillOffs_s54 rfl ?_
      refine zcallV F_fillOffs_d55 k4_98 (by omega) (x_offIf (by omega) (by omega) ho) rfl rfl rfl (Nat.le_of_ble_eq_true rfl) ?_
      rintro _ μ1 ⟨rfl, hz1⟩
      have hv0' : ∀ b, b < 6 → μ1.1 69 b = zsum (offWT F day h wo b) i := fun b hb => by rw [hz1.1 69 b rfl]; exact hv0 b hb
      replace hz := hz.tr (hz1.mono nS_n1)
      replace ho := ho.q (hz1.mono nS_sX)
      refine zb1 F_fillOffs_s58 rfl (by first | exact hvi | exact hvb | exact hvb2) ?_
      rw [nI_1]
      first
        | (rw [ec, ofI_pu hF hilt, hv0 b0 (by omega)]
           refine ih (i + 1) _ (by omega) (ho.q (zq.w (m := sX) rfl)) (hz.tr (zq.w rfl)) (fun b hb => ?_)
           rw [zpI_at, zsum_s]
           unfold offWT
           by_cases y : b = b0
           · rw [if_pos y, y, if_pos (show (wo >>> (nI i &&& 31)) &&& 1 = 0 ∧ fbell F i = nI b0 from And.intro h24 eb0)]
           · rw [if_neg y, if_neg (fun z => y ((nI_eq (by omega) (by omega)).mp (z.2.symm.trans eb0)))]
             rw [Int32.add_zero]
             exact hv0' b hb)
        | (refine ih (i + 1) _ (by omega) ho hz (fun b hb => ?_)
           rw [zsum_s, ← hv0 b hb]
           unfold offWT
           rw [if_neg (fun z => (show ¬ (wo >>> (nI i &&& 31)) &&& 1 = 0 from h24) z.1), Int32.add_zero])

set_option maxRecDepth 100000 in
set_option maxHeartbeats 4000000 in
theorem x_fillOffsN {g : zG} {d : Nat} {F : zF} {μ : zMem} {wo day h : Int32} (hF : okF F) (hd : 5 ≤ d) (ho : oX F μ) : zM g d F_fillOffs [.ref 2, .ref 69, .int day, .int h, .int wo] μ (fun r μ' => r = none ∧ zq (n1 69) μ μ' ∧ ∀ b, b < 6 → μ'.1 69 b = offW F day h wo b) := by
  refine zM_of (by decide +kernel) rfl rfl (Nat.le_of_ble_eq_true rfl) rfl ?_
  refine zb F_fillOffs_s0 rfl ?_
  refine zcallS F_fillOffs_d2 k4_102 (by omega) (x_fillN_69 0) rfl rfl (Nat.le_of_ble_eq_true rfl) ?_
  rintro _ μ1 ⟨rfl, hz1, h0⟩
  refine zb F_fillOffs_s5 rfl ?_
  exact w_fillOffsN hF hd (fV F) 0 μ1 (by omega) (ho.q (hz1.mono (s1_sX (fun _ => rfl)))) (hz1.mono s1_n1) (fun b hb => h0 b hb)

set_option maxRecDepth 100000 in
set_option maxHeartbeats 4000000 in
theorem w_castB {g : zG} {d : Nat} {F : zF} {μ0 : zMem} {v N : Nat} {h w : Int32} {k : Nat} {Q : Option Value → zMem → Prop} (hF : okF F) (hd : 5 ≤ d) (hv : v < fV F) (hQ : ∀ (μ : zMem) (x8 x9 : Option Value), oX F μ → zq sX μ0 μ → (∀ q, q < fB F → μ.1 71 q = cS F v h (k + 1) q) → zW g C_castInto d 144 [some (.ref 6), some (.int (nI v)), some (.int (nI N)), some (.int h), some (.int w), some (.int (nI k)), some (.int (zsum (fun q => zB (¬ offW F (nI k) h (bit1 v) q = 0)) 6)), some (.int (dbr F v (nI k))), x8, x9] [] μ Q) : ∀ (j i : Nat) (x9 : Option Value) (μ : zMem), i + j = fB F → oX F μ → zq sX μ0 μ → ((∀ b, b < 6 → μ.1 69 b = offW F (nI k) h (bit1 v) b)) → (∀ q, q < fB F → μ.1 71 q = if q < i then cS F v h (k + 1) q else cS F v h k q) → zW g C_castInto d 58 [some (.ref 6), some (.int (nI v)), some (.int (nI N)), some (.int h), some (.int w), some (.int (nI k)), some (.int (zsum (fun q => zB (¬ offW F (nI k) h (bit1 v) q = 0)) 6)), some (.int (dbr F v (nI k))), some (.int (nI i)), x9] [] μ (Q) := by
  intro j
  induction j with
  | zero =>
    intro i x9 μ hi ho hz hv0 hv1
    have hbd := ho.b
    have h12 := ho.v12
    have h6 := ho.b6
    have hi : fB F = i := by omega
    subst hi
    refine zb C_castInto_s58 rfl ?_
    refine z_cge C_castInto_d67 (tgt := 144) rfl (fun h67 => ?_) (fun h67 => absurd (show μ.1 2 7 ≤ nI (fB F) by first | exact Int32.le_refl _ | (rw [hbd]; exact Int32.le_refl _)) h67)
    exact hQ μ _ _ ho hz (fun q hq => by rw [hv1 q hq, if_pos hq])
  | succ j ih =>
    intro i x9 μ hi ho hz hv0 hv1
    have hbd := ho.b
    have h12 := ho.v12
    have h6 := ho.b6
    have hilt : i < fB F := by omega
    have ei : (nI i).toNatClampNeg = i := nI_clamp (by omega)
    have hvi : vp_in (nI i) 6 := vp_in_nI (by omega) (by omega)
    have ho9 := hv0 i (by omega)
    have hs9 := hv1 i hilt
    rw [if_neg (Nat.lt_irrefl _)] at hs9
    have hmc := many_cast hF h6 h12 hv (day := nI k) (h := h) hilt
    have hcs : cS F v h (k + 1) i = cS F v h k i + manyOff (fsb F v (nI i)) (nI k) h := rfl
    refine zb C_castInto_s58 rfl ?_
    refine z_cge C_castInto_d67 (tgt := 144) rfl (fun h67 => absurd h67 (show ¬ μ.1 2 7 ≤ nI i by first | exact nI_ge hilt (by omega) | (rw [hbd]; exact nI_ge hilt (by omega)))) (fun h67 => ?_)
    refine zb1 C_castInto_s70 rfl hvi ?_
    refine zcallV C_castInto_d87 k1_60 (by omega) (x_offIf (by omega) (by omega) ho) rfl rfl rfl (Nat.le_of_ble_eq_true rfl) ?_
    rintro _ μ1 ⟨rfl, hz1⟩
    have hzx := hz1.mono nS_sX
    have h69 : ∀ b, b < 6 → μ1.1 69 b = offW F (nI k) h (bit1 v) b := fun b hb => by rw [hz1.1 69 b rfl]; exact hv0 b hb
    have h71 : ∀ q, q < fB F → μ1.1 71 q = if q < i then cS F v h (k + 1) q else cS F v h k q := fun q hq => by rw [hz1.1 71 q rfl]; exact hv1 q hq
    refine zb2 C_castInto_s90 rfl hvi hvi ?_
    skip
    refine z_eq C_castInto_d110 (tgt := 117) rfl (fun h110 => ?_) (fun h110 => ?_)
    · refine zb C_castInto_s117 rfl ?_
      refine zcallN C_castInto_d118 k1_64 (by omega) (x_bit _) rfl rfl (Nat.le_of_ble_eq_true rfl) ?_
      rintro _ μx ⟨rfl, hx⟩
      rw [hx]
      clear hx μx
      refine zb C_castInto_s121 rfl ?_
      (try rw [ei] at h110)
      refine z_eq C_castInto_d124 (tgt := 131) rfl (fun h124 => ?_) (fun h124 => ?_)
      · refine zb C_castInto_s131 rfl ?_
        refine zcallN C_castInto_d132 k1_64 (by omega) (x_bit _) rfl rfl (Nat.le_of_ble_eq_true rfl) ?_
        rintro _ μx ⟨rfl, hx⟩
        rw [hx]
        clear hx μx
        refine zb1 C_castInto_s135 rfl hvi ?_
        rw [nI_1, ei, ofI_pu hF hv, ho9] at *
        rw [ei, h69 i (by omega)] at h110
        have hst : ∀ x : Int32, x = cS F v h (k + 1) i → ∀ q, q < fB F → (zpI μ1 71 i x).1 71 q = if q < i + 1 then cS F v h (k + 1) q else cS F v h k q := fun x hx q hq => by
          rw [zpI_at]
          by_cases y : q = i
          · rw [if_pos y, if_pos (by omega), y]; exact hx
          · rw [if_neg y, h71 q hq]
            by_cases z : q < i
            · rw [if_pos z, if_pos (by omega)]
            · rw [if_neg z, if_neg (by omega)]
        refine ih (i + 1) _ _ (by omega) ((ho.q hzx).q (zq.w (m := sX) rfl)) ((hz.tr hzx).tr (zq.w rfl)) (fun b hb => by rw [zpI_ne (by decide)]; exact h69 b hb) (hst _ ?_)
        rw [hcs, hmc, h71 i hilt, if_neg (Nat.lt_irrefl _)]
        have z0 : zB (¬ (0 : Int32) = 0) = 0 := by decide
        have z1 : zB (¬ (1 : Int32) = 0) = 1 := by decide
        (try rw [z0])
        (try rw [z1])
        first
          | (have b1 : zB (¬ offW F (nI k) h (bit1 v) i = 0) = 1 := zB_t h110
             first
               | (have b2 : zB (¬ offW F (nI k) h (bit1 v) i + pu F v (nI i) (nI k) h = 0) = 1 := zB_t h124
                  rw [b1, b2])
               | (have b2 : zB (¬ offW F (nI k) h (bit1 v) i + pu F v (nI i) (nI k) h = 0) = 0 := zB_f (fun z => z h124)
                  rw [b1, b2]))
          | (have b1 : zB (¬ offW F (nI k) h (bit1 v) i = 0) = 0 := zB_f (fun z => z h110)
             first
               | (have b2 : zB (¬ offW F (nI k) h (bit1 v) i + pu F v (nI i) (nI k) h = 0) = 1 := zB_t h124
                  rw [b1, b2])
               | (have b2 : zB (¬ offW F (nI k) h (bit1 v) i + pu F v (nI i) (nI k) h = 0) = 0 := zB_f (fun z => z h124)
                  rw [b1, b2]))
      · refine zb C_castInto_s127 rfl ?_
        refine zcallN C_castInto_d132 k1_64 (by omega) (x_bit _) rfl rfl (Nat.le_of_ble_eq_true rfl) ?_
        rintro _ μx ⟨rfl, hx⟩
        rw [hx]
        clear hx μx
        refine zb1 C_castInto_s135 rfl hvi ?_
        rw [nI_1, ei, ofI_pu hF hv, ho9] at *
        rw [ei, h69 i (by omega)] at h110
        have hst : ∀ x : Int32, x = cS F v h (k + 1) i → ∀ q, q < fB F → (zpI μ1 71 i x).1 71 q = if q < i + 1 then cS F v h (k + 1) q else cS F v h k q := fun x hx q hq => by
          rw [zpI_at]
          by_cases y : q = i
          · rw [if_pos y, if_pos (by omega), y]; exact hx
          · rw [if_neg y, h71 q hq]
            by_cases z : q < i
            · rw [if_pos z, if_pos (by omega)]
            · rw [if_neg z, if_neg (by omega)]
        refine ih (i + 1) _ _ (by omega) ((ho.q hzx).q (zq.w (m := sX) rfl)) ((hz.tr hzx).tr (zq.w rfl)) (fun b hb => by rw [zpI_ne (by decide)]; exact h69 b hb) (hst _ ?_)
        rw [hcs, hmc, h71 i hilt, if_neg (Nat.lt_irrefl _)]
        have z0 : zB (¬ (0 : Int32) = 0) = 0 := by decide
        have z1 : zB (¬ (1 : Int32) = 0) = 1 := by decide
        (try rw [z0])
        (try rw [z1])
        first
          | (have b1 : zB (¬ offW F (nI k) h (bit1 v) i = 0) = 1 := zB_t h110
             first
               | (have b2 : zB (¬ offW F (nI k) h (bit1 v) i + pu F v (nI i) (nI k) h = 0) = 1 := zB_t h124
                  rw [b1, b2])
               | (have b2 : zB (¬ offW F (nI k) h (bit1 v) i + pu F v (nI i) (nI k) h = 0) = 0 := zB_f (fun z => z h124)
                  rw [b1, b2]))
          | (have b1 : zB (¬ offW F (nI k) h (bit1 v) i = 0) = 0 := zB_f (fun z => z h110)
             first
               | (have b2 : zB (¬ offW F (nI k) h (bit1 v) i + pu F v (nI i) (nI k) h = 0) = 1 := zB_t h124
                  rw [b1, b2])
               | (have b2 : zB (¬ offW F (nI k) h (bit1 v) i + pu F v (nI i) (nI k) h = 0) = 0 := zB_f (fun z => z h124)
                  rw [b1, b2]))
    · refine zb C_castInto_s113 rfl ?_
      refine zcallN C_castInto_d118 k1_64 (by omega) (x_bit _) rfl rfl (Nat.le_of_ble_eq_true rfl) ?_
      rintro _ μx ⟨rfl, hx⟩
      rw [hx]
      clear hx μx
      refine zb C_castInto_s121 rfl ?_
      (try rw [ei] at h110)
      refine z_eq C_castInto_d124 (tgt := 131) rfl (fun h124 => ?_) (fun h124 => ?_)
      · refine zb C_castInto_s131 rfl ?_
        refine zcallN C_castInto_d132 k1_64 (by omega) (x_bit _) rfl rfl (Nat.le_of_ble_eq_true rfl) ?_
        rintro _ μx ⟨rfl, hx⟩
        rw [hx]
        clear hx μx
        refine zb1 C_castInto_s135 rfl hvi ?_
        rw [nI_1, ei, ofI_pu hF hv, ho9] at *
        rw [ei, h69 i (by omega)] at h110
        have hst : ∀ x : Int32, x = cS F v h (k + 1) i → ∀ q, q < fB F → (zpI μ1 71 i x).1 71 q = if q < i + 1 then cS F v h (k + 1) q else cS F v h k q := fun x hx q hq => by
          rw [zpI_at]
          by_cases y : q = i
          · rw [if_pos y, if_pos (by omega), y]; exact hx
          · rw [if_neg y, h71 q hq]
            by_cases z : q < i
            · rw [if_pos z, if_pos (by omega)]
            · rw [if_neg z, if_neg (by omega)]
        refine ih (i + 1) _ _ (by omega) ((ho.q hzx).q (zq.w (m := sX) rfl)) ((hz.tr hzx).tr (zq.w rfl)) (fun b hb => by rw [zpI_ne (by decide)]; exact h69 b hb) (hst _ ?_)
        rw [hcs, hmc, h71 i hilt, if_neg (Nat.lt_irrefl _)]
        have z0 : zB (¬ (0 : Int32) = 0) = 0 := by decide
        have z1 : zB (¬ (1 : Int32) = 0) = 1 := by decide
        (try rw [z0])
        (try rw [z1])
        first
          | (have b1 : zB (¬ offW F (nI k) h (bit1 v) i = 0) = 1 := zB_t h110
             first
               | (have b2 : zB (¬ offW F (nI k) h (bit1 v) i + pu F v (nI i) (nI k) h = 0) = 1 := zB_t h124
                  rw [b1, b2])
               | (have b2 : zB (¬ offW F (nI k) h (bit1 v) i + pu F v (nI i) (nI k) h = 0) = 0 := zB_f (fun z => z h124)
                  rw [b1, b2]))
          | (have b1 : zB (¬ offW F (nI k) h (bit1 v) i = 0) = 0 := zB_f (fun z => z h110)
             first
               | (have b2 : zB (¬ offW F (nI k) h (bit1 v) i + pu F v (nI i) (nI k) h = 0) = 1 := zB_t h124
                  rw [b1, b2])
               | (have b2 : zB (¬ offW F (nI k) h (bit1 v) i + pu F v (nI i) (nI k) h = 0) = 0 := zB_f (fun z => z h124)
                  rw [b1, b2]))
      · refine zb C_castInto_s127 rfl ?_
        refine zcallN C_castInto_d132 k1_64 (by omega) (x_bit _) rfl rfl (Nat.le_of_ble_eq_true rfl) ?_
        rintro _ μx ⟨rfl, hx⟩
        rw [hx]
        clear hx μx
        refine zb1 C_castInto_s135 rfl hvi ?_
        rw [nI_1, ei, ofI_pu hF hv, ho9] at *
        rw [ei, h69 i (by omega)] at h110
        have hst : ∀ x : Int32, x = cS F v h (k + 1) i → ∀ q, q < fB F → (zpI μ1 71 i x).1 71 q = if q < i + 1 then cS F v h (k + 1) q else cS F v h k q := fun x hx q hq => by
          rw [zpI_at]
          by_cases y : q = i
          · rw [if_pos y, if_pos (by omega), y]; exact hx
          · rw [if_neg y, h71 q hq]
            by_cases z : q < i
            · rw [if_pos z, if_pos (by omega)]
            · rw [if_neg z, if_neg (by omega)]
        refine ih (i + 1) _ _ (by omega) ((ho.q hzx).q (zq.w (m := sX) rfl)) ((hz.tr hzx).tr (zq.w rfl)) (fun b hb => by rw [zpI_ne (by decide)]; exact h69 b hb) (hst _ ?_)
        rw [hcs, hmc, h71 i hilt, if_neg (Nat.lt_irrefl _)]
        have z0 : zB (¬ (0 : Int32) = 0) = 0 := by decide
        have z1 : zB (¬ (1 : Int32) = 0) = 1 := by decide
        (try rw [z0])
        (try rw [z1])
        first
          | (have b1 : zB (¬ offW F (nI k) h (bit1 v) i = 0) = 1 := zB_t h110
             first
               | (have b2 : zB (¬ offW F (nI k) h (bit1 v) i + pu F v (nI i) (nI k) h = 0) = 1 := zB_t h124
                  rw [b1, b2])
               | (have b2 : zB (¬ offW F (nI k) h (bit1 v) i + pu F v (nI i) (nI k) h = 0) = 0 := zB_f (fun z => z h124)
                  rw [b1, b2]))
          | (have b1 : zB (¬ offW F (nI k) h (bit1 v) i = 0) = 0 := zB_f (fun z => z h110)
             first
               | (have b2 : zB (¬ offW F (nI k) h (bit1 v) i + pu F v (nI i) (nI k) h = 0) = 1 := zB_t h124
                  rw [b1, b2])
               | (have b2 : zB (¬ offW F (nI k) h (bit1 v) i + pu F v (nI i) (nI k) h = 0) = 0 := zB_f (fun z => z h124)
                  rw [b1, b2]))

set_option maxRecDepth 100000 in
set_option maxHeartbeats 4000000 in
theorem w_castD {g : zG} {d : Nat} {F : zF} {μ0 : zMem} {v N : Nat} {h w : Int32} {Q : Option Value → zMem → Prop} (hF : okF F) (hd : 6 ≤ d) (hv : v < fV F) (hN : N ≤ 99) (hQ : ∀ (μ : zMem) (x5 x6 x7 x8 x9 : Option Value), oX F μ → zq sX μ0 μ → (∀ q, q < fB F → μ.1 71 q = cS F v h (N + 1) q) → zW g C_castInto d 150 [some (.ref 6), some (.int (nI v)), some (.int (nI N)), some (.int h), some (.int w), x5, x6, x7, x8, x9] [] μ Q) : ∀ (j i : Nat) (x6 : Option Value) (x7 : Option Value) (x8 : Option Value) (x9 : Option Value) (μ : zMem), i + j = N + 1 → oX F μ → zq sX μ0 μ → (∀ q, q < fB F → μ.1 71 q = cS F v h i q) → zW g C_castInto d 11 [some (.ref 6), some (.int (nI v)), some (.int (nI N)), some (.int h), some (.int w), some (.int (nI i)), x6, x7, x8, x9] [] μ (Q) := by
  intro j
  induction j with
  | zero =>
    intro i x6 x7 x8 x9 μ hi ho hz hv0
    have hbd := ho.v
    have h12 := ho.v12
    have h6 := ho.b6
    have hi : N + 1 = i := by omega
    subst hi
    refine zb C_castInto_s11 rfl ?_
    refine z_cgt C_castInto_d14 (tgt := 150) rfl (fun h14 => ?_) (fun h14 => absurd (nI_lt (Nat.lt_succ_self N) (by omega)) h14)
    exact hQ μ _ _ _ _ _ ho hz hv0
  | succ j ih =>
    intro i x6 x7 x8 x9 μ hi ho hz hv0
    have hbd := ho.v
    have h12 := ho.v12
    have h6 := ho.b6
    have hilt : i < N + 1 := by omega
    have ei : (nI i).toNatClampNeg = i := nI_clamp (by omega)
    refine zb C_castInto_s11 rfl ?_
    refine z_cgt C_castInto_d14 (tgt := 150) rfl (fun h14 => absurd h14 (nI_nlt (by omega) (by omega))) (fun h14 => ?_)
    refine zb C_castInto_s17 rfl ?_
    refine zcallV C_castInto_d31 k1_40 (by omega) (x_fillOffsN hF (by omega) ho) rfl rfl rfl (Nat.le_of_ble_eq_true rfl) ?_
    rintro _ μ1 ⟨rfl, hz1, hr1⟩
    have hzx := hz1.mono (n1_sX (fun _ => rfl))
    have h71 : ∀ q, q < fB F → μ1.1 71 q = cS F v h i q := fun q hq => by rw [hz1.1 71 q rfl]; exact hv0 q hq
    replace hz := hz.tr hzx
    replace ho := ho.q hzx
    refine zb C_castInto_s34 rfl ?_
    refine zcallS C_castInto_d38 k1_46 (by omega) (x_countOff_69 (by omega)) rfl rfl (Nat.le_of_ble_eq_true rfl) ?_
    rintro _ μx ⟨rfl, hx⟩
    rw [hx]
    clear hx μx
    refine zb C_castInto_s41 rfl ?_
    refine zcallV C_castInto_d50 k1_52 (by omega) (x_daysBroken (i := v) _ (by omega) (by omega) ho) rfl rfl rfl (Nat.le_of_ble_eq_true rfl) ?_
    rintro _ μx ⟨rfl, hx⟩
    rw [hx]
    clear hx μx
    refine zb C_castInto_s53 rfl ?_
    have hcnt : zsum (fun b => zB (¬ μ1.1 69 b = 0)) 6 = zsum (fun q => zB (¬ offW F (nI i) h (bit1 v) q = 0)) 6 := zsum_congr 6 (fun b hb => by rw [hr1 b hb]; rfl)
    rw [hcnt]
    refine w_castB (k := i) (N := N) (w := w) (h := h) hF (by omega) hv (fun μ2 y8 y9 ho2 hz2 hr2 => ?_) (fB F) 0 _ μ1 (by omega) ho hz (fun b hb => hr1 b hb) (fun q hq => by rw [if_neg (Nat.not_lt_zero _)]; exact h71 q hq)
    refine zb C_castInto_s144 rfl ?_
    rw [nI_1]
    exact ih (i + 1) _ _ _ _ _ (by omega) ho2 hz2 hr2

set_option maxRecDepth 100000 in
set_option maxHeartbeats 4000000 in
theorem w_castE {g : zG} {d : Nat} {F : zF} {μ0 : zMem} {v N : Nat} {h w : Int32} {x7 x8 x9 : Option Value} (hs : ∀ q, q < fB F → μ0.1 71 q = casSum (fsb F v (nI q)) N h) : ∀ (j i : Nat) (best : Nat) (μ : zMem), i + j = fB F → oX F μ → (best < i) → (0 < i) → (i ≤ fB F) → (zfold (casStep F v N h) 0 i (-2, 0) = (nI best, casSum (fsb F v (nI best)) N h)) → (μ = μ0) → zW g C_castInto d 156 [some (.ref 6), some (.int (nI v)), some (.int (nI N)), some (.int h), some (.int w), some (.int (nI best)), some (.int (nI i)), x7, x8, x9] [] μ (fun r μ' => r = some (.int (if w = 0 then (casS F v N h).1 else (casS F v N h).2)) ∧ μ' = μ0) := by
  intro j
  induction j with
  | zero =>
    intro i best μ hi ho hv0 hv1 hv2 hv3 hv4
    have hbd := ho.b
    have h12 := ho.v12
    have h6 := ho.b6
    have hi : fB F = i := by omega
    subst hi
    refine zb C_castInto_s156 rfl ?_
    refine z_cge C_castInto_d165 (tgt := 195) rfl (fun h165 => ?_) (fun h165 => absurd (show μ.1 2 7 ≤ nI (fB F) by first | exact Int32.le_refl _ | (rw [hbd]; exact Int32.le_refl _)) h165)
    refine zb C_castInto_s195 rfl ?_
    refine z_ne C_castInto_d197 (tgt := 205) rfl (fun h197 => ?_) (fun h197 => ?_)
    · refine zb1 C_castInto_s205 rfl (vp_in_nI (by omega) (by omega)) ?_
      refine z_ret C_castInto_d212 rfl ?_
      have e : casS F v N h = (nI best, casSum (fsb F v (nI best)) N h) := hv3
      rw [e]
      refine ⟨?_, hv4⟩
      first
        | (rw [if_pos h197]; done)
        | (rw [if_neg h197, nI_clamp (show best < 2 ^ 31 by omega), hv4, hs best (by omega)])
    · refine zb C_castInto_s200 rfl ?_
      refine z_ret C_castInto_d212 rfl ?_
      have e : casS F v N h = (nI best, casSum (fsb F v (nI best)) N h) := hv3
      rw [e]
      refine ⟨?_, hv4⟩
      first
        | (rw [if_pos h197]; done)
        | (rw [if_neg h197, nI_clamp (show best < 2 ^ 31 by omega), hv4, hs best (by omega)])
  | succ j ih =>
    intro i best μ hi ho hv0 hv1 hv2 hv3 hv4
    have hbd := ho.b
    have h12 := ho.v12
    have h6 := ho.b6
    have hilt : i < fB F := by omega
    have ei : (nI i).toNatClampNeg = i := nI_clamp (by omega)
    have hvi : vp_in (nI i) 6 := vp_in_nI (by omega) (by omega)
    have hvb : vp_in (nI best) 6 := vp_in_nI (by omega) (by omega)
    have ebb : (nI best).toNatClampNeg = best := nI_clamp (by omega)
    have hne : ¬ nI best = -2 := fun y => absurd (show nI best < 0 by rw [y]; decide) (nI_pos (by omega))
    have hz0 : zfold (casStep F v N h) 0 (i + 1) (-2, 0) = casStep F v N h i (nI best, casSum (fsb F v (nI best)) N h) := by rw [zf0, hv3]
    refine zb C_castInto_s156 rfl ?_
    refine z_cge C_castInto_d165 (tgt := 195) rfl (fun h165 => absurd h165 (show ¬ μ.1 2 7 ≤ nI i by first | exact nI_ge hilt (by omega) | (rw [hbd]; exact nI_ge hilt (by omega)))) (fun h165 => ?_)
    refine zb2 C_castInto_s168 rfl (by first | exact hvi | exact hvb) (by first | exact hvi | exact hvb) ?_
    refine z_cge C_castInto_d182 (tgt := 189) rfl (fun h182 => ?_) (fun h182 => ?_)
    · refine zb C_castInto_s189 rfl ?_
      rw [hv4, ei, ebb, hs i hilt, hs best (by omega)] at h182
      rw [nI_1]
      first
        | (have e : casStep F v N h i (nI best, casSum (fsb F v (nI best)) N h) = (nI i, casSum (fsb F v (nI i)) N h) := if_pos (Or.inr (Int32.not_le.mp h182))
           rw [e] at hz0
           exact ih (i + 1) i _ (by omega) ho (by omega) (by omega) (by omega) hz0 hv4)
        | (have e : casStep F v N h i (nI best, casSum (fsb F v (nI best)) N h) = (nI best, casSum (fsb F v (nI best)) N h) := if_neg (fun z => z.elim hne (Int32.not_lt.mpr h182))
           rw [e] at hz0
           exact ih (i + 1) best _ (by omega) ho (by omega) (by omega) (by omega) hz0 hv4)
    · refine zb C_castInto_s185 rfl ?_
      rw [hv4, ei, ebb, hs i hilt, hs best (by omega)] at h182
      rw [nI_1]
      first
        | (have e : casStep F v N h i (nI best, casSum (fsb F v (nI best)) N h) = (nI i, casSum (fsb F v (nI i)) N h) := if_pos (Or.inr (Int32.not_le.mp h182))
           rw [e] at hz0
           exact ih (i + 1) i _ (by omega) ho (by omega) (by omega) (by omega) hz0 hv4)
        | (have e : casStep F v N h i (nI best, casSum (fsb F v (nI best)) N h) = (nI best, casSum (fsb F v (nI best)) N h) := if_neg (fun z => z.elim hne (Int32.not_lt.mpr h182))
           rw [e] at hz0
           exact ih (i + 1) best _ (by omega) ho (by omega) (by omega) (by omega) hz0 hv4)

set_option maxRecDepth 100000 in
set_option maxHeartbeats 4000000 in
theorem w_cast150 {g : zG} {d : Nat} {F : zF} {μ0 μ : zMem} {v N : Nat} {h w : Int32} {x5 x6 x7 x8 x9 : Option Value} (hF : okF F) (hv : v < fV F) (ho : oX F μ) (hz : zq sX μ0 μ) (hs : ∀ q, q < fB F → μ.1 71 q = cS F v h (N + 1) q) : zW g C_castInto d 150 [some (.ref 6), some (.int (nI v)), some (.int (nI N)), some (.int h), some (.int w), x5, x6, x7, x8, x9] [] μ (fun r μ' => r = some (.int (if w = 0 then (casS F v N h).1 else (casS F v N h).2)) ∧ zq sX μ0 μ') := by
  refine zb C_castInto_s150 rfl ?_
  obtain ⟨b0, hb0, -⟩ := (hF.2.1 v hv).1
  refine (w_castE (μ0 := μ) (fun q hq => hs q hq) (fB F - 1) 1 0 μ (by omega) ho (by omega) (by omega) (by omega) ?_ rfl).mono (fun r μ1 hq => ⟨hq.1, by rw [hq.2]; exact hz⟩)
  show casStep F v N h 0 (-2, 0) = _
  exact if_pos (Or.inl rfl)

set_option maxRecDepth 100000 in
set_option maxHeartbeats 4000000 in
theorem x_castInto {g : zG} {d : Nat} {F : zF} {μ : zMem} {v N : Nat} {h w : Int32} (hF : okF F) (hd : 6 ≤ d) (hv : v < fV F) (hN : N ≤ 99) (ho : oX F μ) : zM g d C_castInto [.ref 6, .int (nI v), .int (nI N), .int h, .int w] μ (fun r μ' => r = some (.int (if w = 0 then (casS F v N h).1 else (casS F v N h).2)) ∧ zq sX μ μ') := by
  refine zM_of (by decide +kernel) rfl rfl (Nat.le_of_ble_eq_true rfl) rfl ?_
  have h6 := ho.b6
  refine zb C_castInto_s0 rfl ?_
  refine zcallS C_castInto_d5 k1_34 (by omega) (x_fillN_71 0) rfl rfl (Nat.le_of_ble_eq_true rfl) ?_
  rintro _ μ1 ⟨rfl, hz1, hf1⟩
  have hzx := hz1.mono (s1_sX (fun _ => rfl))
  refine zb C_castInto_s8 rfl ?_
  exact w_castD hF hd hv hN (fun μ2 y5 y6 y7 y8 y9 ho2 hz2 hr2 => w_cast150 hF hv ho2 hz2 hr2) (N + 1) 0 _ _ _ _ μ1 (by omega) (ho.q hzx) hzx (fun q hq => hf1 q (by omega))

set_option maxRecDepth 100000 in
set_option maxHeartbeats 4000000 in
theorem x_cast {g : zG} {d : Nat} {F : zF} {μ : zMem} {v nh w : Int32} (hF : okF F) (hd9 : 7 ≤ d) (ho : oX F μ) : zM g d X_cast [.ref 1, .int v, .int nh, .int w] μ (fun r μ' => r = some (.int (sCast F v nh w)) ∧ zq sX μ μ') := by
  refine zM_of (by decide +kernel) rfl rfl (Nat.le_of_ble_eq_true rfl) rfl ?_
  have hz : zq sX μ μ := zq.rf
  have h12 := ho.v12
  have h6 := ho.b6
  refine zb X_cast_s0 rfl ?_
  refine zcallV X_cast_d5 k10_128 (by omega) (x_hasVow _ ho) rfl rfl rfl (Nat.le_of_ble_eq_true rfl) ?_
  rintro _ μx ⟨rfl, hx⟩
  rw [hx]
  clear hx μx
  refine z_eq X_cast_d8 (tgt := 41) rfl (fun h8 => ?_) (fun h8 => ?_)
  · refine zb X_cast_s41 rfl ?_
    refine z_ret X_cast_d42 rfl ?_
    refine ⟨congrArg (fun z => some (Value.int z)) ?_, hz⟩
    unfold sCast
    first
      | (rw [if_pos (And.intro q1 (And.intro q2 q3)), ev, eN, nI_clamp (show N < 2 ^ 31 by omega)]; done)
      | (refine (if_neg (fun z => ?_)).symm
         first
           | exact (show ¬ isV F v from zB_eq0.mp h8) z.1
           | exact absurd h12 (Int32.not_lt.mpr z.2.1.1)
           | exact absurd h21 (Int32.not_lt.mpr z.2.1.2.1)
           | exact absurd h30 (Int32.not_lt.mpr z.2.1.2.2)
           | exact (show ¬ (0 ≤ w ∧ w ≤ 1) from zB_eq0.mp h38) z.2.2)
  · refine zb X_cast_s11 rfl ?_
    refine z_lt X_cast_d12 (tgt := 41) rfl (fun h12 => ?_) (fun h12 => ?_)
    · refine zb X_cast_s41 rfl ?_
      refine z_ret X_cast_d42 rfl ?_
      refine ⟨congrArg (fun z => some (Value.int z)) ?_, hz⟩
      unfold sCast
      first
        | (rw [if_pos (And.intro q1 (And.intro q2 q3)), ev, eN, nI_clamp (show N < 2 ^ 31 by omega)]; done)
        | (refine (if_neg (fun z => ?_)).symm
           first
             | exact (show ¬ isV F v from zB_eq0.mp h8) z.1
             | exact absurd h12 (Int32.not_lt.mpr z.2.1.1)
             | exact absurd h21 (Int32.not_lt.mpr z.2.1.2.1)
             | exact absurd h30 (Int32.not_lt.mpr z.2.1.2.2)
             | exact (show ¬ (0 ≤ w ∧ w ≤ 1) from zB_eq0.mp h38) z.2.2)
    · refine zb1 X_cast_s15 rfl (by decide) ?_
      refine z_cgt X_cast_d21 (tgt := 41) rfl (fun h21 => ?_) (fun h21 => ?_)
      · refine zb X_cast_s41 rfl ?_
        refine z_ret X_cast_d42 rfl ?_
        refine ⟨congrArg (fun z => some (Value.int z)) ?_, hz⟩
        unfold sCast
        first
          | (rw [if_pos (And.intro q1 (And.intro q2 q3)), ev, eN, nI_clamp (show N < 2 ^ 31 by omega)]; done)
          | (refine (if_neg (fun z => ?_)).symm
             first
               | exact (show ¬ isV F v from zB_eq0.mp h8) z.1
               | exact absurd h12 (Int32.not_lt.mpr z.2.1.1)
               | exact absurd h21 (Int32.not_lt.mpr z.2.1.2.1)
               | exact absurd h30 (Int32.not_lt.mpr z.2.1.2.2)
               | exact (show ¬ (0 ≤ w ∧ w ≤ 1) from zB_eq0.mp h38) z.2.2)
      · refine zb1 X_cast_s24 rfl (by decide) ?_
        refine z_cgt X_cast_d30 (tgt := 41) rfl (fun h30 => ?_) (fun h30 => ?_)
        · refine zb X_cast_s41 rfl ?_
          refine z_ret X_cast_d42 rfl ?_
          refine ⟨congrArg (fun z => some (Value.int z)) ?_, hz⟩
          unfold sCast
          first
            | (rw [if_pos (And.intro q1 (And.intro q2 q3)), ev, eN, nI_clamp (show N < 2 ^ 31 by omega)]; done)
            | (refine (if_neg (fun z => ?_)).symm
               first
                 | exact (show ¬ isV F v from zB_eq0.mp h8) z.1
                 | exact absurd h12 (Int32.not_lt.mpr z.2.1.1)
                 | exact absurd h21 (Int32.not_lt.mpr z.2.1.2.1)
                 | exact absurd h30 (Int32.not_lt.mpr z.2.1.2.2)
                 | exact (show ¬ (0 ≤ w ∧ w ≤ 1) from zB_eq0.mp h38) z.2.2)
        · refine zb X_cast_s33 rfl ?_
          refine zcallS X_cast_d35 k10_170 (by omega) (x_isWithin _ _) rfl rfl (Nat.le_of_ble_eq_true rfl) ?_
          rintro _ μx ⟨rfl, hx⟩
          rw [hx]
          clear hx μx
          refine z_ne X_cast_d38 (tgt := 43) rfl (fun h38 => ?_) (fun h38 => ?_)
          · have q1 : isV F v := zB_ne0.mp h8
            have q2 : 0 ≤ nh ∧ nh / 100 ≤ 99 ∧ hro nh ≤ 23 := And.intro (Int32.not_lt.mp h12) (And.intro (Int32.not_lt.mp h21) (Int32.not_lt.mp h30))
            have q3 : 0 ≤ w ∧ w ≤ 1 := zB_ne0.mp h38
            obtain ⟨v, hvV, rfl, ev⟩ := zix q1.1 q1.2 (by have := ho.v12; omega)
            obtain ⟨N, hN, eN⟩ := nI_of2 (M := 99) (n := 99) rfl (Int32.not_lt.mpr (d100_nn q2.1)) q2.2.1
            refine zb2 X_cast_s43 rfl (by decide) (by decide) ?_
            rw [show nh - nh / 100 * 100 = hro nh from rfl, eN]
            refine zcallV X_cast_d57 k10_261 (by omega) (x_castInto (h := hro nh) hF (by omega) hvV hN ho) rfl rfl rfl (Nat.le_of_ble_eq_true rfl) ?_
            rintro _ μ1 ⟨rfl, hz1⟩
            replace hz := hz.tr hz1
            replace ho := ho.q hz1
            clear hz1
            refine z_ret X_cast_d60 rfl ?_
            refine ⟨congrArg (fun z => some (Value.int z)) ?_, hz⟩
            unfold sCast
            first
              | (rw [if_pos (And.intro q1 (And.intro q2 q3)), ev, eN, nI_clamp (show N < 2 ^ 31 by omega)]; done)
              | (refine (if_neg (fun z => ?_)).symm
                 first
                   | exact (show ¬ isV F v from zB_eq0.mp h8) z.1
                   | exact absurd h12 (Int32.not_lt.mpr z.2.1.1)
                   | exact absurd h21 (Int32.not_lt.mpr z.2.1.2.1)
                   | exact absurd h30 (Int32.not_lt.mpr z.2.1.2.2)
                   | exact (show ¬ (0 ≤ w ∧ w ≤ 1) from zB_eq0.mp h38) z.2.2)
          · refine zb X_cast_s41 rfl ?_
            refine z_ret X_cast_d42 rfl ?_
            refine ⟨congrArg (fun z => some (Value.int z)) ?_, hz⟩
            unfold sCast
            first
              | (rw [if_pos (And.intro q1 (And.intro q2 q3)), ev, eN, nI_clamp (show N < 2 ^ 31 by omega)]; done)
              | (refine (if_neg (fun z => ?_)).symm
                 first
                   | exact (show ¬ isV F v from zB_eq0.mp h8) z.1
                   | exact absurd h12 (Int32.not_lt.mpr z.2.1.1)
                   | exact absurd h21 (Int32.not_lt.mpr z.2.1.2.1)
                   | exact absurd h30 (Int32.not_lt.mpr z.2.1.2.2)
                   | exact (show ¬ (0 ≤ w ∧ w ≤ 1) from zB_eq0.mp h38) z.2.2)
