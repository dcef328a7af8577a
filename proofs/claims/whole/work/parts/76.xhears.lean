/-! the class: sets of a bell's vows heard -/

set_option maxRecDepth 100000 in
set_option maxHeartbeats 4000000 in
theorem w_hear1 {g : zG} {d : Nat} {F : zF} {μ0 : zMem} {b : Nat} {dd h told pitch : Int32} {x10 : Option Value} {Q : Option Value → zMem → Prop} (hdd : 0 ≤ dd) (hd : 6 ≤ d) (hQ : ∀ (μ : zMem) (x9 : Option Value), oX F μ → zq (n1 64) μ0 μ → (∀ v, v < fV F → fbell F v = nI b → μ.1 64 v = lyM F dd h v) → zW g L_hear d 88 [some (.ref 5), some (.int (nI b)), some (.int h), some (.int dd), some (.int told), some (.int pitch), some (.int (nI (lyA F b))), some (.int (lyS F b h (fV F))), some (.int (nI (fV F))), x9, x10] [] μ Q) : ∀ (j i : Nat) (k : Int32) (x9 : Option Value) (μ : zMem), i + j = fV F → oX F μ → zq (n1 64) μ0 μ → (k = lyS F b h i) → ((∀ v, v < i → fbell F v = nI b → μ.1 64 v = lyM F dd h v)) → zW g L_hear d 16 [some (.ref 5), some (.int (nI b)), some (.int h), some (.int dd), some (.int told), some (.int pitch), some (.int (nI (lyA F b))), some (.int k), some (.int (nI i)), x9, x10] [] μ (Q) := by
  intro j
  induction j with
  | zero =>
    intro i k x9 μ hi ho hz hv0 hv1
    have hbd := ho.v
    have h12 := ho.v12
    have h6 := ho.b6
    have hi : fV F = i := by omega
    subst hi
    refine zb L_hear_s16 rfl ?_
    refine z_cge L_hear_d25 (tgt := 88) rfl (fun h25 => ?_) (fun h25 => absurd (show μ.1 2 8 ≤ nI (fV F) by first | exact Int32.le_refl _ | (rw [hbd]; exact Int32.le_refl _)) h25)
    rw [hv0]
    exact hQ μ _ ho hz hv1
  | succ j ih =>
    intro i k x9 μ hi ho hz hv0 hv1
    have hbd := ho.v
    have h12 := ho.v12
    have h6 := ho.b6
    have hilt : i < fV F := by omega
    have ei : (nI i).toNatClampNeg = i := nI_clamp (by omega)
    have hvi : vp_in (nI i) 12 := vp_in_nI (by omega) (by omega)
    have hA4 : lyA F b < 4096 := lt_2 h12 (lyA_lt F b)
    have hbt := bit_has (v := i) (s := lyA F b) (by omega) hA4
    refine zb L_hear_s16 rfl ?_
    refine z_cge L_hear_d25 (tgt := 88) rfl (fun h25 => absurd h25 (show ¬ μ.1 2 8 ≤ nI i by first | exact nI_ge hilt (by omega) | (rw [hbd]; exact nI_ge hilt (by omega)))) (fun h25 => ?_)
    refine zb L_hear_s28 rfl ?_
    refine z_cne L_hear_d36 (tgt := 82) rfl (fun h36 => ?_) (fun h36 => ?_)
    · refine zb L_hear_s82 rfl ?_
      rw [nI_1]
      first
        | (have hp : fbell F i = nI b := (lyA_at.mp (hbt.mp h36)).2
           have e1 : ofI F i (nI b) (-1) h = lyK F h i := by rw [ofI_giv1 F i (nI b) 0 h, ← hp]; rfl
           have e2 : ofI F i (nI b) dd h = lyB F dd h i := by rw [ofI_giv0 F i (nI b) dd h hdd, ← hp]; rfl
           rw [ei, e1, e2]
           refine ih (i + 1) _ _ _ (by omega) (ho.q (zq.w (m := sX) rfl)) (hz.tr (zq.w rfl)) ?_ (fun v hv hpv => ?_)
           · unfold lyS at hv0 ⊢
             rw [zsum_s, ← hv0, if_pos hp]
           · rw [zpI_at]
             by_cases y : v = i
             · rw [if_pos y, y]
               rfl
             · rw [if_neg y]
               exact hv1b v (by omega) hpv)
        | (have hp : ¬ fbell F i = nI b := fun z => h36 (hbt.mpr (lyA_at.mpr ⟨hilt, z⟩))
           refine ih (i + 1) _ _ _ (by omega) ho hz ?_ (fun v hv hpv => ?_)
           · unfold lyS at hv0 ⊢
             rw [zsum_s, ← hv0, if_neg hp, Int32.add_zero]
           · by_cases y : v = i
             · exfalso
               rw [y] at hpv
               exact hp hpv
             · exact hv1 v (by omega) hpv)
    · refine zb L_hear_s39 rfl ?_
      refine zcallV L_hear_d48 k5_53 (by omega) (x_offIf (by omega) (by omega) ho) rfl rfl rfl (Nat.le_of_ble_eq_true rfl) ?_
      rintro _ μ1 ⟨rfl, hz1⟩
      have hv1a : ∀ v, v < i → fbell F v = nI b → μ1.1 64 v = lyM F dd h v := fun v hv hp => by rw [hz1.1 64 v rfl]; exact hv1 v hv hp
      replace hz := hz.tr (hz1.mono nS_n1)
      replace ho := ho.q (hz1.mono nS_sX)
      refine zb L_hear_s51 rfl ?_
      refine zcallV L_hear_d75 k5_53 (by omega) (x_offIf (by omega) (by omega) ho) rfl rfl rfl (Nat.le_of_ble_eq_true rfl) ?_
      rintro _ μ2 ⟨rfl, hz2⟩
      have hv1b : ∀ v, v < i → fbell F v = nI b → μ2.1 64 v = lyM F dd h v := fun v hv hp => by rw [hz2.1 64 v rfl]; exact hv1a v hv hp
      replace hz := hz.tr (hz2.mono nS_n1)
      replace ho := ho.q (hz2.mono nS_sX)
      refine zb1 L_hear_s78 rfl hvi ?_
      rw [nI_1]
      first
        | (have hp : fbell F i = nI b := (lyA_at.mp (hbt.mp h36)).2
           have e1 : ofI F i (nI b) (-1) h = lyK F h i := by rw [ofI_giv1 F i (nI b) 0 h, ← hp]; rfl
           have e2 : ofI F i (nI b) dd h = lyB F dd h i := by rw [ofI_giv0 F i (nI b) dd h hdd, ← hp]; rfl
           rw [ei, e1, e2]
           refine ih (i + 1) _ _ _ (by omega) (ho.q (zq.w (m := sX) rfl)) (hz.tr (zq.w rfl)) ?_ (fun v hv hpv => ?_)
           · unfold lyS at hv0 ⊢
             rw [zsum_s, ← hv0, if_pos hp]
           · rw [zpI_at]
             by_cases y : v = i
             · rw [if_pos y, y]
               rfl
             · rw [if_neg y]
               exact hv1b v (by omega) hpv)
        | (have hp : ¬ fbell F i = nI b := fun z => h36 (hbt.mpr (lyA_at.mpr ⟨hilt, z⟩))
           refine ih (i + 1) _ _ _ (by omega) ho hz ?_ (fun v hv hpv => ?_)
           · unfold lyS at hv0 ⊢
             rw [zsum_s, ← hv0, if_neg hp, Int32.add_zero]
           · by_cases y : v = i
             · exfalso
               rw [y] at hpv
               exact hp hpv
             · exact hv1 v (by omega) hpv)

set_option maxRecDepth 100000 in
set_option maxHeartbeats 4000000 in
theorem w_hear2 {g : zG} {d : Nat} {F : zF} {μ0 : zMem} {b : Nat} {dd h told pitch : Int32} {l0 : Int32} (hF : okF F) (hd : 2 ≤ d) (hbB : b < fB F) (hm : ∀ v, v < fV F → fbell F v = nI b → μ0.1 64 v = lyM F dd h v) : ∀ (j i : Nat) (s : Nat) (t : lyT) (x10 : Option Value) (μ : zMem), i + j = 2 ^ popN (fV F) (lyA F b) → oX F μ → (atS (fV F) (lyA F b) (lyF F b dd h told pitch) (0, 0, nI (lyA F b), 0, l0, fun _ => 0) i s t) → (zq lyQ μ0 μ) → (lyR t μ) → zW g L_hear d 123 [some (.ref 5), some (.int (nI b)), some (.int h), some (.int dd), some (.int told), some (.int pitch), some (.int (nI (lyA F b))), some (.int (lyS F b h (fV F))), some (.int (nI s)), some (.int (nI i)), x10] [] μ (fun r μ' => r = none ∧ zq lyQ μ0 μ' ∧ lyR (lyI F b dd h told pitch l0) μ') := by
  intro j
  induction j with
  | zero =>
    intro i s t x10 μ hi ho hv0 hv1 hv2
    have h12 := ho.v12
    have h6 := ho.b6
    have hA := lyA_lt F b
    have hA4 := lt_2 h12 hA
    have hp2 := pop_2 (A := lyA F b) h12
    have hs4 : s < 4096 := lt_2 h12 hv0.1
    have hi : 2 ^ popN (fV F) (lyA F b) = i := by omega
    subst hi
    refine zb L_hear_s123 rfl ?_
    refine zcallS L_hear_d128 k5_63 (by omega) (x_bitCount hA4) rfl rfl (Nat.le_of_ble_eq_true rfl) ?_
    rintro _ μx ⟨rfl, hx⟩
    rw [hx]
    clear hx μx
    refine zb L_hear_s131 rfl ?_
    rw [shl_pop h12 hA]
    refine z_cge L_hear_d132 (tgt := 191) rfl (fun h132 => ?_) (fun h132 => absurd (Int32.le_refl _) h132)
    refine z_retV L_hear_d191 rfl ?_
    exact ⟨rfl, hv1, by rw [atS_end hv0] at hv2; exact hv2⟩
  | succ j ih =>
    intro i s t x10 μ hi ho hv0 hv1 hv2
    have h12 := ho.v12
    have h6 := ho.b6
    have hA := lyA_lt F b
    have hA4 := lt_2 h12 hA
    have hp2 := pop_2 (A := lyA F b) h12
    have hs4 : s < 4096 := lt_2 h12 hv0.1
    have hilt : i < 2 ^ popN (fV F) (lyA F b) := by omega
    have ei : (nI i).toNatClampNeg = i := nI_clamp (by omega)
    have e54 := ho.e54
    have hin := atS_in hv0 hilt
    have hnx := atS_next hA hv0 hilt
    have hvb : vp_in (nI b) 6 := vp_in_nI (by omega) (by omega)
    have eb : (nI b).toNatClampNeg = b := nI_clamp (by omega)
    obtain ⟨p, hp1, hp2⟩ := lyO_in (dd := dd) (h := h) hF h12 hin.1
    have hmm : lyS F b h (fV F) + moreS (μ.1 64) s = lyO F b dd h s := by
      unfold lyO
      refine congrArg (fun z => lyS F b h (fV F) + z) (moreS_congr (fun v hv hb => ?_))
      have := lyA_at.mp (sbm_bits hin.1 hb)
      rw [hv1.1 64 v rfl]
      exact hm v this.1 this.2
    refine zb L_hear_s123 rfl ?_
    refine zcallS L_hear_d128 k5_63 (by omega) (x_bitCount hA4) rfl rfl (Nat.le_of_ble_eq_true rfl) ?_
    rintro _ μx ⟨rfl, hx⟩
    rw [hx]
    clear hx μx
    refine zb L_hear_s131 rfl ?_
    rw [shl_pop h12 hA]
    refine z_cge L_hear_d132 (tgt := 191) rfl (fun h132 => absurd h132 (nI_ge hilt (by omega))) (fun h132 => ?_)
    refine zb L_hear_s135 rfl ?_
    refine zcallV L_hear_d140 k5_69 (by omega) (x_moreBy hs4) rfl rfl rfl (Nat.le_of_ble_eq_true rfl) ?_
    rintro _ μx ⟨rfl, hx⟩
    rw [hx]
    clear hx μx
    refine zb L_hear_s143 rfl ?_
    rw [hmm]
    refine z_eq L_hear_d148 (tgt := 168) rfl (fun h148 => ?_) (fun h148 => ?_)
    · refine zb L_hear_s168 rfl ?_
      refine zcallV L_hear_d173 k5_100 (by omega) (x_note hp1 hp2 hv2) rfl rfl rfl (Nat.le_of_ble_eq_true rfl) ?_
      rintro _ μ1 ⟨rfl, hz1, hr1⟩
      replace hv1 := hv1.tr hz1
      replace ho := ho.q (hz1.mono lyQ_sX)
      replace hv2 := hr1
      refine zb L_hear_s176 rfl ?_
      refine zcallS L_hear_d180 k5_72 (by omega) (x_nextSet h12 hA hin.1) rfl rfl (Nat.le_of_ble_eq_true rfl) ?_
      rintro _ μx ⟨rfl, hx⟩
      rw [hx]
      clear hx μx
      refine zb L_hear_s183 rfl ?_
      rw [nI_1]
      (try rw [e54, eb] at h165)
      first
        | exact ih (i + 1) _ (lyN (nI s) (lyO F b dd h s) t) _ _ (by omega) ho (by rw [show lyF F b dd h told pitch s t = lyN (nI s) (lyO F b dd h s) t from if_pos (Or.inl h148)] at hnx; exact hnx) hv1 hv2
        | exact ih (i + 1) _ (lyN (nI s) (lyO F b dd h s) t) _ _ (by omega) ho (by rw [show lyF F b dd h told pitch s t = lyN (nI s) (lyO F b dd h s) t from if_pos (Or.inr h165)] at hnx; exact hnx) hv1 hv2
        | exact ih (i + 1) _ t _ _ (by omega) ho (by rw [show lyF F b dd h told pitch s t = t from if_neg (fun z => z.elim h148 h165)] at hnx; exact hnx) hv1 hv2
    · refine zb1 L_hear_s151 rfl hvb ?_
      refine z_cne L_hear_d165 (tgt := 176) rfl (fun h165 => ?_) (fun h165 => ?_)
      · refine zb L_hear_s176 rfl ?_
        refine zcallS L_hear_d180 k5_72 (by omega) (x_nextSet h12 hA hin.1) rfl rfl (Nat.le_of_ble_eq_true rfl) ?_
        rintro _ μx ⟨rfl, hx⟩
        rw [hx]
        clear hx μx
        refine zb L_hear_s183 rfl ?_
        rw [nI_1]
        (try rw [e54, eb] at h165)
        first
          | exact ih (i + 1) _ (lyN (nI s) (lyO F b dd h s) t) _ _ (by omega) ho (by rw [show lyF F b dd h told pitch s t = lyN (nI s) (lyO F b dd h s) t from if_pos (Or.inl h148)] at hnx; exact hnx) hv1 hv2
          | exact ih (i + 1) _ (lyN (nI s) (lyO F b dd h s) t) _ _ (by omega) ho (by rw [show lyF F b dd h told pitch s t = lyN (nI s) (lyO F b dd h s) t from if_pos (Or.inr h165)] at hnx; exact hnx) hv1 hv2
          | exact ih (i + 1) _ t _ _ (by omega) ho (by rw [show lyF F b dd h told pitch s t = t from if_neg (fun z => z.elim h148 h165)] at hnx; exact hnx) hv1 hv2
      · refine zb L_hear_s168 rfl ?_
        refine zcallV L_hear_d173 k5_100 (by omega) (x_note hp1 hp2 hv2) rfl rfl rfl (Nat.le_of_ble_eq_true rfl) ?_
        rintro _ μ1 ⟨rfl, hz1, hr1⟩
        replace hv1 := hv1.tr hz1
        replace ho := ho.q (hz1.mono lyQ_sX)
        replace hv2 := hr1
        refine zb L_hear_s176 rfl ?_
        refine zcallS L_hear_d180 k5_72 (by omega) (x_nextSet h12 hA hin.1) rfl rfl (Nat.le_of_ble_eq_true rfl) ?_
        rintro _ μx ⟨rfl, hx⟩
        rw [hx]
        clear hx μx
        refine zb L_hear_s183 rfl ?_
        rw [nI_1]
        (try rw [e54, eb] at h165)
        first
          | exact ih (i + 1) _ (lyN (nI s) (lyO F b dd h s) t) _ _ (by omega) ho (by rw [show lyF F b dd h told pitch s t = lyN (nI s) (lyO F b dd h s) t from if_pos (Or.inl h148)] at hnx; exact hnx) hv1 hv2
          | exact ih (i + 1) _ (lyN (nI s) (lyO F b dd h s) t) _ _ (by omega) ho (by rw [show lyF F b dd h told pitch s t = lyN (nI s) (lyO F b dd h s) t from if_pos (Or.inr h165)] at hnx; exact hnx) hv1 hv2
          | exact ih (i + 1) _ t _ _ (by omega) ho (by rw [show lyF F b dd h told pitch s t = t from if_neg (fun z => z.elim h148 h165)] at hnx; exact hnx) hv1 hv2

set_option maxRecDepth 100000 in
set_option maxHeartbeats 4000000 in
theorem w_hear88 {g : zG} {d : Nat} {F : zF} {μ0 μ : zMem} {b : Nat} {dd h told pitch : Int32} {x9 x10 : Option Value} (hF : okF F) (hd : 6 ≤ d) (hbB : b < fB F) (ho : oX F μ) (hz : zq (n1 64) μ0 μ) (hm : (∀ v, v < fV F → fbell F v = nI b → μ.1 64 v = lyM F dd h v)) : zW g L_hear d 88 [some (.ref 5), some (.int (nI b)), some (.int h), some (.int dd), some (.int told), some (.int pitch), some (.int (nI (lyA F b))), some (.int (lyS F b h (fV F))), some (.int (nI (fV F))), x9, x10] [] μ (fun r μ' => r = none ∧ zq sX μ0 μ' ∧ ∃ l0, lyR (lyI F b dd h told pitch l0) μ') := by
  refine zb L_hear_s88 rfl ?_
  refine zcallS L_hear_d93 k5_79 (by omega) (x_fillN_65 0) rfl rfl (Nat.le_of_ble_eq_true rfl) ?_
  rintro _ μ1 ⟨rfl, hz1, hf1⟩
  refine zb L_hear_s96 rfl ?_
  have hq2 : zq lyQ μ1 (zpI (zpI (zpI (zpI μ1 5 6 0) 5 7 0) 5 8 (nI (lyA F b))) 5 9 0) := (((zq.rf.put rfl).put rfl).put rfl).put rfl
  have hzx := hz1.mono (s1_sX (fun _ => rfl))
  refine (w_hear2 (l0 := μ1.1 5 10) hF (by omega) hbB (fun v hv hp => ?_) (2 ^ popN (fV F) (lyA F b)) 0 0 (0, 0, nI (lyA F b), 0, μ1.1 5 10, fun _ => 0) _ _ (by omega) ((ho.q hzx).q (hq2.mono lyQ_sX)) atS_0 zq.rf ?_).mono (fun r μ2 hq => ⟨hq.1, ?_, _, hq.2.2⟩)
  · rw [hq2.1 64 v rfl, hz1.1 64 v rfl]
    exact hm v hv hp
  · refine ⟨?_, ?_, ?_, ?_, ?_, fun p hp => ?_⟩
    · simp (disch := decide) only [zpI_ne, zpI_at, Nat.reduceEqDiff, reduceIte]
    · simp (disch := decide) only [zpI_ne, zpI_at, Nat.reduceEqDiff, reduceIte]
    · simp (disch := decide) only [zpI_ne, zpI_at, Nat.reduceEqDiff, reduceIte]
    · simp (disch := decide) only [zpI_ne, zpI_at, Nat.reduceEqDiff, reduceIte]
    · simp (disch := decide) only [zpI_ne, zpI_at, Nat.reduceEqDiff, reduceIte]
    · simp (disch := decide) only [zpI_ne]
      exact hf1 p hp
  · exact (((hz.mono (n1_sX (fun _ => rfl))).tr hzx).tr (hq2.mono lyQ_sX)).tr (hq.2.1.mono lyQ_sX)

set_option maxRecDepth 100000 in
set_option maxHeartbeats 4000000 in
theorem x_hear {g : zG} {d : Nat} {F : zF} {μ : zMem} {b : Nat} {dd h told pitch : Int32} (hF : okF F) (hdd : 0 ≤ dd) (hd : 6 ≤ d) (hbB : b < fB F) (ho : oX F μ) : zM g d L_hear [.ref 5, .int (nI b), .int h, .int dd, .int told, .int pitch] μ (fun r μ' => r = none ∧ zq sX μ μ' ∧ ∃ l0, lyR (lyI F b dd h told pitch l0) μ') := by
  refine zM_of (by decide +kernel) rfl rfl (Nat.le_of_ble_eq_true rfl) rfl ?_
  have h12 := ho.v12
  refine zb L_hear_s0 rfl ?_
  refine zcallV L_hear_d5 k5_76 (by omega) (x_vowsIn _ ho) rfl rfl rfl (Nat.le_of_ble_eq_true rfl) ?_
  rintro _ μx ⟨rfl, hx⟩
  rw [hx]
  clear hx μx
  refine zb L_hear_s8 rfl ?_
  rw [set_is h12 b]
  exact w_hear1 hdd hd (fun μ1 x9 ho1 hz1 hm => w_hear88 hF hd hbB ho1 hz1 hm) (fV F) 0 0 _ μ (by omega) ho zq.rf rfl (fun v hv => by omega)
