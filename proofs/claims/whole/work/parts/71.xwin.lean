/-! the class: whom one must win back -/
abbrev wP (F : zF) (b : Nat) (day : Int32) (v : Nat) : Prop := fbell F v = nI b ∧ ¬ kept F v day
def wA (F : zF) (b : Nat) (day : Int32) : Nat := bitsN (wP F b day) (fV F)
def wm (F : zF) (b : Nat) (day h : Int32) (v : Nat) : Int32 := giv F v (nI b) 1 0 h - pu F v (fbell F v) day h
def wf (F : zF) (b : Nat) (day h : Int32) (s : Nat) (t : Int32 × Int32) : Int32 × Int32 := if nI (popN 12 s) < t.2 ∧ offs F (nI b) day h + moreS (wm F b day h) s = 0 then (nI s, nI (popN 12 s)) else t
def winI (F : zF) (b : Nat) (day h : Int32) : Int32 × Int32 := zfold (fA (wA F b day) (wf F b day h)) 0 (2 ^ fV F) (-2, 13)
def winJ (F : zF) (day h : Int32) : Nat → Nat → Int32 → Int32
  | 0, _, acc => acc
  | j + 1, b, acc => if (winI F b day h).1 < 0 then -2 else winJ F day h j (b + 1) (acc ||| (winI F b day h).1)
theorem wA_lt (F : zF) (b : Nat) (day : Int32) : wA F b day < 2 ^ fV F := bitsN_lt _ _
theorem wA_at {F : zF} {b v : Nat} {day : Int32} (h : wA F b day / 2 ^ v % 2 = 1) : v < fV F ∧ wP F b day v := by
  unfold wA at h
  rw [bitsN_at] at h
  by_cases q : v < fV F ∧ wP F b day v
  · exact q
  · rw [if_neg q] at h; exact absurd h (by decide)

set_option maxRecDepth 100000 in
set_option maxHeartbeats 4000000 in
theorem w_win1 {g : zG} {d : Nat} {F : zF} {μ0 : zMem} {b : Nat} {day h : Int32} {x6 x7 x8 x9 x10 : Option Value} {Q : Option Value → zMem → Prop} (hF : okF F) (hd : 6 ≤ d) (hQ : ∀ μ : zMem, oX F μ → zq (n1 64) μ0 μ → (∀ v, v < fV F → wP F b day v → μ.1 64 v = wm F b day h v) → zW g L_winBackIn d 91 [some (.ref 5), some (.int (nI b)), some (.int day), some (.int h), some (.int (nI (wA F b day))), some (.int (nI (fV F))), x6, x7, x8, x9, x10] [] μ Q) : ∀ (j i : Nat) (all : Int32) (μ : zMem), i + j = fV F → oX F μ → zq (n1 64) μ0 μ → (all = zfold (fun v s => if wP F b day v then s ||| bit1 v else s) 0 i 0) → ((∀ v, v < i → wP F b day v → μ.1 64 v = wm F b day h v)) → zW g L_winBackIn d 6 [some (.ref 5), some (.int (nI b)), some (.int day), some (.int h), some (.int all), some (.int (nI i)), x6, x7, x8, x9, x10] [] μ (Q) := by
  intro j
  induction j with
  | zero =>
    intro i all μ hi ho hz hv0 hv1
    have hbd := ho.v
    have h12 := ho.v12
    have h6 := ho.b6
    have hi : fV F = i := by omega
    subst hi
    refine zb L_winBackIn_s6 rfl ?_
    refine z_cge L_winBackIn_d15 (tgt := 91) rfl (fun h15 => ?_) (fun h15 => absurd (show μ.1 2 8 ≤ nI (fV F) by first | exact Int32.le_refl _ | (rw [hbd]; exact Int32.le_refl _)) h15)
    rw [hv0, bits_fold _ _ (by omega)]
    exact hQ μ ho hz hv1
  | succ j ih =>
    intro i all μ hi ho hz hv0 hv1
    have hbd := ho.v
    have h12 := ho.v12
    have h6 := ho.b6
    have hilt : i < fV F := by omega
    have ei : (nI i).toNatClampNeg = i := nI_clamp (by omega)
    have hvi : vp_in (nI i) 12 := vp_in_nI (by omega) (by omega)
    refine zb L_winBackIn_s6 rfl ?_
    refine z_cge L_winBackIn_d15 (tgt := 91) rfl (fun h15 => absurd h15 (show ¬ μ.1 2 8 ≤ nI i by first | exact nI_ge hilt (by omega) | (rw [hbd]; exact nI_ge hilt (by omega)))) (fun h15 => ?_)
    refine zb1 L_winBackIn_s18 rfl hvi ?_
    refine z_cne L_winBackIn_d29 (tgt := 85) rfl (fun h29 => ?_) (fun h29 => ?_)
    · (try rw [ho.e56, ei] at h29)
      refine zb L_winBackIn_s85 rfl ?_
      rw [nI_1]
      first
        | (have hp : wP F b day i := And.intro h29 (zB_eq0.mp h42)
           rw [ei]
           refine ih (i + 1) _ _ (by omega) (ho.q (zq.w (m := sX) rfl)) (hz.tr (zq.w rfl)) ?_ (fun v hv hpv => ?_)
           · rw [zf0, ← hv0, if_pos hp]
             rfl
           · rw [zpI_at]
             by_cases y : v = i
             · rw [if_pos y, y, ofI_giv1 F i (nI b) 0 h]
               rfl
             · rw [if_neg y]
               exact hv1b v (by omega) hpv)
        | (refine ih (i + 1) _ _ (by omega) ho hz ?_ (fun v hv hpv => ?_)
           · rw [zf0, ← hv0, if_neg]
             first
               | exact fun z => h29 z.1
               | exact fun z => z.2 (zB_ne0.mp h42)
           · by_cases y : v = i
             · exfalso
               rw [y] at hpv
               first
                 | exact h29 hpv.1
                 | exact hpv.2 (zB_ne0.mp h42)
             · exact hv1 v (by omega) hpv)
    · rw [ho.e56, ei] at h29
      refine zb L_winBackIn_s32 rfl ?_
      refine zcallV L_winBackIn_d39 k5_49 (by omega) (x_isKept _ (by omega) ho) rfl rfl rfl (Nat.le_of_ble_eq_true rfl) ?_
      rintro _ μx ⟨rfl, hx⟩
      rw [hx]
      clear hx μx
      refine z_ne L_winBackIn_d42 (tgt := 85) rfl (fun h42 => ?_) (fun h42 => ?_)
      · (try rw [ho.e56, ei] at h29)
        refine zb L_winBackIn_s85 rfl ?_
        rw [nI_1]
        first
          | (have hp : wP F b day i := And.intro h29 (zB_eq0.mp h42)
             rw [ei]
             refine ih (i + 1) _ _ (by omega) (ho.q (zq.w (m := sX) rfl)) (hz.tr (zq.w rfl)) ?_ (fun v hv hpv => ?_)
             · rw [zf0, ← hv0, if_pos hp]
               rfl
             · rw [zpI_at]
               by_cases y : v = i
               · rw [if_pos y, y, ofI_giv1 F i (nI b) 0 h]
                 rfl
               · rw [if_neg y]
                 exact hv1b v (by omega) hpv)
          | (refine ih (i + 1) _ _ (by omega) ho hz ?_ (fun v hv hpv => ?_)
             · rw [zf0, ← hv0, if_neg]
               first
                 | exact fun z => h29 z.1
                 | exact fun z => z.2 (zB_ne0.mp h42)
             · by_cases y : v = i
               · exfalso
                 rw [y] at hpv
                 first
                   | exact h29 hpv.1
                   | exact hpv.2 (zB_ne0.mp h42)
               · exact hv1 v (by omega) hpv)
      · refine zb L_winBackIn_s45 rfl ?_
        refine zcallV L_winBackIn_d69 k5_53 (by omega) (x_offIf (by omega) (by omega) ho) rfl rfl rfl (Nat.le_of_ble_eq_true rfl) ?_
        rintro _ μ1 ⟨rfl, hz1⟩
        have hv1a : ∀ v, v < i → wP F b day v → μ1.1 64 v = wm F b day h v := fun v hv hp => by rw [hz1.1 64 v rfl]; exact hv1 v hv hp
        replace hz := hz.tr (hz1.mono nS_n1)
        replace ho := ho.q (hz1.mono nS_sX)
        refine zb L_winBackIn_s72 rfl ?_
        refine zcallV L_winBackIn_d80 k5_57 (by omega) (x_offByVowN hF (by omega) hilt ho) rfl rfl rfl (Nat.le_of_ble_eq_true rfl) ?_
        rintro _ μ2 ⟨rfl, hz2⟩
        have hv1b : ∀ v, v < i → wP F b day v → μ2.1 64 v = wm F b day h v := fun v hv hp => by rw [hz2.1 64 v rfl]; exact hv1a v hv hp
        replace hz := hz.tr (hz2.mono nS_n1)
        replace ho := ho.q (hz2.mono nS_sX)
        refine zb1 L_winBackIn_s83 rfl hvi ?_
        rw [nI_1]
        first
          | (have hp : wP F b day i := And.intro h29 (zB_eq0.mp h42)
             rw [ei]
             refine ih (i + 1) _ _ (by omega) (ho.q (zq.w (m := sX) rfl)) (hz.tr (zq.w rfl)) ?_ (fun v hv hpv => ?_)
             · rw [zf0, ← hv0, if_pos hp]
               rfl
             · rw [zpI_at]
               by_cases y : v = i
               · rw [if_pos y, y, ofI_giv1 F i (nI b) 0 h]
                 rfl
               · rw [if_neg y]
                 exact hv1b v (by omega) hpv)
          | (refine ih (i + 1) _ _ (by omega) ho hz ?_ (fun v hv hpv => ?_)
             · rw [zf0, ← hv0, if_neg]
               first
                 | exact fun z => h29 z.1
                 | exact fun z => z.2 (zB_ne0.mp h42)
             · by_cases y : v = i
               · exfalso
                 rw [y] at hpv
                 first
                   | exact h29 hpv.1
                   | exact hpv.2 (zB_ne0.mp h42)
               · exact hv1 v (by omega) hpv)

set_option maxRecDepth 100000 in
set_option maxHeartbeats 4000000 in
theorem w_win2 {g : zG} {d : Nat} {F : zF} {μ0 : zMem} {b : Nat} {day h : Int32} (hd : 2 ≤ d) (h12 : fV F ≤ 12) (hm : ∀ v, v < fV F → wP F b day v → μ0.1 64 v = wm F b day h v) : ∀ (j i : Nat) (s : Nat) (t : Int32 × Int32) (x10 : Option Value) (μ : zMem), i + j = 2 ^ popN (fV F) (wA F b day) → (atS (fV F) (wA F b day) (wf F b day h) (-2, 13) i s t) → (μ = μ0) → zW g L_winBackIn d 117 [some (.ref 5), some (.int (nI b)), some (.int day), some (.int h), some (.int (nI (wA F b day))), some (.int (offs F (nI b) day h)), some (.int t.1), some (.int t.2), some (.int (nI s)), some (.int (nI i)), x10] [] μ (fun r μ' => r = some (.int (winI F b day h).1) ∧ μ' = μ0) := by
  intro j
  induction j with
  | zero =>
    intro i s t x10 μ hi  hv0 hv1
    have hA := wA_lt F b day
    have hA4 := lt_2 h12 hA
    have hp2 := pop_2 (A := wA F b day) h12
    have hs4 : s < 4096 := lt_2 h12 hv0.1
    have hi : 2 ^ popN (fV F) (wA F b day) = i := by omega
    subst hi
    refine zb L_winBackIn_s117 rfl ?_
    refine zcallS L_winBackIn_d122 k5_63 (by omega) (x_bitCount hA4) rfl rfl (Nat.le_of_ble_eq_true rfl) ?_
    rintro _ μx ⟨rfl, hx⟩
    rw [hx]
    clear hx μx
    refine zb L_winBackIn_s125 rfl ?_
    rw [shl_pop h12 hA]
    refine z_cge L_winBackIn_d126 (tgt := 178) rfl (fun h126 => ?_) (fun h126 => absurd (Int32.le_refl _) h126)
    refine zb L_winBackIn_s178 rfl ?_
    refine z_ret L_winBackIn_d180 rfl ?_
    exact ⟨by rw [atS_end hv0]; rfl, hv1⟩
  | succ j ih =>
    intro i s t x10 μ hi  hv0 hv1
    have hA := wA_lt F b day
    have hA4 := lt_2 h12 hA
    have hp2 := pop_2 (A := wA F b day) h12
    have hs4 : s < 4096 := lt_2 h12 hv0.1
    have hilt : i < 2 ^ popN (fV F) (wA F b day) := by omega
    have ei : (nI i).toNatClampNeg = i := nI_clamp (by omega)
    have hin := atS_in hv0 hilt
    have hnx := atS_next hA hv0 hilt
    have hmm : moreS (μ.1 64) s = moreS (wm F b day h) s := moreS_congr (fun v hv hb => by
      have := wA_at (sbm_bits hin.1 hb)
      rw [hv1]
      exact hm v this.1 this.2)
    refine zb L_winBackIn_s117 rfl ?_
    refine zcallS L_winBackIn_d122 k5_63 (by omega) (x_bitCount hA4) rfl rfl (Nat.le_of_ble_eq_true rfl) ?_
    rintro _ μx ⟨rfl, hx⟩
    rw [hx]
    clear hx μx
    refine zb L_winBackIn_s125 rfl ?_
    rw [shl_pop h12 hA]
    refine z_cge L_winBackIn_d126 (tgt := 178) rfl (fun h126 => absurd h126 (nI_ge hilt (by omega))) (fun h126 => ?_)
    refine zb L_winBackIn_s129 rfl ?_
    refine zcallS L_winBackIn_d131 k5_63 (by omega) (x_bitCount hs4) rfl rfl (Nat.le_of_ble_eq_true rfl) ?_
    rintro _ μx ⟨rfl, hx⟩
    rw [hx]
    clear hx μx
    refine zb L_winBackIn_s134 rfl ?_
    refine z_cge L_winBackIn_d140 (tgt := 163) rfl (fun h140 => ?_) (fun h140 => ?_)
    · refine zb L_winBackIn_s163 rfl ?_
      refine zcallS L_winBackIn_d167 k5_72 (by omega) (x_nextSet h12 hA hin.1) rfl rfl (Nat.le_of_ble_eq_true rfl) ?_
      rintro _ μx ⟨rfl, hx⟩
      rw [hx]
      clear hx μx
      refine zb L_winBackIn_s170 rfl ?_
      rw [nI_1]
      first
        | exact ih (i + 1) _ (nI s, nI (popN 12 s)) _ _ (by omega) (by rw [show wf F b day h s t = (nI s, nI (popN 12 s)) from if_pos (And.intro (Int32.not_le.mp h140) h152)] at hnx; exact hnx) hv1
        | exact ih (i + 1) _ t _ _ (by omega) (by rw [show wf F b day h s t = t from if_neg (fun z => h152 z.2)] at hnx; exact hnx) hv1
        | exact ih (i + 1) _ t _ _ (by omega) (by rw [show wf F b day h s t = t from if_neg (fun z => absurd z.1 (Int32.not_lt.mpr h140))] at hnx; exact hnx) hv1
    · refine zb L_winBackIn_s143 rfl ?_
      refine zcallV L_winBackIn_d148 k5_69 (by omega) (x_moreBy hs4) rfl rfl rfl (Nat.le_of_ble_eq_true rfl) ?_
      rintro _ μx ⟨rfl, hx⟩
      rw [hx]
      clear hx μx
      refine zb L_winBackIn_s151 rfl ?_
      rw [hmm]
      refine z_ne L_winBackIn_d152 (tgt := 163) rfl (fun h152 => ?_) (fun h152 => ?_)
      · refine zb L_winBackIn_s163 rfl ?_
        refine zcallS L_winBackIn_d167 k5_72 (by omega) (x_nextSet h12 hA hin.1) rfl rfl (Nat.le_of_ble_eq_true rfl) ?_
        rintro _ μx ⟨rfl, hx⟩
        rw [hx]
        clear hx μx
        refine zb L_winBackIn_s170 rfl ?_
        rw [nI_1]
        first
          | exact ih (i + 1) _ (nI s, nI (popN 12 s)) _ _ (by omega) (by rw [show wf F b day h s t = (nI s, nI (popN 12 s)) from if_pos (And.intro (Int32.not_le.mp h140) h152)] at hnx; exact hnx) hv1
          | exact ih (i + 1) _ t _ _ (by omega) (by rw [show wf F b day h s t = t from if_neg (fun z => h152 z.2)] at hnx; exact hnx) hv1
          | exact ih (i + 1) _ t _ _ (by omega) (by rw [show wf F b day h s t = t from if_neg (fun z => absurd z.1 (Int32.not_lt.mpr h140))] at hnx; exact hnx) hv1
      · refine zb L_winBackIn_s155 rfl ?_
        refine zcallS L_winBackIn_d167 k5_72 (by omega) (x_nextSet h12 hA hin.1) rfl rfl (Nat.le_of_ble_eq_true rfl) ?_
        rintro _ μx ⟨rfl, hx⟩
        rw [hx]
        clear hx μx
        refine zb L_winBackIn_s170 rfl ?_
        rw [nI_1]
        first
          | exact ih (i + 1) _ (nI s, nI (popN 12 s)) _ _ (by omega) (by rw [show wf F b day h s t = (nI s, nI (popN 12 s)) from if_pos (And.intro (Int32.not_le.mp h140) h152)] at hnx; exact hnx) hv1
          | exact ih (i + 1) _ t _ _ (by omega) (by rw [show wf F b day h s t = t from if_neg (fun z => h152 z.2)] at hnx; exact hnx) hv1
          | exact ih (i + 1) _ t _ _ (by omega) (by rw [show wf F b day h s t = t from if_neg (fun z => absurd z.1 (Int32.not_lt.mpr h140))] at hnx; exact hnx) hv1

set_option maxRecDepth 100000 in
set_option maxHeartbeats 4000000 in
theorem w_win91 {g : zG} {d : Nat} {F : zF} {μ0 μ : zMem} {b : Nat} {day h : Int32} {x6 x7 x8 x9 x10 : Option Value} (hF : okF F) (hd : 6 ≤ d) (ho : oX F μ) (hz : zq (n1 64) μ0 μ) (hm : (∀ v, v < fV F → wP F b day v → μ.1 64 v = wm F b day h v)) : zW g L_winBackIn d 91 [some (.ref 5), some (.int (nI b)), some (.int day), some (.int h), some (.int (nI (wA F b day))), some (.int (nI (fV F))), x6, x7, x8, x9, x10] [] μ (fun r μ' => r = some (.int (winI F b day h).1) ∧ zq sX μ0 μ') := by
  refine zb L_winBackIn_s91 rfl ?_
  refine zcallV L_winBackIn_d98 k5_60 (by omega) (x_offOfN hF (by omega) ho) rfl rfl rfl (Nat.le_of_ble_eq_true rfl) ?_
  rintro _ μ1 ⟨rfl, hz1⟩
  refine zb L_winBackIn_s101 rfl ?_
  refine (w_win2 (by omega) ho.v12 (fun v hv hp => ?_) (2 ^ popN (fV F) (wA F b day)) 0 0 (-2, 13) _ μ1 (by omega) atS_0 rfl).mono (fun r μ2 hq => ⟨hq.1, ?_⟩)
  · rw [hz1.1 64 v rfl]
    exact hm v hv hp
  · rw [hq.2]
    exact (hz.mono (n1_sX (fun _ => rfl))).tr (hz1.mono nS_sX)

set_option maxRecDepth 100000 in
set_option maxHeartbeats 4000000 in
theorem x_winBackIn {g : zG} {d : Nat} {F : zF} {μ : zMem} {b : Nat} {day h : Int32} (hF : okF F) (hd : 6 ≤ d) (ho : oX F μ) : zM g d L_winBackIn [.ref 5, .int (nI b), .int day, .int h] μ (fun r μ' => r = some (.int (winI F b day h).1) ∧ zq sX μ μ') := by
  refine zM_of (by decide +kernel) rfl rfl (Nat.le_of_ble_eq_true rfl) rfl ?_
  refine zb L_winBackIn_s0 rfl ?_
  exact w_win1 hF hd (fun μ1 ho1 hz1 hm => w_win91 hF hd ho1 hz1 hm) (fV F) 0 0 μ (by omega) ho zq.rf rfl (fun v hv => by omega)

set_option maxRecDepth 100000 in
set_option maxHeartbeats 4000000 in
theorem w_winBack {g : zG} {d : Nat} {F : zF} {μ0 : zMem} {day h R : Int32} (hF : okF F) (hd : 7 ≤ d) : ∀ (j i : Nat) (acc : Int32) (x5 : Option Value) (μ : zMem), i + j = fB F → oX F μ → zq sX μ0 μ → (winJ F day h (fB F - i) i acc = R) → zW g L_winBack d 5 [some (.ref 5), some (.int day), some (.int h), some (.int acc), some (.int (nI i)), x5] [] μ (fun r μ' => r = some (.int R) ∧ zq sX μ0 μ') := by
  intro j
  induction j with
  | zero =>
    intro i acc x5 μ hi ho hz hv0
    have hbd := ho.b
    have h12 := ho.v12
    have h6 := ho.b6
    have hi : fB F = i := by omega
    subst hi
    refine zb L_winBack_s5 rfl ?_
    refine z_cge L_winBack_d14 (tgt := 46) rfl (fun h14 => ?_) (fun h14 => absurd (show μ.1 2 7 ≤ nI (fB F) by first | exact Int32.le_refl _ | (rw [hbd]; exact Int32.le_refl _)) h14)
    refine zb L_winBack_s46 rfl ?_
    refine z_ret L_winBack_d47 rfl ?_
    rw [Nat.sub_self] at hv0
    exact ⟨by rw [← hv0]; rfl, hz⟩
  | succ j ih =>
    intro i acc x5 μ hi ho hz hv0
    have hbd := ho.b
    have h12 := ho.v12
    have h6 := ho.b6
    have hilt : i < fB F := by omega
    have ei : (nI i).toNatClampNeg = i := nI_clamp (by omega)
    rw [show fB F - i = (fB F - (i + 1)) + 1 by omega] at hv0
    simp only [winJ] at hv0
    refine zb L_winBack_s5 rfl ?_
    refine z_cge L_winBack_d14 (tgt := 46) rfl (fun h14 => absurd h14 (show ¬ μ.1 2 7 ≤ nI i by first | exact nI_ge hilt (by omega) | (rw [hbd]; exact nI_ge hilt (by omega)))) (fun h14 => ?_)
    refine zb L_winBack_s17 rfl ?_
    refine zcallV L_winBack_d22 k5_39 (by omega) (x_winBackIn hF (by omega) ho) rfl rfl rfl (Nat.le_of_ble_eq_true rfl) ?_
    rintro _ μ1 ⟨rfl, hz1⟩
    replace hz := hz.tr hz1
    replace ho := ho.q hz1
    clear hz1
    refine zb L_winBack_s25 rfl ?_
    refine z_ge L_winBack_d29 (tgt := 35) rfl (fun h29 => ?_) (fun h29 => ?_)
    · refine zb L_winBack_s35 rfl ?_
      rw [nI_1]
      rw [if_neg (Int32.not_lt.mpr h29)] at hv0
      exact ih (i + 1) _ _ _ (by omega) ho hz hv0
    · refine zb L_winBack_s32 rfl ?_
      refine z_ret L_winBack_d34 rfl ?_
      rw [if_pos (Int32.not_le.mp h29)] at hv0
      exact ⟨by rw [← hv0], hz⟩

set_option maxRecDepth 100000 in
set_option maxHeartbeats 4000000 in
theorem x_winBack {g : zG} {d : Nat} {F : zF} {μ : zMem} {day h : Int32} (hF : okF F) (hd : 7 ≤ d) (ho : oX F μ) : zM g d L_winBack [.ref 5, .int day, .int h] μ (fun r μ' => r = some (.int (winJ F day h (fB F) 0 0)) ∧ zq sX μ μ') := by
  refine zM_of (by decide +kernel) rfl rfl (Nat.le_of_ble_eq_true rfl) rfl ?_
  refine zb L_winBack_s0 rfl ?_
  exact w_winBack hF hd (fB F) 0 0 _ μ (by omega) ho zq.rf rfl
