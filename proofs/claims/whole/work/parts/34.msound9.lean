/-! the reference: years by draws -/
def zush (z : Int32) : Int32 := (z.toUInt32 >>> ((8 : Int32).toUInt32 &&& Int32.toUInt32 31)).toInt32
def drZ (z : Int32) : Int32 := z * 1103515245 + 12345
def drV (fl dk : Int32) (v : Nat) (t : Int32 × (Nat → Int32)) : Int32 × (Nat → Int32) := (drZ t.1, if zrem (zush (drZ t.1)) 12 < fl then fu t.2 v (if t.2 v = 999 then dk else 999) else t.2)
def drK (V : Nat) (fl day : Int32) (k : Nat) (t : Int32 × (Nat → Int32)) : Int32 × (Nat → Int32) := zfold (drV fl (day + nI k)) 0 V t
def drY (V : Nat) (fl day : Int32) (m : Nat) (z : Int32) : Int32 × (Nat → Int32) := zfold (drK V fl day) 0 m (z, fun _ => 999)
def drT (F : zF) (last : Int32) (since : Nat → Int32) (b v : Nat) : Int32 := if fbell F v = nI b then giv F v (nI b) (zB (since v = 999)) (last - since v) 12 else 0
def drO (F : zF) (last : Int32) (since : Nat → Int32) : Int32 := zsum (fun b => zB (¬ zsum (drT F last since b) (fV F) = 0)) (fB F)
def drG (F : zF) (since : Nat → Int32) : Int32 := zsum (fun v => zB (¬ since v = 999)) (fV F)
def drS (F : zF) (fl day : Int32) (m : Nat) (_ : Nat) (t : Int32 × Int32 × Int32) : Int32 × Int32 × Int32 := ((drY (fV F) fl day m t.1).1, t.2.1 + drO F (day + nI m - 1) (drY (fV F) fl day m t.1).2, t.2.2 + drG F (drY (fV F) fl day m t.1).2)
def drawS (F : zF) (fl seed day : Int32) (years m : Nat) : Int32 × Int32 × Int32 := zfold (drS F fl day m) 0 years (seed, 0, 0)

set_option maxRecDepth 100000 in
set_option maxHeartbeats 4000000 in
theorem w_M_dr0 {g : zG} {d : Nat} {F : zF} {μ0 : zMem} {seed nm day w fl : Int32} {ys m y : Nat} {z8 z9 z : Int32} {x12 x13 : Option Value} {Q : Option Value → zMem → Prop} (hQ : ∀ μ : zMem, oM F μ → zq sM μ0 μ → (∀ v, v < fV F → μ.1 44 v = 999) → zW g M_drawn d 120 [some (.ref 0), some (.int seed), some (.int nm), some (.int day), some (.int w), some (.int (nI ys)), some (.int (nI m)), some (.int z), some (.int z8), some (.int z9), some (.int (nI y)), some (.int 0), x12, x13] [] μ Q) : ∀ (j i : Nat) (μ : zMem), i + j = fV F → oM F μ → zq sM μ0 μ → (∀ v, v < i → μ.1 44 v = 999) → zW g M_drawn d 92 [some (.ref 0), some (.int seed), some (.int nm), some (.int day), some (.int w), some (.int (nI ys)), some (.int (nI m)), some (.int z), some (.int z8), some (.int z9), some (.int (nI y)), some (.int (nI i)), x12, x13] [] μ (Q) := by
  intro j
  induction j with
  | zero =>
    intro i  μ hi ho hz hv0
    have hbd := ho.v
    have h12 := ho.v12
    have h6 := ho.b6
    have hi : fV F = i := by omega
    subst hi
    refine zb M_drawn_s92 rfl ?_
    refine z_cge M_drawn_d98 (tgt := 117) rfl (fun h98 => ?_) (fun h98 => absurd (show μ.1 0 1 ≤ nI (fV F) by first | exact Int32.le_refl _ | (rw [hbd]; exact Int32.le_refl _)) h98)
    refine zb M_drawn_s117 rfl ?_
    exact hQ _ ho hz hv0
  | succ j ih =>
    intro i  μ hi ho hz hv0
    have hbd := ho.v
    have h12 := ho.v12
    have h6 := ho.b6
    have hilt : i < fV F := by omega
    have ei : (nI i).toNatClampNeg = i := nI_clamp (by omega)
    refine zb M_drawn_s92 rfl ?_
    refine z_cge M_drawn_d98 (tgt := 117) rfl (fun h98 => absurd h98 (show ¬ μ.1 0 1 ≤ nI i by first | exact nI_ge hilt (by omega) | (rw [hbd]; exact nI_ge hilt (by omega)))) (fun h98 => ?_)
    refine zb1 M_drawn_s101 rfl (by first | assumption | exact vp_in_nI (by omega) (by omega) | decide) ?_
    rw [nI_1, ei]
    refine ih (i + 1) _ (by omega) (ho.q (zq.w rfl)) (hz.tr (zq.w rfl)) (fun v hv => ?_)
    rw [zpI_at]
    by_cases q : v = i
    · rw [if_pos q]
    · rw [if_neg q]
      exact hv0 v (by omega)

set_option maxRecDepth 100000 in
set_option maxHeartbeats 4000000 in
theorem w_M_dr1 {g : zG} {d : Nat} {F : zF} {μ0 : zMem} {seed nm day w fl : Int32} {ys m y : Nat} (h02 : μ0.1 0 2 = fl) {z8 z9 : Int32} {k : Nat} {x13 : Option Value} {t0 : Int32 × (Nat → Int32)} {Q : Option Value → zMem → Prop} (hQ : ∀ (z : Int32) (sc : Nat → Int32) (μ : zMem), oM F μ → zq sM μ0 μ → (∀ v, v < fV F → μ.1 44 v = sc v) → (z, sc) = zfold (drV fl (day + nI k)) 0 (fV F) t0 → zW g M_drawn d 202 [some (.ref 0), some (.int seed), some (.int nm), some (.int day), some (.int w), some (.int (nI ys)), some (.int (nI m)), some (.int z), some (.int z8), some (.int z9), some (.int (nI y)), some (.int (nI k)), some (.int (nI (fV F))), x13] [] μ Q) : ∀ (j i : Nat) (z : Int32) (sc : Nat → Int32) (μ : zMem), i + j = fV F → oM F μ → zq sM μ0 μ → (∀ v, v < fV F → μ.1 44 v = sc v) → ((z, sc) = zfold (drV fl (day + nI k)) 0 i t0) → zW g M_drawn d 130 [some (.ref 0), some (.int seed), some (.int nm), some (.int day), some (.int w), some (.int (nI ys)), some (.int (nI m)), some (.int z), some (.int z8), some (.int z9), some (.int (nI y)), some (.int (nI k)), some (.int (nI i)), x13] [] μ (Q) := by
  intro j
  induction j with
  | zero =>
    intro i z sc μ hi ho hz hv0 hv1
    have hbd := ho.v
    have h12 := ho.v12
    have h6 := ho.b6
    have hfl : μ.1 0 2 = fl := by rw [hz.1 0 2 rfl]; exact h02
    have hi : fV F = i := by omega
    subst hi
    refine zb M_drawn_s130 rfl ?_
    refine z_cge M_drawn_d136 (tgt := 202) rfl (fun h136 => ?_) (fun h136 => absurd (show μ.1 0 1 ≤ nI (fV F) by first | exact Int32.le_refl _ | (rw [hbd]; exact Int32.le_refl _)) h136)
    exact hQ _ _ _ ho hz hv0 hv1
  | succ j ih =>
    intro i z sc μ hi ho hz hv0 hv1
    have hbd := ho.v
    have h12 := ho.v12
    have h6 := ho.b6
    have hfl : μ.1 0 2 = fl := by rw [hz.1 0 2 rfl]; exact h02
    have hilt : i < fV F := by omega
    have ei : (nI i).toNatClampNeg = i := nI_clamp (by omega)
    have hvi : vp_in (nI i) 12 := vp_in_nI (by omega) (by omega)
    refine zb M_drawn_s130 rfl ?_
    refine z_cge M_drawn_d136 (tgt := 202) rfl (fun h136 => absurd h136 (show ¬ μ.1 0 1 ≤ nI i by first | exact nI_ge hilt (by omega) | (rw [hbd]; exact nI_ge hilt (by omega)))) (fun h136 => ?_)
    refine zb1 M_drawn_s139 rfl (by first | exact hvi | decide) ?_
    refine z_cge M_drawn_d163 (tgt := 196) rfl (fun h163 => ?_) (fun h163 => ?_)
    · refine zb M_drawn_s196 rfl ?_
      rw [nI_1]
      rw [hfl] at h163
      first
        | (refine ih (i + 1) (drZ z) sc _ (by omega) ho hz hv0 ?_
           rw [zf0, ← hv1]
           unfold drV
           dsimp only
           rw [if_neg (show ¬ zrem (zush (drZ z)) 12 < fl from Int32.not_lt.mpr h163)])
        | (rw [ei, hv0 i hilt] at h182
           rw [ei]
           refine ih (i + 1) (drZ z) (fu sc i (if sc i = 999 then day + nI k else 999)) _ (by omega) (ho.q (zq.w rfl)) (hz.tr (zq.w rfl)) (fun v hv => ?_) ?_
           · rw [zpI_at]
             unfold fu
             first | rw [if_pos h182] | rw [if_neg h182]
             by_cases q : v = i
             · rw [if_pos q, if_pos q]
             · rw [if_neg q, if_neg q]
               exact hv0 v hv
           · rw [zf0, ← hv1]
             unfold drV
             dsimp only
             rw [if_pos (show zrem (zush (drZ z)) 12 < fl from Int32.not_le.mp h163)])
    · refine zb1 M_drawn_s166 rfl (by first | exact hvi | decide) ?_
      refine z_cne M_drawn_d182 (tgt := 192) rfl (fun h182 => ?_) (fun h182 => ?_)
      · refine zb1 M_drawn_s192 rfl (by first | exact hvi | decide) ?_
        rw [nI_1]
        rw [hfl] at h163
        first
          | (refine ih (i + 1) (drZ z) sc _ (by omega) ho hz hv0 ?_
             rw [zf0, ← hv1]
             unfold drV
             dsimp only
             rw [if_neg (show ¬ zrem (zush (drZ z)) 12 < fl from Int32.not_lt.mpr h163)])
          | (rw [ei, hv0 i hilt] at h182
             rw [ei]
             refine ih (i + 1) (drZ z) (fu sc i (if sc i = 999 then day + nI k else 999)) _ (by omega) (ho.q (zq.w rfl)) (hz.tr (zq.w rfl)) (fun v hv => ?_) ?_
             · rw [zpI_at]
               unfold fu
               first | rw [if_pos h182] | rw [if_neg h182]
               by_cases q : v = i
               · rw [if_pos q, if_pos q]
               · rw [if_neg q, if_neg q]
                 exact hv0 v hv
             · rw [zf0, ← hv1]
               unfold drV
               dsimp only
               rw [if_pos (show zrem (zush (drZ z)) 12 < fl from Int32.not_le.mp h163)])
      · refine zb1 M_drawn_s185 rfl (by first | exact hvi | decide) ?_
        rw [nI_1]
        rw [hfl] at h163
        first
          | (refine ih (i + 1) (drZ z) sc _ (by omega) ho hz hv0 ?_
             rw [zf0, ← hv1]
             unfold drV
             dsimp only
             rw [if_neg (show ¬ zrem (zush (drZ z)) 12 < fl from Int32.not_lt.mpr h163)])
          | (rw [ei, hv0 i hilt] at h182
             rw [ei]
             refine ih (i + 1) (drZ z) (fu sc i (if sc i = 999 then day + nI k else 999)) _ (by omega) (ho.q (zq.w rfl)) (hz.tr (zq.w rfl)) (fun v hv => ?_) ?_
             · rw [zpI_at]
               unfold fu
               first | rw [if_pos h182] | rw [if_neg h182]
               by_cases q : v = i
               · rw [if_pos q, if_pos q]
               · rw [if_neg q, if_neg q]
                 exact hv0 v hv
             · rw [zf0, ← hv1]
               unfold drV
               dsimp only
               rw [if_pos (show zrem (zush (drZ z)) 12 < fl from Int32.not_le.mp h163)])

set_option maxRecDepth 100000 in
set_option maxHeartbeats 4000000 in
theorem w_M_dr2 {g : zG} {d : Nat} {F : zF} {μ0 : zMem} {seed nm day w fl : Int32} {ys m y : Nat} (h02 : μ0.1 0 2 = fl) (hm : m < 2 ^ 30) {z8 z9 z0 : Int32} {x13 : Option Value} {Q : Option Value → zMem → Prop} (hQ : ∀ (z : Int32) (sc : Nat → Int32) (μ : zMem) (x12 : Option Value), oM F μ → zq sM μ0 μ → (∀ v, v < fV F → μ.1 44 v = sc v) → (z, sc) = drY (fV F) fl day m z0 → zW g M_drawn d 208 [some (.ref 0), some (.int seed), some (.int nm), some (.int day), some (.int w), some (.int (nI ys)), some (.int (nI m)), some (.int z), some (.int z8), some (.int z9), some (.int (nI y)), some (.int (nI m)), x12, x13] [] μ Q) : ∀ (j i : Nat) (z : Int32) (sc : Nat → Int32) (x12 : Option Value) (μ : zMem), i + j = m → oM F μ → zq sM μ0 μ → (∀ v, v < fV F → μ.1 44 v = sc v) → ((z, sc) = zfold (drK (fV F) fl day) 0 i (z0, fun _ => 999)) → zW g M_drawn d 120 [some (.ref 0), some (.int seed), some (.int nm), some (.int day), some (.int w), some (.int (nI ys)), some (.int (nI m)), some (.int z), some (.int z8), some (.int z9), some (.int (nI y)), some (.int (nI i)), x12, x13] [] μ (Q) := by
  intro j
  induction j with
  | zero =>
    intro i z sc x12 μ hi ho hz hv0 hv1
    have hi : m = i := by omega
    subst hi
    refine zb M_drawn_s120 rfl ?_
    refine z_cge M_drawn_d124 (tgt := 208) rfl (fun h124 => ?_) (fun h124 => absurd (Int32.le_refl _) h124)
    exact hQ _ _ _ _ ho hz hv0 hv1
  | succ j ih =>
    intro i z sc x12 μ hi ho hz hv0 hv1
    have hilt : i < m := by omega
    have ei : (nI i).toNatClampNeg = i := nI_clamp (by omega)
    refine zb M_drawn_s120 rfl ?_
    refine z_cge M_drawn_d124 (tgt := 208) rfl (fun h124 => absurd h124 (show ¬ nI m ≤ nI i from nI_ge hilt (by omega))) (fun h124 => ?_)
    refine zb M_drawn_s127 rfl ?_
    refine w_M_dr1 h02 (t0 := (z, sc)) (fun z1 sc1 μ1 ho1 hz1 hs1 he => ?_) (fV F) 0 z sc μ (by omega) ho hz hv0 rfl
    refine zb M_drawn_s202 rfl ?_
    rw [nI_1]
    exact ih (i + 1) z1 sc1 _ μ1 (by omega) ho1 hz1 hs1 (by rw [zf0, ← hv1]; exact he)

set_option maxRecDepth 100000 in
set_option maxHeartbeats 4000000 in
theorem w_M_dr3 {g : zG} {d : Nat} {F : zF} {μ0 : zMem} {seed nm day w fl : Int32} {ys m y : Nat} (hd : 46 ≤ d) {z z8 z9 : Int32} {b : Nat} {sc : Nat → Int32} {Q : Option Value → zMem → Prop} (hQ : ∀ (μ : zMem), oM F μ → zq sM μ0 μ → (∀ v, v < fV F → μ.1 44 v = sc v) → zW g M_drawn d 300 [some (.ref 0), some (.int seed), some (.int nm), some (.int day), some (.int w), some (.int (nI ys)), some (.int (nI m)), some (.int z), some (.int z8), some (.int z9), some (.int (nI y)), some (.int (nI b)), some (.int (zsum (drT F (day + nI m - 1) sc b) (fV F))), some (.int (nI (fV F)))] [] μ Q) : ∀ (j i : Nat) (acc : Int32) (μ : zMem), i + j = fV F → oM F μ → zq sM μ0 μ → (∀ v, v < fV F → μ.1 44 v = sc v) → (acc = zsum (drT F (day + nI m - 1) sc b) i) → zW g M_drawn d 226 [some (.ref 0), some (.int seed), some (.int nm), some (.int day), some (.int w), some (.int (nI ys)), some (.int (nI m)), some (.int z), some (.int z8), some (.int z9), some (.int (nI y)), some (.int (nI b)), some (.int acc), some (.int (nI i))] [] μ (Q) := by
  intro j
  induction j with
  | zero =>
    intro i acc μ hi ho hz hv0 hv1
    have hbd := ho.v
    have h12 := ho.v12
    have h6 := ho.b6
    have hi : fV F = i := by omega
    subst hi
    refine zb M_drawn_s226 rfl ?_
    refine z_cge M_drawn_d232 (tgt := 300) rfl (fun h232 => ?_) (fun h232 => absurd (show μ.1 0 1 ≤ nI (fV F) by first | exact Int32.le_refl _ | (rw [hbd]; exact Int32.le_refl _)) h232)
    rw [hv1]
    exact hQ _ ho hz hv0
  | succ j ih =>
    intro i acc μ hi ho hz hv0 hv1
    have hbd := ho.v
    have h12 := ho.v12
    have h6 := ho.b6
    have hilt : i < fV F := by omega
    have ei : (nI i).toNatClampNeg = i := nI_clamp (by omega)
    have hvi : vp_in (nI i) 12 := vp_in_nI (by omega) (by omega)
    refine zb M_drawn_s226 rfl ?_
    refine z_cge M_drawn_d232 (tgt := 300) rfl (fun h232 => absurd h232 (show ¬ μ.1 0 1 ≤ nI i by first | exact nI_ge hilt (by omega) | (rw [hbd]; exact nI_ge hilt (by omega)))) (fun h232 => ?_)
    refine zb1 M_drawn_s235 rfl (by first | exact hvi | decide) ?_
    refine z_cne M_drawn_d244 (tgt := 294) rfl (fun h244 => ?_) (fun h244 => ?_)
    · refine zb M_drawn_s294 rfl ?_
      rw [nI_1]
      first
        | (refine ih (i + 1) _ _ (by omega) ho hz hv0 ?_
           rw [zsum_s, ← hv1]
           unfold drT
           rw [if_pos h244]
           first | rw [zB_t h264] | rw [zB_f h264])
        | (rw [ho.e27, ei] at h244
           refine ih (i + 1) _ _ (by omega) ho hz hv0 ?_
           rw [zsum_s, ← hv1]
           unfold drT
           rw [if_neg h244, Int32.add_zero])
    · rw [ho.e27, ei] at h244
      refine zb1 M_drawn_s247 rfl (by first | exact hvi | decide) ?_
      refine z_cne M_drawn_d264 (tgt := 271) rfl (fun h264 => ?_) (fun h264 => ?_)
      · refine zb1 M_drawn_s271 rfl (by first | exact hvi | decide) ?_
        rw [ei, hv0 i hilt] at h264
        rw [ei, hv0 i hilt]
        refine zcallV M_drawn_d288 k11_252 (by omega) (o_giv (by omega) (by omega) (by first | exact Or.inl rfl | exact Or.inr rfl) ho) rfl rfl rfl (Nat.le_of_ble_eq_true rfl) ?_
        rintro _ μ1 ⟨rfl, hz1⟩
        replace hz := hz.tr hz1.gm
        replace ho := ho.q hz1.gm
        replace hv0 : ∀ v, v < fV F → μ1.1 44 v = sc v := fun v hv => by rw [hz1.1 44 v rfl]; exact hv0 v hv
        clear hz1
        refine zb M_drawn_s291 rfl ?_
        rw [nI_1]
        first
          | (refine ih (i + 1) _ _ (by omega) ho hz hv0 ?_
             rw [zsum_s, ← hv1]
             unfold drT
             rw [if_pos h244]
             first | rw [zB_t h264] | rw [zB_f h264])
          | (rw [ho.e27, ei] at h244
             refine ih (i + 1) _ _ (by omega) ho hz hv0 ?_
             rw [zsum_s, ← hv1]
             unfold drT
             rw [if_neg h244, Int32.add_zero])
      · refine zb1 M_drawn_s267 rfl (by first | exact hvi | decide) ?_
        rw [ei, hv0 i hilt] at h264
        rw [ei, hv0 i hilt]
        refine zcallV M_drawn_d288 k11_252 (by omega) (o_giv (by omega) (by omega) (by first | exact Or.inl rfl | exact Or.inr rfl) ho) rfl rfl rfl (Nat.le_of_ble_eq_true rfl) ?_
        rintro _ μ1 ⟨rfl, hz1⟩
        replace hz := hz.tr hz1.gm
        replace ho := ho.q hz1.gm
        replace hv0 : ∀ v, v < fV F → μ1.1 44 v = sc v := fun v hv => by rw [hz1.1 44 v rfl]; exact hv0 v hv
        clear hz1
        refine zb M_drawn_s291 rfl ?_
        rw [nI_1]
        first
          | (refine ih (i + 1) _ _ (by omega) ho hz hv0 ?_
             rw [zsum_s, ← hv1]
             unfold drT
             rw [if_pos h244]
             first | rw [zB_t h264] | rw [zB_f h264])
          | (rw [ho.e27, ei] at h244
             refine ih (i + 1) _ _ (by omega) ho hz hv0 ?_
             rw [zsum_s, ← hv1]
             unfold drT
             rw [if_neg h244, Int32.add_zero])

set_option maxRecDepth 100000 in
set_option maxHeartbeats 4000000 in
theorem w_M_dr4 {g : zG} {d : Nat} {F : zF} {μ0 : zMem} {seed nm day w fl : Int32} {ys m y : Nat} (hd : 46 ≤ d) {z z9 : Int32} {off0 : Int32} {sc : Nat → Int32} {Q : Option Value → zMem → Prop} (hQ : ∀ (μ : zMem) (x12 x13 : Option Value), oM F μ → zq sM μ0 μ → (∀ v, v < fV F → μ.1 44 v = sc v) → zW g M_drawn d 325 [some (.ref 0), some (.int seed), some (.int nm), some (.int day), some (.int w), some (.int (nI ys)), some (.int (nI m)), some (.int z), some (.int (off0 + drO F (day + nI m - 1) sc)), some (.int z9), some (.int (nI y)), some (.int (nI (fB F))), x12, x13] [] μ Q) : ∀ (j i : Nat) (acc : Int32) (x12 : Option Value) (x13 : Option Value) (μ : zMem), i + j = fB F → oM F μ → zq sM μ0 μ → (∀ v, v < fV F → μ.1 44 v = sc v) → (acc = off0 + zsum (fun b => zB (¬ zsum (drT F (day + nI m - 1) sc b) (fV F) = 0)) i) → zW g M_drawn d 211 [some (.ref 0), some (.int seed), some (.int nm), some (.int day), some (.int w), some (.int (nI ys)), some (.int (nI m)), some (.int z), some (.int acc), some (.int z9), some (.int (nI y)), some (.int (nI i)), x12, x13] [] μ (Q) := by
  intro j
  induction j with
  | zero =>
    intro i acc x12 x13 μ hi ho hz hv0 hv1
    have hbd := ho.b
    have h12 := ho.v12
    have h6 := ho.b6
    have hi : fB F = i := by omega
    subst hi
    refine zb M_drawn_s211 rfl ?_
    refine z_cge M_drawn_d217 (tgt := 325) rfl (fun h217 => ?_) (fun h217 => absurd (show μ.1 0 0 ≤ nI (fB F) by first | exact Int32.le_refl _ | (rw [hbd]; exact Int32.le_refl _)) h217)
    rw [hv1]
    exact hQ _ _ _ ho hz hv0
  | succ j ih =>
    intro i acc x12 x13 μ hi ho hz hv0 hv1
    have hbd := ho.b
    have h12 := ho.v12
    have h6 := ho.b6
    have hilt : i < fB F := by omega
    have ei : (nI i).toNatClampNeg = i := nI_clamp (by omega)
    refine zb M_drawn_s211 rfl ?_
    refine z_cge M_drawn_d217 (tgt := 325) rfl (fun h217 => absurd h217 (show ¬ μ.1 0 0 ≤ nI i by first | exact nI_ge hilt (by omega) | (rw [hbd]; exact nI_ge hilt (by omega)))) (fun h217 => ?_)
    refine zb M_drawn_s220 rfl ?_
    refine w_M_dr3 (fl := fl) hd (fun μ1 ho1 hz1 hs1 => ?_) (fV F) 0 0 μ (by omega) ho hz hv0 rfl
    refine zb M_drawn_s300 rfl ?_
    refine z_eq M_drawn_d305 (tgt := 312) rfl (fun h305 => ?_) (fun h305 => ?_)
    · refine zb M_drawn_s312 rfl ?_
      refine zcallV M_drawn_d313 k11_167 (by omega) (c_M_one _) rfl rfl rfl (Nat.le_of_ble_eq_true rfl) ?_
      rintro _ μx ⟨rfl, hx⟩
      rw [hx]
      clear hx μx
      refine zb M_drawn_s316 rfl ?_
      rw [nI_1]
      refine ih (i + 1) _ _ _ μ1 (by omega) ho1 hz1 hs1 ?_
      rw [zsum_s, ← Int32.add_assoc, ← hv1]
      refine congrArg (fun x => acc + x) ?_
      first
        | exact zB_cong (iff_of_true (by decide) h305)
        | exact zB_cong (iff_of_false (by decide) (fun z => z h305))
    · refine zb M_drawn_s308 rfl ?_
      refine zcallV M_drawn_d313 k11_167 (by omega) (c_M_one _) rfl rfl rfl (Nat.le_of_ble_eq_true rfl) ?_
      rintro _ μx ⟨rfl, hx⟩
      rw [hx]
      clear hx μx
      refine zb M_drawn_s316 rfl ?_
      rw [nI_1]
      refine ih (i + 1) _ _ _ μ1 (by omega) ho1 hz1 hs1 ?_
      rw [zsum_s, ← Int32.add_assoc, ← hv1]
      refine congrArg (fun x => acc + x) ?_
      first
        | exact zB_cong (iff_of_true (by decide) h305)
        | exact zB_cong (iff_of_false (by decide) (fun z => z h305))

set_option maxRecDepth 100000 in
set_option maxHeartbeats 4000000 in
theorem w_M_dr5 {g : zG} {d : Nat} {F : zF} {μ0 : zMem} {seed nm day w fl : Int32} {ys m y : Nat} {z z8 g0 : Int32} {x12 x13 : Option Value} {sc : Nat → Int32} (hd : 1 ≤ d) {Q : Option Value → zMem → Prop} (hQ : ∀ (μ : zMem), oM F μ → zq sM μ0 μ → zW g M_drawn d 370 [some (.ref 0), some (.int seed), some (.int nm), some (.int day), some (.int w), some (.int (nI ys)), some (.int (nI m)), some (.int z), some (.int z8), some (.int (g0 + drG F sc)), some (.int (nI y)), some (.int (nI (fV F))), x12, x13] [] μ Q) : ∀ (j i : Nat) (acc : Int32) (μ : zMem), i + j = fV F → oM F μ → zq sM μ0 μ → (∀ v, v < fV F → μ.1 44 v = sc v) → (acc = g0 + zsum (fun v => zB (¬ sc v = 999)) i) → zW g M_drawn d 328 [some (.ref 0), some (.int seed), some (.int nm), some (.int day), some (.int w), some (.int (nI ys)), some (.int (nI m)), some (.int z), some (.int z8), some (.int acc), some (.int (nI y)), some (.int (nI i)), x12, x13] [] μ (Q) := by
  intro j
  induction j with
  | zero =>
    intro i acc μ hi ho hz hv0 hv1
    have hbd := ho.v
    have h12 := ho.v12
    have h6 := ho.b6
    have hi : fV F = i := by omega
    subst hi
    refine zb M_drawn_s328 rfl ?_
    refine z_cge M_drawn_d334 (tgt := 370) rfl (fun h334 => ?_) (fun h334 => absurd (show μ.1 0 1 ≤ nI (fV F) by first | exact Int32.le_refl _ | (rw [hbd]; exact Int32.le_refl _)) h334)
    rw [hv1]
    exact hQ _ ho hz
  | succ j ih =>
    intro i acc μ hi ho hz hv0 hv1
    have hbd := ho.v
    have h12 := ho.v12
    have h6 := ho.b6
    have hilt : i < fV F := by omega
    have ei : (nI i).toNatClampNeg = i := nI_clamp (by omega)
    refine zb M_drawn_s328 rfl ?_
    refine z_cge M_drawn_d334 (tgt := 370) rfl (fun h334 => absurd h334 (show ¬ μ.1 0 1 ≤ nI i by first | exact nI_ge hilt (by omega) | (rw [hbd]; exact nI_ge hilt (by omega)))) (fun h334 => ?_)
    refine zb1 M_drawn_s337 rfl (by first | assumption | exact vp_in_nI (by omega) (by omega) | decide) ?_
    refine z_ceq M_drawn_d350 (tgt := 357) rfl (fun h350 => ?_) (fun h350 => ?_)
    · refine zb M_drawn_s357 rfl ?_
      refine zcallV M_drawn_d358 k11_167 (by omega) (c_M_one _) rfl rfl rfl (Nat.le_of_ble_eq_true rfl) ?_
      rintro _ μx ⟨rfl, hx⟩
      rw [hx]
      clear hx μx
      refine zb M_drawn_s361 rfl ?_
      rw [nI_1]
      rw [ei, hv0 i hilt] at h350
      refine ih (i + 1) _ _ (by omega) ho hz hv0 ?_
      rw [zsum_s, ← Int32.add_assoc, ← hv1]
      refine congrArg (fun x => acc + x) ?_
      first
        | exact zB_cong (iff_of_true (by decide) h350)
        | exact zB_cong (iff_of_false (by decide) (fun z => z h350))
    · refine zb M_drawn_s353 rfl ?_
      refine zcallV M_drawn_d358 k11_167 (by omega) (c_M_one _) rfl rfl rfl (Nat.le_of_ble_eq_true rfl) ?_
      rintro _ μx ⟨rfl, hx⟩
      rw [hx]
      clear hx μx
      refine zb M_drawn_s361 rfl ?_
      rw [nI_1]
      rw [ei, hv0 i hilt] at h350
      refine ih (i + 1) _ _ (by omega) ho hz hv0 ?_
      rw [zsum_s, ← Int32.add_assoc, ← hv1]
      refine congrArg (fun x => acc + x) ?_
      first
        | exact zB_cong (iff_of_true (by decide) h350)
        | exact zB_cong (iff_of_false (by decide) (fun z => z h350))

set_option maxRecDepth 100000 in
set_option maxHeartbeats 4000000 in
theorem w_M_dr6 {g : zG} {d : Nat} {F : zF} {μ0 : zMem} {seed nm day w fl : Int32} {ys m : Nat} (h02 : μ0.1 0 2 = fl) (hm : m < 2 ^ 30) (hy : ys < 2 ^ 30) (hd : 46 ≤ d) : ∀ (j i : Nat) (z : Int32) (a8 : Int32) (a9 : Int32) (x11 : Option Value) (x12 : Option Value) (x13 : Option Value) (μ : zMem), i + j = ys → oM F μ → zq sM μ0 μ → ((z, a8, a9) = zfold (drS F fl day m) 0 i (seed, 0, 0)) → zW g M_drawn d 82 [some (.ref 0), some (.int seed), some (.int nm), some (.int day), some (.int w), some (.int (nI ys)), some (.int (nI m)), some (.int z), some (.int a8), some (.int a9), some (.int (nI i)), x11, x12, x13] [] μ (fun r μ' => r = some (.int (if w = 0 then (drawS F fl seed day ys m).2.1 else (drawS F fl seed day ys m).2.2)) ∧ zq sM μ0 μ') := by
  intro j
  induction j with
  | zero =>
    intro i z a8 a9 x11 x12 x13 μ hi ho hz hv0
    have hi : ys = i := by omega
    subst hi
    refine zb M_drawn_s82 rfl ?_
    refine z_cge M_drawn_d86 (tgt := 376) rfl (fun h86 => ?_) (fun h86 => absurd (Int32.le_refl _) h86)
    refine zb M_drawn_s376 rfl ?_
    refine z_ne M_drawn_d378 (tgt := 386) rfl (fun h378 => ?_) (fun h378 => ?_)
    · refine zb M_drawn_s386 rfl ?_
      refine z_ret M_drawn_d388 rfl ?_
      rw [show drawS F fl seed day ys m = (z, a8, a9) from hv0.symm]
      first | exact ⟨by rw [if_pos h378], hz⟩ | exact ⟨by rw [if_neg h378], hz⟩
    · refine zb M_drawn_s381 rfl ?_
      refine z_ret M_drawn_d388 rfl ?_
      rw [show drawS F fl seed day ys m = (z, a8, a9) from hv0.symm]
      first | exact ⟨by rw [if_pos h378], hz⟩ | exact ⟨by rw [if_neg h378], hz⟩
  | succ j ih =>
    intro i z a8 a9 x11 x12 x13 μ hi ho hz hv0
    have hilt : i < ys := by omega
    have ei : (nI i).toNatClampNeg = i := nI_clamp (by omega)
    refine zb M_drawn_s82 rfl ?_
    refine z_cge M_drawn_d86 (tgt := 376) rfl (fun h86 => absurd h86 (show ¬ nI ys ≤ nI i from nI_ge hilt (by omega))) (fun h86 => ?_)
    refine zb M_drawn_s89 rfl ?_
    refine w_M_dr0 (fl := fl) (fun μ1 ho1 hz1 h0 => ?_) (fV F) 0 μ (by omega) ho hz (fun v hv => by omega)
    refine w_M_dr2 h02 hm (z0 := z) (fun z2 sc μ2 y12 ho2 hz2 hs2 he2 => ?_) m 0 z (fun _ => 999) _ μ1 (by omega) ho1 hz1 h0 rfl
    refine zb M_drawn_s208 rfl ?_
    refine w_M_dr4 (fl := fl) hd (off0 := a8) (fun μ3 y13 y14 ho3 hz3 hs3 => ?_) (fB F) 0 a8 _ _ μ2 (by omega) ho2 hz2 hs2 (Int32.add_zero _).symm
    refine zb M_drawn_s325 rfl ?_
    refine w_M_dr5 (fl := fl) (by omega) (g0 := a9) (fun μ4 ho4 hz4 => ?_) (fV F) 0 a9 μ3 (by omega) ho3 hz3 hs3 (Int32.add_zero _).symm
    refine zb M_drawn_s370 rfl ?_
    rw [nI_1]
    refine ih (i + 1) _ _ _ _ _ _ μ4 (by omega) ho4 hz4 ?_
    rw [zf0, ← hv0]
    unfold drS
    dsimp only
    rw [← he2]

abbrev drOK (nm day w : Int32) : Prop := (¬ nm < 0 ∧ (1 ≤ nm / 100 ∧ nm / 100 ≤ 20)) ∧ 1 ≤ zrem nm 100 ∧ (0 ≤ day ∧ day ≤ 998) ∧ day + zrem nm 100 - 1 ≤ 998 ∧ (0 ≤ w ∧ w ≤ 1)
def sDrawn (F : zF) (fl seed nm day w : Int32) : Int32 := if drOK nm day w then (if w = 0 then (drawS F fl seed day (nm / 100).toNatClampNeg (zrem nm 100).toNatClampNeg).2.1 else (drawS F fl seed day (nm / 100).toNatClampNeg (zrem nm 100).toNatClampNeg).2.2) else -1

set_option maxRecDepth 100000 in
set_option maxHeartbeats 4000000 in
theorem o_drawn {g : zG} {d : Nat} {F : zF} {μ : zMem} {seed nm day w fl : Int32} (h02 : μ.1 0 2 = fl) (hd : 47 ≤ d) (ho : oM F μ) : zM g d M_drawn [.ref 0, .int seed, .int nm, .int day, .int w] μ (fun r μ' => r = some (.int (sDrawn F fl seed nm day w)) ∧ zq sM μ μ') := by
  refine zM_of (by decide +kernel) rfl rfl (Nat.le_of_ble_eq_true rfl) rfl ?_
  have hz : zq sM μ μ := zq.rf
  have h12 := ho.v12
  have h6 := ho.b6
  refine zb2 M_drawn_s0 rfl (by decide) (by decide) ?_
  refine z_lt M_drawn_d13 (tgt := 68) rfl (fun h13 => ?_) (fun h13 => ?_)
  · refine zb M_drawn_s68 rfl ?_
    refine z_ret M_drawn_d69 rfl ?_
    unfold sDrawn
    first
      | exact ⟨by rw [if_neg (fun z : drOK nm day w => absurd (show nm < 0 from h13) z.1.1)], hz⟩
      | exact ⟨by rw [if_neg (fun z => (zB_eq0.mp h25) z.1.2)], hz⟩
      | exact ⟨by rw [if_neg (fun z => absurd h31 (Int32.not_lt.mpr z.2.1))], hz⟩
      | exact ⟨by rw [if_neg (fun z => absurd h35 (Int32.not_lt.mpr z.2.2.1.1))], hz⟩
      | exact ⟨by rw [if_neg (fun z => absurd h42 (Int32.not_lt.mpr z.2.2.1.2))], hz⟩
      | exact ⟨by rw [if_neg (fun z => absurd h54 (Int32.not_lt.mpr z.2.2.2.1))], hz⟩
      | exact ⟨by rw [if_neg (fun z => (zB_eq0.mp h65) z.2.2.2.2)], hz⟩
  · refine zb M_drawn_s16 rfl ?_
    refine zcallV M_drawn_d22 k11_112 (by omega) (c_M_isIn _ _ _) rfl rfl rfl (Nat.le_of_ble_eq_true rfl) ?_
    rintro _ μx ⟨rfl, hx⟩
    rw [hx]
    clear hx μx
    refine z_eq M_drawn_d25 (tgt := 68) rfl (fun h25 => ?_) (fun h25 => ?_)
    · refine zb M_drawn_s68 rfl ?_
      refine z_ret M_drawn_d69 rfl ?_
      unfold sDrawn
      first
        | exact ⟨by rw [if_neg (fun z : drOK nm day w => absurd (show nm < 0 from h13) z.1.1)], hz⟩
        | exact ⟨by rw [if_neg (fun z => (zB_eq0.mp h25) z.1.2)], hz⟩
        | exact ⟨by rw [if_neg (fun z => absurd h31 (Int32.not_lt.mpr z.2.1))], hz⟩
        | exact ⟨by rw [if_neg (fun z => absurd h35 (Int32.not_lt.mpr z.2.2.1.1))], hz⟩
        | exact ⟨by rw [if_neg (fun z => absurd h42 (Int32.not_lt.mpr z.2.2.1.2))], hz⟩
        | exact ⟨by rw [if_neg (fun z => absurd h54 (Int32.not_lt.mpr z.2.2.2.1))], hz⟩
        | exact ⟨by rw [if_neg (fun z => (zB_eq0.mp h65) z.2.2.2.2)], hz⟩
    · refine zb M_drawn_s28 rfl ?_
      refine z_clt M_drawn_d31 (tgt := 68) rfl (fun h31 => ?_) (fun h31 => ?_)
      · refine zb M_drawn_s68 rfl ?_
        refine z_ret M_drawn_d69 rfl ?_
        unfold sDrawn
        first
          | exact ⟨by rw [if_neg (fun z : drOK nm day w => absurd (show nm < 0 from h13) z.1.1)], hz⟩
          | exact ⟨by rw [if_neg (fun z => (zB_eq0.mp h25) z.1.2)], hz⟩
          | exact ⟨by rw [if_neg (fun z => absurd h31 (Int32.not_lt.mpr z.2.1))], hz⟩
          | exact ⟨by rw [if_neg (fun z => absurd h35 (Int32.not_lt.mpr z.2.2.1.1))], hz⟩
          | exact ⟨by rw [if_neg (fun z => absurd h42 (Int32.not_lt.mpr z.2.2.1.2))], hz⟩
          | exact ⟨by rw [if_neg (fun z => absurd h54 (Int32.not_lt.mpr z.2.2.2.1))], hz⟩
          | exact ⟨by rw [if_neg (fun z => (zB_eq0.mp h65) z.2.2.2.2)], hz⟩
      · refine zb M_drawn_s34 rfl ?_
        refine z_lt M_drawn_d35 (tgt := 68) rfl (fun h35 => ?_) (fun h35 => ?_)
        · refine zb M_drawn_s68 rfl ?_
          refine z_ret M_drawn_d69 rfl ?_
          unfold sDrawn
          first
            | exact ⟨by rw [if_neg (fun z : drOK nm day w => absurd (show nm < 0 from h13) z.1.1)], hz⟩
            | exact ⟨by rw [if_neg (fun z => (zB_eq0.mp h25) z.1.2)], hz⟩
            | exact ⟨by rw [if_neg (fun z => absurd h31 (Int32.not_lt.mpr z.2.1))], hz⟩
            | exact ⟨by rw [if_neg (fun z => absurd h35 (Int32.not_lt.mpr z.2.2.1.1))], hz⟩
            | exact ⟨by rw [if_neg (fun z => absurd h42 (Int32.not_lt.mpr z.2.2.1.2))], hz⟩
            | exact ⟨by rw [if_neg (fun z => absurd h54 (Int32.not_lt.mpr z.2.2.2.1))], hz⟩
            | exact ⟨by rw [if_neg (fun z => (zB_eq0.mp h65) z.2.2.2.2)], hz⟩
        · refine zb M_drawn_s38 rfl ?_
          refine z_cgt M_drawn_d42 (tgt := 68) rfl (fun h42 => ?_) (fun h42 => ?_)
          · refine zb M_drawn_s68 rfl ?_
            refine z_ret M_drawn_d69 rfl ?_
            unfold sDrawn
            first
              | exact ⟨by rw [if_neg (fun z : drOK nm day w => absurd (show nm < 0 from h13) z.1.1)], hz⟩
              | exact ⟨by rw [if_neg (fun z => (zB_eq0.mp h25) z.1.2)], hz⟩
              | exact ⟨by rw [if_neg (fun z => absurd h31 (Int32.not_lt.mpr z.2.1))], hz⟩
              | exact ⟨by rw [if_neg (fun z => absurd h35 (Int32.not_lt.mpr z.2.2.1.1))], hz⟩
              | exact ⟨by rw [if_neg (fun z => absurd h42 (Int32.not_lt.mpr z.2.2.1.2))], hz⟩
              | exact ⟨by rw [if_neg (fun z => absurd h54 (Int32.not_lt.mpr z.2.2.2.1))], hz⟩
              | exact ⟨by rw [if_neg (fun z => (zB_eq0.mp h65) z.2.2.2.2)], hz⟩
          · refine zb M_drawn_s45 rfl ?_
            refine z_cgt M_drawn_d54 (tgt := 68) rfl (fun h54 => ?_) (fun h54 => ?_)
            · refine zb M_drawn_s68 rfl ?_
              refine z_ret M_drawn_d69 rfl ?_
              unfold sDrawn
              first
                | exact ⟨by rw [if_neg (fun z : drOK nm day w => absurd (show nm < 0 from h13) z.1.1)], hz⟩
                | exact ⟨by rw [if_neg (fun z => (zB_eq0.mp h25) z.1.2)], hz⟩
                | exact ⟨by rw [if_neg (fun z => absurd h31 (Int32.not_lt.mpr z.2.1))], hz⟩
                | exact ⟨by rw [if_neg (fun z => absurd h35 (Int32.not_lt.mpr z.2.2.1.1))], hz⟩
                | exact ⟨by rw [if_neg (fun z => absurd h42 (Int32.not_lt.mpr z.2.2.1.2))], hz⟩
                | exact ⟨by rw [if_neg (fun z => absurd h54 (Int32.not_lt.mpr z.2.2.2.1))], hz⟩
                | exact ⟨by rw [if_neg (fun z => (zB_eq0.mp h65) z.2.2.2.2)], hz⟩
            · refine zb M_drawn_s57 rfl ?_
              refine zcallV M_drawn_d62 k11_112 (by omega) (c_M_isIn _ _ _) rfl rfl rfl (Nat.le_of_ble_eq_true rfl) ?_
              rintro _ μx ⟨rfl, hx⟩
              rw [hx]
              clear hx μx
              refine z_ne M_drawn_d65 (tgt := 70) rfl (fun h65 => ?_) (fun h65 => ?_)
              · refine zb M_drawn_s70 rfl ?_
                unfold sDrawn
                rw [if_pos ⟨⟨h13, zB_ne0.mp h25⟩, Int32.not_lt.mp h31, ⟨Int32.not_lt.mp h35, Int32.not_lt.mp h42⟩, Int32.not_lt.mp h54, zB_ne0.mp h65⟩]
                obtain ⟨e, he, rfl⟩ := nI_of h13
                have e1 : nI e / 100 = nI (e / 100) := pk_div (d := 100) he (by omega) (by omega)
                have e2 : nI e - nI e / 100 * 100 = nI (e % 100) := pk_rem (d := 100) he (by omega) (by omega)
                have e3 : zrem (nI e) 100 = nI (e % 100) := e2
                rw [e3, e2, e1, nI_clamp (by omega), nI_clamp (by omega)]
                exact w_M_dr6 h02 (by omega) (by omega) (by omega) (e / 100) 0 seed 0 0 _ _ _ μ (by omega) ho hz rfl
              · refine zb M_drawn_s68 rfl ?_
                refine z_ret M_drawn_d69 rfl ?_
                unfold sDrawn
                first
                  | exact ⟨by rw [if_neg (fun z : drOK nm day w => absurd (show nm < 0 from h13) z.1.1)], hz⟩
                  | exact ⟨by rw [if_neg (fun z => (zB_eq0.mp h25) z.1.2)], hz⟩
                  | exact ⟨by rw [if_neg (fun z => absurd h31 (Int32.not_lt.mpr z.2.1))], hz⟩
                  | exact ⟨by rw [if_neg (fun z => absurd h35 (Int32.not_lt.mpr z.2.2.1.1))], hz⟩
                  | exact ⟨by rw [if_neg (fun z => absurd h42 (Int32.not_lt.mpr z.2.2.1.2))], hz⟩
                  | exact ⟨by rw [if_neg (fun z => absurd h54 (Int32.not_lt.mpr z.2.2.2.1))], hz⟩
                  | exact ⟨by rw [if_neg (fun z => (zB_eq0.mp h65) z.2.2.2.2)], hz⟩
