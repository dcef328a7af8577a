/-! the reference: exchanges, melting, draws -/

set_option maxRecDepth 100000 in
set_option maxHeartbeats 4000000 in
theorem w_M_pairs_in {g : zG} {d : Nat} {F : zF} {μ0 : zMem} {dh : Int32} {a : Nat} (hd : 49 ≤ d) (ha : a < fV F) {t0 : Int32 × Int32} {Q : Option Value → zMem → Prop} (hQ : ∀ (a2 a3 : Int32) (μ : zMem) (x5 x6 x7 x8 : Option Value), oM F μ → zq sM μ0 μ → (a2, a3) = prA F (dh / 100) (hro dh) a t0 → zW g M_pairs d 29 [some (.ref 0), some (.int dh), some (.int a2), some (.int a3), some (.int (nI (a + 1))), x5, x6, x7, x8] [] μ Q) : ∀ (j i : Nat) (a2 : Int32) (a3 : Int32) (x6 : Option Value) (x7 : Option Value) (x8 : Option Value) (μ : zMem), i + j = fV F → oM F μ → zq sM μ0 μ → (a < i) → ((a2, a3) = zfold (prStep F (dh / 100) (hro dh) a) (a + 1) (i - (a + 1)) t0) → zW g M_pairs d 44 [some (.ref 0), some (.int dh), some (.int a2), some (.int a3), some (.int (nI a)), some (.int (nI i)), x6, x7, x8] [] μ (Q) := by
  intro j
  induction j with
  | zero =>
    intro i a2 a3 x6 x7 x8 μ hi ho hz hv0 hv1
    have hbd := ho.v
    have h12 := ho.v12
    have h6 := ho.b6
    have ea : (nI a).toNatClampNeg = a := nI_clamp (by omega)
    have hva : vp_in (nI a) 12 := vp_in_nI (by omega) (by omega)
    have hi : fV F = i := by omega
    subst hi
    refine zb M_pairs_s44 rfl ?_
    refine z_cge M_pairs_d50 (tgt := 158) rfl (fun h50 => ?_) (fun h50 => absurd (show μ.1 0 1 ≤ nI (fV F) by first | exact Int32.le_refl _ | (rw [hbd]; exact Int32.le_refl _)) h50)
    refine zb M_pairs_s158 rfl ?_
    rw [nI_1]
    exact hQ _ _ _ _ _ _ _ ho hz hv1
  | succ j ih =>
    intro i a2 a3 x6 x7 x8 μ hi ho hz hv0 hv1
    have hbd := ho.v
    have h12 := ho.v12
    have h6 := ho.b6
    have ea : (nI a).toNatClampNeg = a := nI_clamp (by omega)
    have hva : vp_in (nI a) 12 := vp_in_nI (by omega) (by omega)
    have hilt : i < fV F := by omega
    have ei : (nI i).toNatClampNeg = i := nI_clamp (by omega)
    have hvi : vp_in (nI i) 12 := vp_in_nI (by omega) (by omega)
    have hst : zfold (prStep F (dh / 100) (hro dh) a) (a + 1) (i + 1 - (a + 1)) t0 = prStep F (dh / 100) (hro dh) a i (a2, a3) := by
      rw [show i + 1 - (a + 1) = (i - (a + 1)) + 1 by omega, zfold_s, ← hv1, show a + 1 + (i - (a + 1)) = i by omega]
    refine zb M_pairs_s44 rfl ?_
    refine z_cge M_pairs_d50 (tgt := 158) rfl (fun h50 => absurd h50 (show ¬ μ.1 0 1 ≤ nI i by first | exact nI_ge hilt (by omega) | (rw [hbd]; exact nI_ge hilt (by omega)))) (fun h50 => ?_)
    refine zb2 M_pairs_s53 rfl (by first | exact hva | exact hvi | decide) (by first | exact hva | exact hvi | decide) ?_
    refine z_cne M_pairs_d75 (tgt := 81) rfl (fun h75 => ?_) (fun h75 => ?_)
    · rw [ho.e27, ea, ei] at h75
      rw [ho.e27, ea, ei]
      refine zb4 M_pairs_s81 rfl (by first | exact hva | exact hvi | decide) (by first | exact hva | exact hvi | decide) (by first | exact hva | exact hvi | decide) (by first | exact hva | exact hvi | decide) ?_
      rw [ea, ei]
      have ho2 := (ho.p27 (v := a) (x := fbell F i)).p27 (v := i) (x := fbell F a)
      have hz2 := (hz.up (c := 27) (k := a) (x := fbell F i)).up (c := 27) (k := i) (x := fbell F a)
      refine zcallV M_pairs_d108 k11_273 (by omega) (o_manyOff (by omega) ho2) rfl rfl rfl (Nat.le_of_ble_eq_true rfl) ?_
      rintro _ μ1 ⟨rfl, hz1⟩
      have ho3 : oM F (zpI (zpI μ1 27 a (fbell F a)) 27 i (fbell F i)) := by
        have := ((ho2.q hz1.gm).p27 (v := a) (x := fbell F a)).p27 (v := i) (x := fbell F i)
        have e : fsb (fsb (fsb (fsb F a (fbell F i)) i (fbell F a)) a (fbell F a)) i (fbell F i) = F := by
          unfold fsb fbell
          dsimp only
          refine congrArg (fun z => (F.1, F.2.1, F.2.2.1, z, F.2.2.2.2)) ?_
          funext q
          unfold fu
          by_cases y1 : q = i <;> by_cases y2 : q = a <;> simp_all
        rw [e] at this
        exact this
      have hz3 : zq sM μ0 (zpI (zpI μ1 27 a (fbell F a)) 27 i (fbell F i)) := by
        have h4 := (hz1.gm.up (c := 27) (k := a) (x := fbell F a)).up (c := 27) (k := i) (x := fbell F i)
        have e : zpI (zpI (zpI (zpI μ 27 a (fbell F i)) 27 i (fbell F a)) 27 a (fbell F a)) 27 i (fbell F i) = μ := by
          rw [zpI_sw (Or.inr (show i ≠ a by omega)), zpI_2, zpI_2, show fbell F a = μ.1 27 a by rw [ho.e27], zpI_me, show fbell F i = μ.1 27 i by rw [ho.e27], zpI_me]
        rw [e] at h4
        exact hz.tr h4
      refine zb2 M_pairs_s111 rfl (by first | exact hva | exact hvi | decide) (by first | exact hva | exact hvi | decide) ?_
      refine z_clt M_pairs_d134 (tgt := 140) rfl (fun h134 => ?_) (fun h134 => ?_)
      · refine zb M_pairs_s140 rfl ?_
        rw [nI_1]
        first
          | (rw [ea, ei]
             refine ih (i + 1) _ _ _ _ _ _ (by omega) ho3 hz3 (by omega) ?_
             rw [hst]
             unfold prStep
             rw [if_neg h75]
             first | rw [if_pos h134] | rw [if_neg h134])
          | (rw [ho.e27, ea, ei] at h75
             refine ih (i + 1) _ _ _ _ _ _ (by omega) ho hz (by omega) ?_
             rw [hst]
             unfold prStep
             rw [if_pos h75])
      · refine zb M_pairs_s137 rfl ?_
        rw [nI_1]
        first
          | (rw [ea, ei]
             refine ih (i + 1) _ _ _ _ _ _ (by omega) ho3 hz3 (by omega) ?_
             rw [hst]
             unfold prStep
             rw [if_neg h75]
             first | rw [if_pos h134] | rw [if_neg h134])
          | (rw [ho.e27, ea, ei] at h75
             refine ih (i + 1) _ _ _ _ _ _ (by omega) ho hz (by omega) ?_
             rw [hst]
             unfold prStep
             rw [if_pos h75])
    · refine zb M_pairs_s78 rfl ?_
      rw [nI_1]
      first
        | (rw [ea, ei]
           refine ih (i + 1) _ _ _ _ _ _ (by omega) ho3 hz3 (by omega) ?_
           rw [hst]
           unfold prStep
           rw [if_neg h75]
           first | rw [if_pos h134] | rw [if_neg h134])
        | (rw [ho.e27, ea, ei] at h75
           refine ih (i + 1) _ _ _ _ _ _ (by omega) ho hz (by omega) ?_
           rw [hst]
           unfold prStep
           rw [if_pos h75])

set_option maxRecDepth 100000 in
set_option maxHeartbeats 4000000 in
theorem w_M_pairs {g : zG} {d : Nat} {F : zF} {μ0 : zMem} {dh : Int32} (hd : 49 ≤ d) : ∀ (j i : Nat) (a2 : Int32) (a3 : Int32) (x5 : Option Value) (x6 : Option Value) (x7 : Option Value) (x8 : Option Value) (μ : zMem), i + j = fV F → oM F μ → zq sM μ0 μ → ((a2, a3) = zfold (prA F (dh / 100) (hro dh)) 0 i (-2, manyOff F (dh / 100) (hro dh))) → zW g M_pairs d 29 [some (.ref 0), some (.int dh), some (.int a2), some (.int a3), some (.int (nI i)), x5, x6, x7, x8] [] μ (fun r μ' => r = some (.int ((zfold (prA F (dh / 100) (hro dh)) 0 (fV F) (-2, manyOff F (dh / 100) (hro dh))).1)) ∧ zq sM μ0 μ') := by
  intro j
  induction j with
  | zero =>
    intro i a2 a3 x5 x6 x7 x8 μ hi ho hz hv0
    have hbd := ho.v
    have h12 := ho.v12
    have h6 := ho.b6
    have hi : fV F = i := by omega
    subst hi
    refine zb M_pairs_s29 rfl ?_
    refine z_cge M_pairs_d35 (tgt := 164) rfl (fun h35 => ?_) (fun h35 => absurd (show μ.1 0 1 ≤ nI (fV F) by first | exact Int32.le_refl _ | (rw [hbd]; exact Int32.le_refl _)) h35)
    refine zb M_pairs_s164 rfl ?_
    refine z_ret M_pairs_d165 rfl ?_
    exact ⟨by rw [← hv0], hz⟩
  | succ j ih =>
    intro i a2 a3 x5 x6 x7 x8 μ hi ho hz hv0
    have hbd := ho.v
    have h12 := ho.v12
    have h6 := ho.b6
    have hilt : i < fV F := by omega
    have ei : (nI i).toNatClampNeg = i := nI_clamp (by omega)
    refine zb M_pairs_s29 rfl ?_
    refine z_cge M_pairs_d35 (tgt := 164) rfl (fun h35 => absurd h35 (show ¬ μ.1 0 1 ≤ nI i by first | exact nI_ge hilt (by omega) | (rw [hbd]; exact nI_ge hilt (by omega)))) (fun h35 => ?_)
    refine zb M_pairs_s38 rfl ?_
    rw [nI_1]
    refine w_M_pairs_in hd hilt (t0 := (a2, a3)) (fun b2 b3 μ1 y5 y6 y7 y8 ho1 hz1 he => ih (i + 1) _ _ _ _ _ _ _ (by omega) ho1 hz1 ?_) (fV F - (i + 1)) (i + 1) _ _ _ _ _ μ (by omega) ho hz (by omega) (by rw [Nat.sub_self]; rfl)
    rw [zf0, ← hv0]
    exact he

set_option maxRecDepth 100000 in
set_option maxHeartbeats 4000000 in
theorem o_pairs {g : zG} {d : Nat} {F : zF} {μ : zMem} {dh : Int32} (hd : 50 ≤ d) (ho : oM F μ) : zM g d M_pairs [.ref 0, .int dh] μ (fun r μ' => r = some (.int (sPairs F dh)) ∧ zq sM μ μ') := by
  refine zM_of (by decide +kernel) rfl rfl (Nat.le_of_ble_eq_true rfl) rfl ?_
  have hz : zq sM μ μ := zq.rf
  have h12 := ho.v12
  have h6 := ho.b6
  refine zb M_pairs_s0 rfl ?_
  refine zcallV M_pairs_d2 k11_256 (by omega) (c_M_isTime _) rfl rfl rfl (Nat.le_of_ble_eq_true rfl) ?_
  rintro _ μx ⟨rfl, hx⟩
  rw [hx]
  clear hx μx
  refine z_ne M_pairs_d5 (tgt := 10) rfl (fun h5 => ?_) (fun h5 => ?_)
  · refine zb2 M_pairs_s10 rfl (by decide) (by decide) ?_
    refine zcallV M_pairs_d22 k11_273 (by omega) (o_manyOff (by omega) ho) rfl rfl rfl (Nat.le_of_ble_eq_true rfl) ?_
    rintro _ μ1 ⟨rfl, hz1⟩
    replace hz := hz.tr hz1.gm
    replace ho := ho.q hz1.gm
    clear hz1
    refine zb M_pairs_s25 rfl ?_
    unfold sPairs
    rw [if_pos (zB_ne0.mp h5)]
    exact w_M_pairs (by omega) (fV F) 0 _ _ _ _ _ _ μ1 (by omega) ho hz rfl
  · refine zb M_pairs_s8 rfl ?_
    refine z_ret M_pairs_d9 rfl ?_
    unfold sPairs
    exact ⟨by rw [if_neg (zB_eq0.mp h5)], hz⟩

def melS (b day h : Int32) : Nat → Nat → zF → Int32 × (Nat → Int32) → Int32 × (Nat → Int32)
  | 0, _, F, st => if ¬ st.1 < 0 ∧ ¬ manyOff F day h < st.1 then st else (manyOff F day h, fbell F)
  | k + 1, v, F, st => if fbell F v = b then zfold (fun o st => if nI o = b then st else melS b day h k (v + 1) (fsb F v (nI o)) st) 0 (fB F) st else melS b day h k (v + 1) F st
abbrev melQ (F : zF) (μ0 : zMem) (st : Int32 × (Nat → Int32)) : Option Value → zMem → Prop := fun r μ' => r = none ∧ oM F μ' ∧ zq sM μ0 μ' ∧ μ'.1 0 33 = st.1 ∧ ∀ k, k < fV F → μ'.1 43 k = st.2 k

set_option maxRecDepth 100000 in
set_option maxHeartbeats 4000000 in
theorem w_M_melts_cp {g : zG} {d : Nat} {F : zF} {μ0 : zMem} {b day h a2 a5 a6 m : Int32} : ∀ (j i : Nat) (μ : zMem), i + j = fV F → oM F μ → zq sM μ0 μ → (μ.1 0 33 = m) → (∀ k, k < i → μ.1 43 k = fbell F k) → zW g M_melts d 73 [some (.ref 0), some (.int b), some (.int a2), some (.int day), some (.int h), some (.int a5), some (.int a6), some (.int (nI i))] [] μ (melQ F μ0 (m, fbell F)) := by
  intro j
  induction j with
  | zero =>
    intro i  μ hi ho hz hv0 hv1
    have hbd := ho.v
    have h12 := ho.v12
    have h6 := ho.b6
    have hi : fV F = i := by omega
    subst hi
    refine zb M_melts_s73 rfl ?_
    refine z_cge M_melts_d79 (tgt := 102) rfl (fun h79 => ?_) (fun h79 => absurd (show μ.1 0 1 ≤ nI (fV F) by first | exact Int32.le_refl _ | (rw [hbd]; exact Int32.le_refl _)) h79)
    refine z_retV M_melts_d102 rfl ?_
    exact ⟨rfl, ho, hz, hv0, hv1⟩
  | succ j ih =>
    intro i  μ hi ho hz hv0 hv1
    have hbd := ho.v
    have h12 := ho.v12
    have h6 := ho.b6
    have hilt : i < fV F := by omega
    have ei : (nI i).toNatClampNeg = i := nI_clamp (by omega)
    refine zb M_melts_s73 rfl ?_
    refine z_cge M_melts_d79 (tgt := 102) rfl (fun h79 => absurd h79 (show ¬ μ.1 0 1 ≤ nI i by first | exact nI_ge hilt (by omega) | (rw [hbd]; exact nI_ge hilt (by omega)))) (fun h79 => ?_)
    refine zb2 M_melts_s82 rfl (by first | assumption | exact vp_in_nI (by omega) (by omega) | decide) (by first | assumption | exact vp_in_nI (by omega) (by omega) | decide) ?_
    rw [nI_1, ei, ho.e27]
    refine ih (i + 1) _ (by omega) (ho.q (zq.w rfl)) (hz.tr (zq.w rfl)) hv0 (fun k hk => ?_)
    rw [zpI_at]
    by_cases y : k = i
    · rw [if_pos y, y]
    · rw [if_neg y]
      exact hv1 k (by omega)

set_option maxRecDepth 100000 in
set_option maxHeartbeats 4000000 in
theorem w_M_melts_o {g : zG} {d : Nat} {F : zF} {μ0 : zMem} {b day h a2 : Int32} {v k : Nat} {x7 : Option Value} {st0 : Int32 × (Nat → Int32)} (hd : 1 ≤ d) (hv12 : v < 12) (hb : fbell F v = b) (h27 : μ0.1 27 v = b) (hC : ∀ (F' : zF) (μ : zMem) (st : Int32 × (Nat → Int32)), fV F' = fV F → oM F' μ → μ.1 0 33 = st.1 → (∀ k, k < fV F → μ.1 43 k = st.2 k) → zM g (d - 1) M_melts [.ref 0, .int b, .int (nI (v + 1)), .int day, .int h] μ (melQ F' μ (melS b day h k (v + 1) F' st))) : ∀ (j i : Nat) (y : Int32) (st : Int32 × (Nat → Int32)) (μ : zMem), i + j = fB F → oM (fsb F v y) μ → zq sM (zpI μ0 27 v y) μ → (μ.1 0 33 = st.1) → (∀ k, k < fV F → μ.1 43 k = st.2 k) → (st = zfold (fun o st => if nI o = b then st else melS b day h k (v + 1) (fsb F v (nI o)) st) 0 i st0) → zW g M_melts d 106 [some (.ref 0), some (.int b), some (.int a2), some (.int day), some (.int h), some (.int (nI v)), some (.int (nI i)), x7] [] μ (melQ F μ0 (zfold (fun o st => if nI o = b then st else melS b day h k (v + 1) (fsb F v (nI o)) st) 0 (fB F) st0)) := by
  intro j
  induction j with
  | zero =>
    intro i y st μ hi ho hz hv0 hv1 hv2
    have hbd : μ.1 0 0 = nI (fB F) := ho.b
    have h6 : fB F ≤ 6 := ho.b6
    have ev : (nI v).toNatClampNeg = v := nI_clamp (by omega)
    have hvv : vp_in (nI v) 12 := vp_in_nI hv12 (by omega)
    have hi : fB F = i := by omega
    subst hi
    refine zb M_melts_s106 rfl ?_
    refine z_cge M_melts_d112 (tgt := 151) rfl (fun h112 => ?_) (fun h112 => absurd (show μ.1 0 0 ≤ nI (fB F) by first | exact Int32.le_refl _ | (rw [hbd]; exact Int32.le_refl _)) h112)
    refine zb1 M_melts_s151 rfl hvv ?_
    refine z_retV M_melts_d159 rfl ?_
    rw [ev]
    have ho2 := ho.p27 (v := v) (x := b)
    rw [fsb_2, ← hb, fsb_me] at ho2
    have hz2 := hz.up (c := 27) (k := v) (x := b)
    rw [zpI_2] at hz2
    have e := zpI_me (μ := μ0) (c := 27) (k := v)
    rw [h27] at e
    rw [e] at hz2
    rw [hb] at ho2
    exact ⟨rfl, ho2, hz2, by rw [← hv2]; exact hv0, by rw [← hv2]; exact hv1⟩
  | succ j ih =>
    intro i y st μ hi ho hz hv0 hv1 hv2
    have hbd : μ.1 0 0 = nI (fB F) := ho.b
    have h6 : fB F ≤ 6 := ho.b6
    have ev : (nI v).toNatClampNeg = v := nI_clamp (by omega)
    have hvv : vp_in (nI v) 12 := vp_in_nI hv12 (by omega)
    have hilt : i < fB F := by omega
    have ei : (nI i).toNatClampNeg = i := nI_clamp (by omega)
    refine zb M_melts_s106 rfl ?_
    refine z_cge M_melts_d112 (tgt := 151) rfl (fun h112 => absurd h112 (show ¬ μ.1 0 0 ≤ nI i by first | exact nI_ge hilt (by omega) | (rw [hbd]; exact nI_ge hilt (by omega)))) (fun h112 => ?_)
    refine zb M_melts_s115 rfl ?_
    refine z_cne M_melts_d118 (tgt := 124) rfl (fun h118 => ?_) (fun h118 => ?_)
    · refine zb1 M_melts_s124 rfl hvv ?_
      rw [nI_1, ev]
      have ho2 := ho.p27 (v := v) (x := nI i)
      rw [fsb_2] at ho2
      have hz2 := hz.up (c := 27) (k := v) (x := nI i)
      rw [zpI_2] at hz2
      refine zcallV M_melts_d142 k11_339 (by omega) (hC (fsb F v (nI i)) _ st rfl ho2 hv0 hv1) rfl rfl rfl (Nat.le_of_ble_eq_true rfl) ?_
      rintro _ μ1 ⟨rfl, ho3, hz3, hl3, hm3⟩
      refine zb M_melts_s145 rfl ?_
      rw [nI_1]
      first
        | exact ih (i + 1) (nI i) _ _ (by omega) ho3 (hz2.tr hz3) hl3 hm3 (by rw [zf0, ← hv2, if_neg h118])
        | exact ih (i + 1) y st _ (by omega) ho hz hv0 hv1 (by rw [zf0, ← hv2, if_pos h118])
    · refine zb M_melts_s121 rfl ?_
      rw [nI_1]
      first
        | exact ih (i + 1) (nI i) _ _ (by omega) ho3 (hz2.tr hz3) hl3 hm3 (by rw [zf0, ← hv2, if_neg h118])
        | exact ih (i + 1) y st _ (by omega) ho hz hv0 hv1 (by rw [zf0, ← hv2, if_pos h118])

set_option maxRecDepth 100000 in
set_option maxHeartbeats 4000000 in
theorem w_M_melts {g : zG} {b day h : Int32} : ∀ (j i : Nat) (F : zF) (d : Nat) (a2 : Int32) (x6 : Option Value) (x7 : Option Value) (st : Int32 × (Nat → Int32)) (μ : zMem), i + j = fV F → oM F μ → (49 + j ≤ d) → (μ.1 0 33 = st.1) → (∀ k, k < fV F → μ.1 43 k = st.2 k) → zW g M_melts d 3 [some (.ref 0), some (.int b), some (.int a2), some (.int day), some (.int h), some (.int (nI i)), x6, x7] [] μ (melQ F μ (melS b day h j i F st)) := by
  intro j
  induction j with
  | zero =>
    intro i F d a2 x6 x7 st μ hi ho hv0 hv1 hv2
    have hbd := ho.v
    have h12 := ho.v12
    have h6 := ho.b6
    have hz : zq sM μ μ := zq.rf
    have hi : fV F = i := by omega
    subst hi
    refine zb M_melts_s3 rfl ?_
    refine z_cge M_melts_d9 (tgt := 29) rfl (fun h9 => ?_) (fun h9 => absurd (show μ.1 0 1 ≤ nI (fV F) by first | exact Int32.le_refl _ | (rw [hbd]; exact Int32.le_refl _)) h9)
    refine zb M_melts_s29 rfl ?_
    refine z_clt M_melts_d35 (tgt := 103) rfl (fun h35 => absurd h35 (show ¬ nI (fV F) < μ.1 0 1 by rw [hbd]; exact nI_nlt (Nat.le_refl _) (by omega))) (fun h35 => ?_)
    refine zb M_melts_s38 rfl ?_
    refine zcallV M_melts_d42 k11_273 (by omega) (o_manyOff (by omega) ho) rfl rfl rfl (Nat.le_of_ble_eq_true rfl) ?_
    rintro _ μ1 ⟨rfl, hz1⟩
    replace hz := hz.tr hz1.gm
    replace ho := ho.q hz1.gm
    replace hv1 : μ1.1 0 33 = st.1 := by rw [hz1.1 0 33 rfl]; exact hv1
    replace hv2 : ∀ k, k < fV F → μ1.1 43 k = st.2 k := fun k hk => by rw [hz1.1 43 k rfl]; exact hv2 k hk
    clear hz1
    refine zb M_melts_s45 rfl ?_
    refine z_lt M_melts_d51 (tgt := 64) rfl (fun h51 => ?_) (fun h51 => ?_)
    · refine zb M_melts_s64 rfl ?_
      rw [show melS b day h 0 (fV F) F st = (manyOff F day h, fbell F) from if_neg (fun z => by
        rw [hv1] at h51
        first
          | exact z.1 h51
          | (rw [hv1] at h60
             exact z.2 h60))]
      refine w_M_melts_cp (fV F) 0 _ (by omega) (ho.q (zq.w rfl)) (hz.tr (zq.w rfl)) ?_ (fun k hk => by omega)
      rw [zpI_at, if_pos rfl]
    · refine zb M_melts_s54 rfl ?_
      refine z_clt M_melts_d60 (tgt := 64) rfl (fun h60 => ?_) (fun h60 => ?_)
      · refine zb M_melts_s64 rfl ?_
        rw [show melS b day h 0 (fV F) F st = (manyOff F day h, fbell F) from if_neg (fun z => by
          rw [hv1] at h51
          first
            | exact z.1 h51
            | (rw [hv1] at h60
               exact z.2 h60))]
        refine w_M_melts_cp (fV F) 0 _ (by omega) (ho.q (zq.w rfl)) (hz.tr (zq.w rfl)) ?_ (fun k hk => by omega)
        rw [zpI_at, if_pos rfl]
      · refine z_retV M_melts_d63 rfl ?_
        rw [hv1] at h51 h60
        refine ⟨rfl, ho, hz, ?_⟩
        rw [show melS b day h 0 (fV F) F st = st from if_pos ⟨h51, h60⟩]
        exact ⟨hv1, hv2⟩
  | succ j ih =>
    intro i F d a2 x6 x7 st μ hi ho hv0 hv1 hv2
    have hbd := ho.v
    have h12 := ho.v12
    have h6 := ho.b6
    have hz : zq sM μ μ := zq.rf
    have hilt : i < fV F := by omega
    have ei : (nI i).toNatClampNeg = i := nI_clamp (by omega)
    refine zb M_melts_s3 rfl ?_
    refine z_cge M_melts_d9 (tgt := 29) rfl (fun h9 => absurd h9 (show ¬ μ.1 0 1 ≤ nI i by first | exact nI_ge hilt (by omega) | (rw [hbd]; exact nI_ge hilt (by omega)))) (fun h9 => ?_)
    refine zb1 M_melts_s12 rfl (by first | assumption | exact vp_in_nI (by omega) (by omega) | decide) ?_
    refine z_ceq M_melts_d20 (tgt := 29) rfl (fun h20 => ?_) (fun h20 => ?_)
    · refine zb M_melts_s29 rfl ?_
      refine z_clt M_melts_d35 (tgt := 103) rfl (fun h35 => ?_) (fun h35 => absurd (show nI i < μ.1 0 1 by rw [hbd]; exact nI_lt hilt (by omega)) h35)
      refine zb M_melts_s103 rfl ?_
      rw [ho.e27, ei] at h20
      have e : melS b day h (j + 1) i F st = zfold (fun o st => if nI o = b then st else melS b day h j (i + 1) (fsb F i (nI o)) st) 0 (fB F) st := if_pos h20
      rw [e]
      refine w_M_melts_o (k := j) (by omega) (by omega) h20 (by rw [ho.e27]; exact h20) (fun F' μ1 st1 hV ho1 hl1 hm1 => ?_) (fB F) 0 (fbell F i) st μ (by omega) (by rw [fsb_me]; exact ho) ?_ hv1 hv2 rfl
      · refine zM_of (by decide +kernel) rfl rfl (Nat.le_of_ble_eq_true rfl) rfl ?_
        refine zb M_melts_s0 rfl ?_
        exact ih (i + 1) F' (d - 1) _ _ _ st1 μ1 (by omega) ho1 (by omega) hl1 (fun k hk => hm1 k (by omega))
      · have e2 := zpI_me (μ := μ) (c := 27) (k := i)
        rw [ho.e27] at e2
        rw [e2]
        exact zq.rf
    · refine zb M_melts_s23 rfl ?_
      rw [nI_1]
      rw [ho.e27, ei] at h20
      have e : melS b day h (j + 1) i F st = melS b day h j (i + 1) F st := if_neg h20
      rw [e]
      exact ih (i + 1) _ _ _ _ _ _ μ (by omega) ho (by omega) hv1 hv2

theorem o_melts {g : zG} {d : Nat} {F : zF} {μ : zMem} {b day h : Int32} (hd : 61 ≤ d) (ho : oM F μ) : zM g d M_melts [.ref 0, .int b, .int 0, .int day, .int h] μ (melQ F μ (melS b day h (fV F) 0 F (μ.1 0 33, μ.1 43))) := by
  refine zM_of (by decide +kernel) rfl rfl (Nat.le_of_ble_eq_true rfl) rfl ?_
  refine zb M_melts_s0 rfl ?_
  exact w_M_melts (fV F) 0 F d _ _ _ (μ.1 0 33, μ.1 43) μ (by omega) ho (by have := ho.v12; omega) rfl (fun k hk => rfl)
def sMelt (F : zF) (met : Nat → Int32) (b dh v : Int32) : Int32 := if isB F b ∧ tim dh ∧ (-1 ≤ v ∧ v ≤ nI (fV F) - 1) then (if ¬ onesI (setOf F b) ≤ 5 then -5 else if nI (fB F) < 2 ∨ (¬ v < 0 ∧ ¬ fbell F v.toNatClampNeg = b) then -2 else if v < 0 then (melS b (dh / 100) (hro dh) (fV F) 0 F (-1, met)).1 else (melS b (dh / 100) (hro dh) (fV F) 0 F (-1, met)).2 v.toNatClampNeg) else -1
theorem vix {V : Nat} {v : Int32} (hV : V ≤ 12) (h0 : ¬ v < 0) (h : v ≤ nI V - 1) : ∃ q, q < V ∧ v = nI q ∧ v.toNatClampNeg = q := by
  obtain ⟨q, hq, rfl⟩ := nI_of h0
  refine ⟨q, ?_, rfl, nI_clamp hq⟩
  rcases Nat.eq_zero_or_pos V with z | z
  · subst z
    have h1 := Int32.le_iff_toInt_le.mp h
    rw [nI_toInt hq, show (nI 0 - 1).toInt = -1 from rfl] at h1
    omega
  · rw [show (1 : Int32) = nI 1 from rfl, pk_sub z, nI_leI hq (by omega)] at h
    omega

set_option maxRecDepth 100000 in
set_option maxHeartbeats 4000000 in
theorem o_melt {g : zG} {d : Nat} {F : zF} {μ : zMem} {b dh v : Int32} (hd : 62 ≤ d) (ho : oM F μ) : zM g d M_melt [.ref 0, .int b, .int dh, .int v] μ (fun r μ' => r = some (.int (sMelt F (μ.1 43) b dh v)) ∧ zq sM μ μ') := by
  refine zM_of (by decide +kernel) rfl rfl (Nat.le_of_ble_eq_true rfl) rfl ?_
  have hz : zq sM μ μ := zq.rf
  have h12 := ho.v12
  have h6 := ho.b6
  refine zb M_melt_s0 rfl ?_
  refine zcallV M_melt_d2 k11_116 (by omega) (c_M_isBell _) rfl rfl rfl (Nat.le_of_ble_eq_true rfl) ?_
  rintro _ μx ⟨rfl, hx⟩
  rw [hx]
  clear hx μx
  rw [ho.b]
  refine z_eq M_melt_d5 (tgt := 31) rfl (fun h5 => ?_) (fun h5 => ?_)
  · refine zb M_melt_s31 rfl ?_
    refine z_ret M_melt_d32 rfl ?_
    unfold sMelt
    first
      | exact ⟨by rw [if_neg (fun z => (zB_eq0.mp h5) z.1)], hz⟩
      | exact ⟨by rw [if_neg (fun z => (zB_eq0.mp h13) z.2.1)], hz⟩
      | exact ⟨by rw [if_neg (fun z => (zB_eq0.mp h28) z.2.2)], hz⟩
      | exact ⟨by rw [if_pos ⟨zB_ne0.mp h5, zB_ne0.mp h13, zB_ne0.mp h28⟩, if_pos h43], hz⟩
      | exact ⟨by rw [if_pos ⟨zB_ne0.mp h5, zB_ne0.mp h13, zB_ne0.mp h28⟩, if_neg (fun z => z h43), if_pos (Or.inl (by rw [ho.b] at h54; exact h54))], hz⟩
      | exact ⟨by rw [if_pos ⟨zB_ne0.mp h5, zB_ne0.mp h13, zB_ne0.mp h28⟩, if_neg (fun z => z h43), if_pos (Or.inr (And.intro h58 (by rw [ho.e27] at h68; exact h68)))], hz⟩
      | (have hh : ¬ (nI (fB F) < 2 ∨ (¬ v < 0 ∧ ¬ fbell F v.toNatClampNeg = b)) := by
           rw [ho.b] at h54
           exact fun z => z.elim h54 (fun y => y.1 h58)
         refine ⟨?_, hz⟩
         rw [if_pos ⟨zB_ne0.mp h5, zB_ne0.mp h13, zB_ne0.mp h28⟩, if_neg (fun z => z h43), if_neg hh]
         first
           | rw [if_pos h58, hl1]; rfl
           | exact absurd h58 (Int32.not_lt.mpr h94))
      | (have hh : ¬ (nI (fB F) < 2 ∨ (¬ nI q < 0 ∧ ¬ fbell F (nI q).toNatClampNeg = b)) := by
           rw [ho.b] at h54
           rw [ho.e27] at h68
           exact fun z => z.elim h54 (fun y => y.2 h68)
         refine ⟨?_, hz⟩
         rw [if_pos ⟨zB_ne0.mp h5, zB_ne0.mp h13, zB_ne0.mp h28⟩, if_neg (fun z => z h43), if_neg hh]
         first
           | rw [if_neg h58, eq, hm1 q hq]; rfl
           | exact absurd h94 (Int32.not_le.mpr (by assumption))
           | exact absurd (Int32.not_lt.mp h58) h94)
  · refine zb M_melt_s8 rfl ?_
    refine zcallV M_melt_d10 k11_256 (by omega) (c_M_isTime _) rfl rfl rfl (Nat.le_of_ble_eq_true rfl) ?_
    rintro _ μx ⟨rfl, hx⟩
    rw [hx]
    clear hx μx
    refine z_eq M_melt_d13 (tgt := 31) rfl (fun h13 => ?_) (fun h13 => ?_)
    · refine zb M_melt_s31 rfl ?_
      refine z_ret M_melt_d32 rfl ?_
      unfold sMelt
      first
        | exact ⟨by rw [if_neg (fun z => (zB_eq0.mp h5) z.1)], hz⟩
        | exact ⟨by rw [if_neg (fun z => (zB_eq0.mp h13) z.2.1)], hz⟩
        | exact ⟨by rw [if_neg (fun z => (zB_eq0.mp h28) z.2.2)], hz⟩
        | exact ⟨by rw [if_pos ⟨zB_ne0.mp h5, zB_ne0.mp h13, zB_ne0.mp h28⟩, if_pos h43], hz⟩
        | exact ⟨by rw [if_pos ⟨zB_ne0.mp h5, zB_ne0.mp h13, zB_ne0.mp h28⟩, if_neg (fun z => z h43), if_pos (Or.inl (by rw [ho.b] at h54; exact h54))], hz⟩
        | exact ⟨by rw [if_pos ⟨zB_ne0.mp h5, zB_ne0.mp h13, zB_ne0.mp h28⟩, if_neg (fun z => z h43), if_pos (Or.inr (And.intro h58 (by rw [ho.e27] at h68; exact h68)))], hz⟩
        | (have hh : ¬ (nI (fB F) < 2 ∨ (¬ v < 0 ∧ ¬ fbell F v.toNatClampNeg = b)) := by
             rw [ho.b] at h54
             exact fun z => z.elim h54 (fun y => y.1 h58)
           refine ⟨?_, hz⟩
           rw [if_pos ⟨zB_ne0.mp h5, zB_ne0.mp h13, zB_ne0.mp h28⟩, if_neg (fun z => z h43), if_neg hh]
           first
             | rw [if_pos h58, hl1]; rfl
             | exact absurd h58 (Int32.not_lt.mpr h94))
        | (have hh : ¬ (nI (fB F) < 2 ∨ (¬ nI q < 0 ∧ ¬ fbell F (nI q).toNatClampNeg = b)) := by
             rw [ho.b] at h54
             rw [ho.e27] at h68
             exact fun z => z.elim h54 (fun y => y.2 h68)
           refine ⟨?_, hz⟩
           rw [if_pos ⟨zB_ne0.mp h5, zB_ne0.mp h13, zB_ne0.mp h28⟩, if_neg (fun z => z h43), if_neg hh]
           first
             | rw [if_neg h58, eq, hm1 q hq]; rfl
             | exact absurd h94 (Int32.not_le.mpr (by assumption))
             | exact absurd (Int32.not_lt.mp h58) h94)
    · refine zb M_melt_s16 rfl ?_
      rw [ho.v]
      refine zcallV M_melt_d25 k11_112 (by omega) (c_M_isIn _ _ _) rfl rfl rfl (Nat.le_of_ble_eq_true rfl) ?_
      rintro _ μx ⟨rfl, hx⟩
      rw [hx]
      clear hx μx
      refine z_ne M_melt_d28 (tgt := 33) rfl (fun h28 => ?_) (fun h28 => ?_)
      · refine zb M_melt_s33 rfl ?_
        refine zcallV M_melt_d36 k11_310 (by omega) (o_ofBell _ ho) rfl rfl rfl (Nat.le_of_ble_eq_true rfl) ?_
        rintro _ μx ⟨rfl, hx⟩
        rw [hx]
        clear hx μx
        refine zcallV M_melt_d39 k11_297 (by omega) (o_ones _) rfl rfl rfl (Nat.le_of_ble_eq_true rfl) ?_
        rintro _ μx ⟨rfl, hx⟩
        rw [hx]
        clear hx μx
        refine zb M_melt_s42 rfl ?_
        refine z_cle M_melt_d43 (tgt := 49) rfl (fun h43 => ?_) (fun h43 => ?_)
        · refine zb M_melt_s49 rfl ?_
          refine z_clt M_melt_d54 (tgt := 71) rfl (fun h54 => ?_) (fun h54 => ?_)
          · refine zb M_melt_s71 rfl ?_
            refine z_ret M_melt_d73 rfl ?_
            unfold sMelt
            first
              | exact ⟨by rw [if_neg (fun z => (zB_eq0.mp h5) z.1)], hz⟩
              | exact ⟨by rw [if_neg (fun z => (zB_eq0.mp h13) z.2.1)], hz⟩
              | exact ⟨by rw [if_neg (fun z => (zB_eq0.mp h28) z.2.2)], hz⟩
              | exact ⟨by rw [if_pos ⟨zB_ne0.mp h5, zB_ne0.mp h13, zB_ne0.mp h28⟩, if_pos h43], hz⟩
              | exact ⟨by rw [if_pos ⟨zB_ne0.mp h5, zB_ne0.mp h13, zB_ne0.mp h28⟩, if_neg (fun z => z h43), if_pos (Or.inl (by rw [ho.b] at h54; exact h54))], hz⟩
              | exact ⟨by rw [if_pos ⟨zB_ne0.mp h5, zB_ne0.mp h13, zB_ne0.mp h28⟩, if_neg (fun z => z h43), if_pos (Or.inr (And.intro h58 (by rw [ho.e27] at h68; exact h68)))], hz⟩
              | (have hh : ¬ (nI (fB F) < 2 ∨ (¬ v < 0 ∧ ¬ fbell F v.toNatClampNeg = b)) := by
                   rw [ho.b] at h54
                   exact fun z => z.elim h54 (fun y => y.1 h58)
                 refine ⟨?_, hz⟩
                 rw [if_pos ⟨zB_ne0.mp h5, zB_ne0.mp h13, zB_ne0.mp h28⟩, if_neg (fun z => z h43), if_neg hh]
                 first
                   | rw [if_pos h58, hl1]; rfl
                   | exact absurd h58 (Int32.not_lt.mpr h94))
              | (have hh : ¬ (nI (fB F) < 2 ∨ (¬ nI q < 0 ∧ ¬ fbell F (nI q).toNatClampNeg = b)) := by
                   rw [ho.b] at h54
                   rw [ho.e27] at h68
                   exact fun z => z.elim h54 (fun y => y.2 h68)
                 refine ⟨?_, hz⟩
                 rw [if_pos ⟨zB_ne0.mp h5, zB_ne0.mp h13, zB_ne0.mp h28⟩, if_neg (fun z => z h43), if_neg hh]
                 first
                   | rw [if_neg h58, eq, hm1 q hq]; rfl
                   | exact absurd h94 (Int32.not_le.mpr (by assumption))
                   | exact absurd (Int32.not_lt.mp h58) h94)
          · refine zb M_melt_s57 rfl ?_
            refine z_lt M_melt_d58 (tgt := 74) rfl (fun h58 => ?_) (fun h58 => ?_)
            · refine zb2 M_melt_s74 rfl (by first | exact hvi | (exact absurd h94 (Int32.not_le.mpr h58)) | decide) (by first | exact hvi | (exact absurd h94 (Int32.not_le.mpr h58)) | decide) ?_
              refine zcallV M_melt_d90 k11_339 (by omega) (o_melts (by omega) (ho.q (zq.w rfl))) rfl rfl rfl (Nat.le_of_ble_eq_true rfl) ?_
              rintro _ μ1 ⟨rfl, ho1, hz1, hl1, hm1⟩
              replace hz := (zq.w (μ := μ) (c := 0) (k := 33) (x := -1) rfl).tr hz1
              refine zb M_melt_s93 rfl ?_
              refine z_ge M_melt_d94 (tgt := 104) rfl (fun h94 => ?_) (fun h94 => ?_)
              · refine zb1 M_melt_s104 rfl (by first | exact hvi | (exact absurd h94 (Int32.not_le.mpr h58)) | decide) ?_
                refine z_ret M_melt_d110 rfl ?_
                unfold sMelt
                first
                  | exact ⟨by rw [if_neg (fun z => (zB_eq0.mp h5) z.1)], hz⟩
                  | exact ⟨by rw [if_neg (fun z => (zB_eq0.mp h13) z.2.1)], hz⟩
                  | exact ⟨by rw [if_neg (fun z => (zB_eq0.mp h28) z.2.2)], hz⟩
                  | exact ⟨by rw [if_pos ⟨zB_ne0.mp h5, zB_ne0.mp h13, zB_ne0.mp h28⟩, if_pos h43], hz⟩
                  | exact ⟨by rw [if_pos ⟨zB_ne0.mp h5, zB_ne0.mp h13, zB_ne0.mp h28⟩, if_neg (fun z => z h43), if_pos (Or.inl (by rw [ho.b] at h54; exact h54))], hz⟩
                  | exact ⟨by rw [if_pos ⟨zB_ne0.mp h5, zB_ne0.mp h13, zB_ne0.mp h28⟩, if_neg (fun z => z h43), if_pos (Or.inr (And.intro h58 (by rw [ho.e27] at h68; exact h68)))], hz⟩
                  | (have hh : ¬ (nI (fB F) < 2 ∨ (¬ v < 0 ∧ ¬ fbell F v.toNatClampNeg = b)) := by
                       rw [ho.b] at h54
                       exact fun z => z.elim h54 (fun y => y.1 h58)
                     refine ⟨?_, hz⟩
                     rw [if_pos ⟨zB_ne0.mp h5, zB_ne0.mp h13, zB_ne0.mp h28⟩, if_neg (fun z => z h43), if_neg hh]
                     first
                       | rw [if_pos h58, hl1]; rfl
                       | exact absurd h58 (Int32.not_lt.mpr h94))
                  | (have hh : ¬ (nI (fB F) < 2 ∨ (¬ nI q < 0 ∧ ¬ fbell F (nI q).toNatClampNeg = b)) := by
                       rw [ho.b] at h54
                       rw [ho.e27] at h68
                       exact fun z => z.elim h54 (fun y => y.2 h68)
                     refine ⟨?_, hz⟩
                     rw [if_pos ⟨zB_ne0.mp h5, zB_ne0.mp h13, zB_ne0.mp h28⟩, if_neg (fun z => z h43), if_neg hh]
                     first
                       | rw [if_neg h58, eq, hm1 q hq]; rfl
                       | exact absurd h94 (Int32.not_le.mpr (by assumption))
                       | exact absurd (Int32.not_lt.mp h58) h94)
              · refine zb M_melt_s97 rfl ?_
                refine z_ret M_melt_d110 rfl ?_
                unfold sMelt
                first
                  | exact ⟨by rw [if_neg (fun z => (zB_eq0.mp h5) z.1)], hz⟩
                  | exact ⟨by rw [if_neg (fun z => (zB_eq0.mp h13) z.2.1)], hz⟩
                  | exact ⟨by rw [if_neg (fun z => (zB_eq0.mp h28) z.2.2)], hz⟩
                  | exact ⟨by rw [if_pos ⟨zB_ne0.mp h5, zB_ne0.mp h13, zB_ne0.mp h28⟩, if_pos h43], hz⟩
                  | exact ⟨by rw [if_pos ⟨zB_ne0.mp h5, zB_ne0.mp h13, zB_ne0.mp h28⟩, if_neg (fun z => z h43), if_pos (Or.inl (by rw [ho.b] at h54; exact h54))], hz⟩
                  | exact ⟨by rw [if_pos ⟨zB_ne0.mp h5, zB_ne0.mp h13, zB_ne0.mp h28⟩, if_neg (fun z => z h43), if_pos (Or.inr (And.intro h58 (by rw [ho.e27] at h68; exact h68)))], hz⟩
                  | (have hh : ¬ (nI (fB F) < 2 ∨ (¬ v < 0 ∧ ¬ fbell F v.toNatClampNeg = b)) := by
                       rw [ho.b] at h54
                       exact fun z => z.elim h54 (fun y => y.1 h58)
                     refine ⟨?_, hz⟩
                     rw [if_pos ⟨zB_ne0.mp h5, zB_ne0.mp h13, zB_ne0.mp h28⟩, if_neg (fun z => z h43), if_neg hh]
                     first
                       | rw [if_pos h58, hl1]; rfl
                       | exact absurd h58 (Int32.not_lt.mpr h94))
                  | (have hh : ¬ (nI (fB F) < 2 ∨ (¬ nI q < 0 ∧ ¬ fbell F (nI q).toNatClampNeg = b)) := by
                       rw [ho.b] at h54
                       rw [ho.e27] at h68
                       exact fun z => z.elim h54 (fun y => y.2 h68)
                     refine ⟨?_, hz⟩
                     rw [if_pos ⟨zB_ne0.mp h5, zB_ne0.mp h13, zB_ne0.mp h28⟩, if_neg (fun z => z h43), if_neg hh]
                     first
                       | rw [if_neg h58, eq, hm1 q hq]; rfl
                       | exact absurd h94 (Int32.not_le.mpr (by assumption))
                       | exact absurd (Int32.not_lt.mp h58) h94)
            · obtain ⟨q, hq, rfl, eq⟩ := vix h12 (by assumption) (zB_ne0.mp h28).2
              have hvi : vp_in (nI q) 12 := vp_in_nI (by omega) (by omega)
              refine zb1 M_melt_s61 rfl (by first | exact hvi | (exact absurd h94 (Int32.not_le.mpr h58)) | decide) ?_
              refine z_ceq M_melt_d68 (tgt := 74) rfl (fun h68 => ?_) (fun h68 => ?_)
              · refine zb2 M_melt_s74 rfl (by first | exact hvi | (exact absurd h94 (Int32.not_le.mpr h58)) | decide) (by first | exact hvi | (exact absurd h94 (Int32.not_le.mpr h58)) | decide) ?_
                refine zcallV M_melt_d90 k11_339 (by omega) (o_melts (by omega) (ho.q (zq.w rfl))) rfl rfl rfl (Nat.le_of_ble_eq_true rfl) ?_
                rintro _ μ1 ⟨rfl, ho1, hz1, hl1, hm1⟩
                replace hz := (zq.w (μ := μ) (c := 0) (k := 33) (x := -1) rfl).tr hz1
                refine zb M_melt_s93 rfl ?_
                refine z_ge M_melt_d94 (tgt := 104) rfl (fun h94 => ?_) (fun h94 => ?_)
                · refine zb1 M_melt_s104 rfl (by first | exact hvi | (exact absurd h94 (Int32.not_le.mpr h58)) | decide) ?_
                  refine z_ret M_melt_d110 rfl ?_
                  unfold sMelt
                  first
                    | exact ⟨by rw [if_neg (fun z => (zB_eq0.mp h5) z.1)], hz⟩
                    | exact ⟨by rw [if_neg (fun z => (zB_eq0.mp h13) z.2.1)], hz⟩
                    | exact ⟨by rw [if_neg (fun z => (zB_eq0.mp h28) z.2.2)], hz⟩
                    | exact ⟨by rw [if_pos ⟨zB_ne0.mp h5, zB_ne0.mp h13, zB_ne0.mp h28⟩, if_pos h43], hz⟩
                    | exact ⟨by rw [if_pos ⟨zB_ne0.mp h5, zB_ne0.mp h13, zB_ne0.mp h28⟩, if_neg (fun z => z h43), if_pos (Or.inl (by rw [ho.b] at h54; exact h54))], hz⟩
                    | exact ⟨by rw [if_pos ⟨zB_ne0.mp h5, zB_ne0.mp h13, zB_ne0.mp h28⟩, if_neg (fun z => z h43), if_pos (Or.inr (And.intro h58 (by rw [ho.e27] at h68; exact h68)))], hz⟩
                    | (have hh : ¬ (nI (fB F) < 2 ∨ (¬ v < 0 ∧ ¬ fbell F v.toNatClampNeg = b)) := by
                         rw [ho.b] at h54
                         exact fun z => z.elim h54 (fun y => y.1 h58)
                       refine ⟨?_, hz⟩
                       rw [if_pos ⟨zB_ne0.mp h5, zB_ne0.mp h13, zB_ne0.mp h28⟩, if_neg (fun z => z h43), if_neg hh]
                       first
                         | rw [if_pos h58, hl1]; rfl
                         | exact absurd h58 (Int32.not_lt.mpr h94))
                    | (have hh : ¬ (nI (fB F) < 2 ∨ (¬ nI q < 0 ∧ ¬ fbell F (nI q).toNatClampNeg = b)) := by
                         rw [ho.b] at h54
                         rw [ho.e27] at h68
                         exact fun z => z.elim h54 (fun y => y.2 h68)
                       refine ⟨?_, hz⟩
                       rw [if_pos ⟨zB_ne0.mp h5, zB_ne0.mp h13, zB_ne0.mp h28⟩, if_neg (fun z => z h43), if_neg hh]
                       first
                         | rw [if_neg h58, eq, hm1 q hq]; rfl
                         | exact absurd h94 (Int32.not_le.mpr (by assumption))
                         | exact absurd (Int32.not_lt.mp h58) h94)
                · refine zb M_melt_s97 rfl ?_
                  refine z_ret M_melt_d110 rfl ?_
                  unfold sMelt
                  first
                    | exact ⟨by rw [if_neg (fun z => (zB_eq0.mp h5) z.1)], hz⟩
                    | exact ⟨by rw [if_neg (fun z => (zB_eq0.mp h13) z.2.1)], hz⟩
                    | exact ⟨by rw [if_neg (fun z => (zB_eq0.mp h28) z.2.2)], hz⟩
                    | exact ⟨by rw [if_pos ⟨zB_ne0.mp h5, zB_ne0.mp h13, zB_ne0.mp h28⟩, if_pos h43], hz⟩
                    | exact ⟨by rw [if_pos ⟨zB_ne0.mp h5, zB_ne0.mp h13, zB_ne0.mp h28⟩, if_neg (fun z => z h43), if_pos (Or.inl (by rw [ho.b] at h54; exact h54))], hz⟩
                    | exact ⟨by rw [if_pos ⟨zB_ne0.mp h5, zB_ne0.mp h13, zB_ne0.mp h28⟩, if_neg (fun z => z h43), if_pos (Or.inr (And.intro h58 (by rw [ho.e27] at h68; exact h68)))], hz⟩
                    | (have hh : ¬ (nI (fB F) < 2 ∨ (¬ v < 0 ∧ ¬ fbell F v.toNatClampNeg = b)) := by
                         rw [ho.b] at h54
                         exact fun z => z.elim h54 (fun y => y.1 h58)
                       refine ⟨?_, hz⟩
                       rw [if_pos ⟨zB_ne0.mp h5, zB_ne0.mp h13, zB_ne0.mp h28⟩, if_neg (fun z => z h43), if_neg hh]
                       first
                         | rw [if_pos h58, hl1]; rfl
                         | exact absurd h58 (Int32.not_lt.mpr h94))
                    | (have hh : ¬ (nI (fB F) < 2 ∨ (¬ nI q < 0 ∧ ¬ fbell F (nI q).toNatClampNeg = b)) := by
                         rw [ho.b] at h54
                         rw [ho.e27] at h68
                         exact fun z => z.elim h54 (fun y => y.2 h68)
                       refine ⟨?_, hz⟩
                       rw [if_pos ⟨zB_ne0.mp h5, zB_ne0.mp h13, zB_ne0.mp h28⟩, if_neg (fun z => z h43), if_neg hh]
                       first
                         | rw [if_neg h58, eq, hm1 q hq]; rfl
                         | exact absurd h94 (Int32.not_le.mpr (by assumption))
                         | exact absurd (Int32.not_lt.mp h58) h94)
              · refine zb M_melt_s71 rfl ?_
                refine z_ret M_melt_d73 rfl ?_
                unfold sMelt
                first
                  | exact ⟨by rw [if_neg (fun z => (zB_eq0.mp h5) z.1)], hz⟩
                  | exact ⟨by rw [if_neg (fun z => (zB_eq0.mp h13) z.2.1)], hz⟩
                  | exact ⟨by rw [if_neg (fun z => (zB_eq0.mp h28) z.2.2)], hz⟩
                  | exact ⟨by rw [if_pos ⟨zB_ne0.mp h5, zB_ne0.mp h13, zB_ne0.mp h28⟩, if_pos h43], hz⟩
                  | exact ⟨by rw [if_pos ⟨zB_ne0.mp h5, zB_ne0.mp h13, zB_ne0.mp h28⟩, if_neg (fun z => z h43), if_pos (Or.inl (by rw [ho.b] at h54; exact h54))], hz⟩
                  | exact ⟨by rw [if_pos ⟨zB_ne0.mp h5, zB_ne0.mp h13, zB_ne0.mp h28⟩, if_neg (fun z => z h43), if_pos (Or.inr (And.intro h58 (by rw [ho.e27] at h68; exact h68)))], hz⟩
                  | (have hh : ¬ (nI (fB F) < 2 ∨ (¬ v < 0 ∧ ¬ fbell F v.toNatClampNeg = b)) := by
                       rw [ho.b] at h54
                       exact fun z => z.elim h54 (fun y => y.1 h58)
                     refine ⟨?_, hz⟩
                     rw [if_pos ⟨zB_ne0.mp h5, zB_ne0.mp h13, zB_ne0.mp h28⟩, if_neg (fun z => z h43), if_neg hh]
                     first
                       | rw [if_pos h58, hl1]; rfl
                       | exact absurd h58 (Int32.not_lt.mpr h94))
                  | (have hh : ¬ (nI (fB F) < 2 ∨ (¬ nI q < 0 ∧ ¬ fbell F (nI q).toNatClampNeg = b)) := by
                       rw [ho.b] at h54
                       rw [ho.e27] at h68
                       exact fun z => z.elim h54 (fun y => y.2 h68)
                     refine ⟨?_, hz⟩
                     rw [if_pos ⟨zB_ne0.mp h5, zB_ne0.mp h13, zB_ne0.mp h28⟩, if_neg (fun z => z h43), if_neg hh]
                     first
                       | rw [if_neg h58, eq, hm1 q hq]; rfl
                       | exact absurd h94 (Int32.not_le.mpr (by assumption))
                       | exact absurd (Int32.not_lt.mp h58) h94)
        · refine zb M_melt_s46 rfl ?_
          refine z_ret M_melt_d48 rfl ?_
          unfold sMelt
          first
            | exact ⟨by rw [if_neg (fun z => (zB_eq0.mp h5) z.1)], hz⟩
            | exact ⟨by rw [if_neg (fun z => (zB_eq0.mp h13) z.2.1)], hz⟩
            | exact ⟨by rw [if_neg (fun z => (zB_eq0.mp h28) z.2.2)], hz⟩
            | exact ⟨by rw [if_pos ⟨zB_ne0.mp h5, zB_ne0.mp h13, zB_ne0.mp h28⟩, if_pos h43], hz⟩
            | exact ⟨by rw [if_pos ⟨zB_ne0.mp h5, zB_ne0.mp h13, zB_ne0.mp h28⟩, if_neg (fun z => z h43), if_pos (Or.inl (by rw [ho.b] at h54; exact h54))], hz⟩
            | exact ⟨by rw [if_pos ⟨zB_ne0.mp h5, zB_ne0.mp h13, zB_ne0.mp h28⟩, if_neg (fun z => z h43), if_pos (Or.inr (And.intro h58 (by rw [ho.e27] at h68; exact h68)))], hz⟩
            | (have hh : ¬ (nI (fB F) < 2 ∨ (¬ v < 0 ∧ ¬ fbell F v.toNatClampNeg = b)) := by
                 rw [ho.b] at h54
                 exact fun z => z.elim h54 (fun y => y.1 h58)
               refine ⟨?_, hz⟩
               rw [if_pos ⟨zB_ne0.mp h5, zB_ne0.mp h13, zB_ne0.mp h28⟩, if_neg (fun z => z h43), if_neg hh]
               first
                 | rw [if_pos h58, hl1]; rfl
                 | exact absurd h58 (Int32.not_lt.mpr h94))
            | (have hh : ¬ (nI (fB F) < 2 ∨ (¬ nI q < 0 ∧ ¬ fbell F (nI q).toNatClampNeg = b)) := by
                 rw [ho.b] at h54
                 rw [ho.e27] at h68
                 exact fun z => z.elim h54 (fun y => y.2 h68)
               refine ⟨?_, hz⟩
               rw [if_pos ⟨zB_ne0.mp h5, zB_ne0.mp h13, zB_ne0.mp h28⟩, if_neg (fun z => z h43), if_neg hh]
               first
                 | rw [if_neg h58, eq, hm1 q hq]; rfl
                 | exact absurd h94 (Int32.not_le.mpr (by assumption))
                 | exact absurd (Int32.not_lt.mp h58) h94)
      · refine zb M_melt_s31 rfl ?_
        refine z_ret M_melt_d32 rfl ?_
        unfold sMelt
        first
          | exact ⟨by rw [if_neg (fun z => (zB_eq0.mp h5) z.1)], hz⟩
          | exact ⟨by rw [if_neg (fun z => (zB_eq0.mp h13) z.2.1)], hz⟩
          | exact ⟨by rw [if_neg (fun z => (zB_eq0.mp h28) z.2.2)], hz⟩
          | exact ⟨by rw [if_pos ⟨zB_ne0.mp h5, zB_ne0.mp h13, zB_ne0.mp h28⟩, if_pos h43], hz⟩
          | exact ⟨by rw [if_pos ⟨zB_ne0.mp h5, zB_ne0.mp h13, zB_ne0.mp h28⟩, if_neg (fun z => z h43), if_pos (Or.inl (by rw [ho.b] at h54; exact h54))], hz⟩
          | exact ⟨by rw [if_pos ⟨zB_ne0.mp h5, zB_ne0.mp h13, zB_ne0.mp h28⟩, if_neg (fun z => z h43), if_pos (Or.inr (And.intro h58 (by rw [ho.e27] at h68; exact h68)))], hz⟩
          | (have hh : ¬ (nI (fB F) < 2 ∨ (¬ v < 0 ∧ ¬ fbell F v.toNatClampNeg = b)) := by
               rw [ho.b] at h54
               exact fun z => z.elim h54 (fun y => y.1 h58)
             refine ⟨?_, hz⟩
             rw [if_pos ⟨zB_ne0.mp h5, zB_ne0.mp h13, zB_ne0.mp h28⟩, if_neg (fun z => z h43), if_neg hh]
             first
               | rw [if_pos h58, hl1]; rfl
               | exact absurd h58 (Int32.not_lt.mpr h94))
          | (have hh : ¬ (nI (fB F) < 2 ∨ (¬ nI q < 0 ∧ ¬ fbell F (nI q).toNatClampNeg = b)) := by
               rw [ho.b] at h54
               rw [ho.e27] at h68
               exact fun z => z.elim h54 (fun y => y.2 h68)
             refine ⟨?_, hz⟩
             rw [if_pos ⟨zB_ne0.mp h5, zB_ne0.mp h13, zB_ne0.mp h28⟩, if_neg (fun z => z h43), if_neg hh]
             first
               | rw [if_neg h58, eq, hm1 q hq]; rfl
               | exact absurd h94 (Int32.not_le.mpr (by assumption))
               | exact absurd (Int32.not_lt.mp h58) h94)
