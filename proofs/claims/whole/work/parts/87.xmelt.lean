/-! the class: vows melted out of a bell -/
theorem cntB_s (F : zF) (b v : Nat) : cntB F b (v + 1) = cntB F b v + isb F b v := rfl
theorem cnt_mono {F : zF} {b : Nat} : ∀ (k v : Nat), cntB F b v ≤ cntB F b (v + k)
  | 0, _ => Nat.le_refl _
  | k + 1, v => by
    have := cnt_mono (F := F) (b := b) k v
    rw [show v + (k + 1) = (v + k) + 1 by omega, cntB_s]
    omega
theorem cnt_le {F : zF} {b u v : Nat} (h : u ≤ v) : cntB F b u ≤ cntB F b v := by
  have := cnt_mono (F := F) (b := b) (v - u) u
  rw [show u + (v - u) = v by omega] at this
  exact this
theorem cnt_lt {F : zF} {b u v : Nat} (h : u < v) (hu : fbell F u = nI b) : cntB F b u < cntB F b v := by
  have h1 := cnt_le (F := F) (b := b) (show u + 1 ≤ v from h)
  rw [cntB_s, show isb F b u = 1 from if_pos hu] at h1
  omega
theorem cnt_inj {F : zF} {b u v : Nat} (hu : fbell F u = nI b) (hv : fbell F v = nI b) (h : cntB F b u = cntB F b v) : u = v := by
  rcases Nat.lt_trichotomy u v with z | z | z
  · have := cnt_lt z hu; omega
  · exact z
  · have := cnt_lt z hv; omega
theorem cnt_ex {F : zF} {b : Nat} : ∀ (V p : Nat), p < cntB F b V → ∃ v, v < V ∧ fbell F v = nI b ∧ cntB F b v = p
  | 0, p, h => absurd h (Nat.not_lt_zero _)
  | V + 1, p, h => by
    rw [cntB_s] at h
    by_cases q : fbell F V = nI b
    · rw [show isb F b V = 1 from if_pos q] at h
      by_cases y : p = cntB F b V
      · exact ⟨V, by omega, q, y.symm⟩
      · obtain ⟨v, h1, h2⟩ := cnt_ex (F := F) (b := b) V p (by omega)
        exact ⟨v, by omega, h2⟩
    · rw [show isb F b V = 0 from if_neg q] at h
      obtain ⟨v, h1, h2⟩ := cnt_ex (F := F) (b := b) V p (by omega)
      exact ⟨v, by omega, h2⟩
theorem cnt_pop {F : zF} (hV : fV F ≤ 12) {b : Nat} : cntB F b (fV F) = popN 12 (lyA F b) := by
  rw [popN_sum]
  have e : 12 = fV F + (12 - fV F) := by omega
  rw [show nsm (fun v => lyA F b / 2 ^ v % 2) 12 = nsm (fun v => lyA F b / 2 ^ v % 2) (fV F + (12 - fV F)) by rw [← e], nsm_split]
  have z : nsm (fun i => lyA F b / 2 ^ (fV F + i) % 2) (12 - fV F) = 0 := by
    rw [nsm_congr (g := fun _ => 0) _ (fun i _ => by
      have h1 : ¬ lyA F b / 2 ^ (fV F + i) % 2 = 1 := fun y => by
        have := (lyA_at.mp y).1
        omega
      exact (Nat.mod_two_eq_zero_or_one _).resolve_right h1), nsm_0]
  rw [z, Nat.add_zero]
  unfold cntB
  refine nsm_congr _ (fun v hv => ?_)
  unfold isb
  by_cases q : fbell F v = nI b
  · rw [if_pos q, lyA_at.mpr ⟨hv, q⟩]
  · rw [if_neg q]
    exact ((Nat.mod_two_eq_zero_or_one _).resolve_right (fun y => q (lyA_at.mp y).2)).symm
theorem rem_cnt {F : zF} {b : Nat} : remB F b (fV F) 0 = cntB F b (fV F) := by
  have := cnt_rem (F := F) (b := b) (fV F) 0
  rw [Nat.zero_add] at this
  rw [← this]
  show _ = 0 + _
  rw [Nat.zero_add]
theorem leaf_dig {F : zF} {b K w u : Nat} (hw : w < K ^ cntB F b (fV F)) (hu : u < fV F) : fbell (leafF b K (fV F) 0 F w) u = if fbell F u = nI b then nI (oth b (w / K ^ (cntB F b (fV F) - 1 - cntB F b u) % K)) else fbell F u := by
  rw [leaf_at (fV F) 0 F w u (by rw [rem_cnt]; exact hw) (Nat.zero_le _) (by omega)]
  by_cases q : fbell F u = nI b
  · rw [if_pos q, if_pos q]
    have h1 := cnt_rem (F := F) (b := b) (0 + fV F - (u + 1)) (u + 1)
    rw [show u + 1 + (0 + fV F - (u + 1)) = fV F by omega, cntB_s, show isb F b u = 1 from if_pos q] at h1
    rw [show remB F b (0 + fV F - (u + 1)) (u + 1) = cntB F b (fV F) - 1 - cntB F b u by omega]
  · rw [if_neg q, if_neg q]
theorem oth_lt {b q B : Nat} (hb : b < B) (hq : q < B - 1) : oth b q < B := by
  unfold oth
  split <;> omega
theorem leaf_ok {b K : Nat} : ∀ (k v : Nat) (F : zF) (w : Nat), okF F → b < fB F → K = fB F - 1 → w < K ^ remB F b k v → okF (leafF b K k v F w)
  | 0, _, _, _, hF, _, _, _ => hF
  | k + 1, v, F, w, hF, hb, hK, hw => by
    rw [remB] at hw
    rw [leafF]
    by_cases q : fbell F v = nI b
    · have ei : isb F b v = 1 := if_pos q
      rw [ei, Nat.add_comm 1 (remB F b k (v + 1)), Nat.pow_succ, Nat.mul_comm] at hw
      have hpos : 0 < K ^ remB F b k (v + 1) := Nat.pos_of_ne_zero (fun z => by rw [z, Nat.mul_zero] at hw; omega)
      have hq : w / K ^ remB F b k (v + 1) < K := (Nat.div_lt_iff_lt_mul hpos).mpr hw
      rw [if_pos q]
      refine leaf_ok k (v + 1) _ _ (okF_fsb hF ⟨_, oth_lt hb (by rw [← hK]; exact hq), rfl⟩) hb hK ?_
      rw [rem_fsb k (v + 1) (by omega)]
      exact Nat.mod_lt _ hpos
    · have ei : isb F b v = 0 := if_neg q
      rw [ei, Nat.zero_add] at hw
      rw [if_neg q]
      exact leaf_ok k (v + 1) F w hF hb hK hw
def trM (F : zF) (b K w : Nat) (day h : Int32) (j q v : Nat) : Int32 := if fbell F v = nI b ∧ j ≤ cntB F b v ∧ oth b (w / K ^ (cntB F b (fV F) - 1 - cntB F b v) % K) = q then pu F v (nI q) day h else 0
theorem tr_step {F : zF} {b K w j q v0 : Nat} {day h : Int32} (hv : v0 < fV F) (hb : fbell F v0 = nI b) (hc : cntB F b v0 = j) : zsum (trM F b K w day h j q) (fV F) = zsum (trM F b K w day h (j + 1) q) (fV F) + if oth b (w / K ^ (cntB F b (fV F) - 1 - j) % K) = q then pu F v0 (nI q) day h else 0 := by
  have k := zsum_upd (f := trM F b K w day h j q) (g := trM F b K w day h (j + 1) q) (v := v0) (n := fV F) hv (fun u hu hne => by
    unfold trM
    by_cases y : fbell F u = nI b ∧ j + 1 ≤ cntB F b u ∧ oth b (w / K ^ (cntB F b (fV F) - 1 - cntB F b u) % K) = q
    · rw [if_pos y, if_pos ⟨y.1, by omega, y.2.2⟩]
    · rw [if_neg y, if_neg (fun z => y ⟨z.1, by
        have h1 := z.2.1
        by_cases e : cntB F b u = j
        · exact absurd (cnt_inj z.1 hb (e.trans hc.symm)) hne
        · omega, z.2.2⟩)])
  have e0 : trM F b K w day h (j + 1) q v0 = 0 := if_neg (fun z => by omega)
  have e1 : trM F b K w day h j q v0 = if oth b (w / K ^ (cntB F b (fV F) - 1 - j) % K) = q then pu F v0 (nI q) day h else 0 := by
    unfold trM
    rw [hc]
    by_cases y : oth b (w / K ^ (cntB F b (fV F) - 1 - j) % K) = q
    · rw [if_pos ⟨hb, Nat.le_refl _, y⟩, if_pos y]
    · rw [if_neg (fun z => y z.2.2), if_neg y]
  rw [e0, e1, Int32.sub_zero] at k
  exact k
theorem tr_end {F : zF} {b K w q : Nat} {day h : Int32} (hV : fV F ≤ 12) (hb6 : b < 6) (hK : K ≤ 6) (hw : w < K ^ cntB F b (fV F)) (hq : q < 6) : offW F day h (nI (lyA F b)) q + zsum (trM F b K w day h 0 q) (fV F) = offs (leafF b K (fV F) 0 F w) (nI q) day h := by
  obtain ⟨l1, l2, l3, l4⟩ := leaf_V (b := b) (K := K) (fV F) 0 F w
  unfold offW offs
  rw [← zsum_add, l3]
  refine zsum_congr _ (fun v hv => ?_)
  have hA4 := lt_2 hV (lyA_lt F b)
  have hbt := bit_at (v := v) (x := lyA F b) (by omega) hA4
  have hd := leaf_dig (F := F) (b := b) (K := K) (w := w) hw hv
  unfold offWT trM offT
  rw [hd, l4, hbt]
  by_cases z : fbell F v = nI b
  · have h1 : lyA F b / 2 ^ v % 2 = 1 := lyA_at.mpr ⟨hv, z⟩
    rw [h1, if_neg (fun y => absurd y.1 (by decide)), if_pos z, Int32.zero_add]
    have hK0 : oth b (w / K ^ (cntB F b (fV F) - 1 - cntB F b v) % K) < 2 ^ 31 := by
      rcases Nat.eq_zero_or_pos K with k0 | k0
      · subst k0
        have hc : 0 < cntB F b (fV F) := by
          have := cnt_lt hv z
          omega
        rw [show (0 : Nat) ^ cntB F b (fV F) = 0 from Nat.zero_pow hc] at hw
        omega
      · have := Nat.mod_lt (w / K ^ (cntB F b (fV F) - 1 - cntB F b v)) k0
        unfold oth
        split <;> omega
    by_cases y : oth b (w / K ^ (cntB F b (fV F) - 1 - cntB F b v) % K) = q
    · rw [if_pos ⟨z, Nat.zero_le _, y⟩, if_pos (by rw [y])]
    · rw [if_neg (fun x => y x.2.2), if_neg (fun x => y ((nI_eq hK0 (by omega)).mp x))]
  · have h0 : lyA F b / 2 ^ v % 2 = 0 := (Nat.mod_two_eq_zero_or_one _).resolve_right (fun y => z (lyA_at.mp y).2)
    rw [h0, if_neg z]
    have t0 : ¬ (fbell F v = nI b ∧ 0 ≤ cntB F b v ∧ oth b (w / K ^ (cntB F b (fV F) - 1 - cntB F b v) % K) = q) := fun x => z x.1
    by_cases y : fbell F v = nI q
    · rw [if_pos ⟨rfl, y⟩, if_pos y, if_neg t0, Int32.add_zero]
    · rw [if_neg (show ¬ (nI 0 = 0 ∧ fbell F v = nI q) from fun x => y x.2), if_neg y, if_neg t0, Int32.add_zero]
def mM (c k : Nat) : Bool := nS c k || c == 73 || c == 74
theorem mM_sX : ∀ c k, mM c k = true → sX c k = true := by
  intro c k h
  unfold mM at h
  simp only [Bool.or_eq_true, beq_iff_eq] at h
  rcases h with (h | h) | h
  · exact nS_sX c k h
  · subst h; rfl
  · subst h; rfl
theorem nS_mM : ∀ c k, nS c k = true → mM c k = true := by
  intro c k h
  unfold mM
  rw [h]
  rfl
def mvd (F : zF) (b : Nat) (day h : Int32) (i : Nat) (μ : zMem) : Prop := ∀ v, v < i → fbell F v = nI b → μ.1 73 (cntB F b v) = nI v ∧ ∀ q, q < fB F → μ.1 74 (6 * cntB F b v + q) = pu F v (nI q) day h

set_option maxRecDepth 100000 in
set_option maxHeartbeats 4000000 in
theorem w_mvI {g : zG} {d : Nat} {F : zF} {μ0 μ1 : zMem} {b c v : Nat} {day h : Int32} {Q : Option Value → zMem → Prop} (hF : okF F) (hd : 5 ≤ d) (hv : v < fV F) (hc : c < 5) (hQ : ∀ (μ : zMem) (x6 : Option Value), oX F μ → zq mM μ0 μ → (∀ p, μ.1 73 p = μ1.1 73 p) → (∀ p, p < 6 * c → μ.1 74 p = μ1.1 74 p) → (∀ q, q < fB F → μ.1 74 (6 * c + q) = pu F v (nI q) day h) → zW g C_moveAll d 103 [some (.ref 6), some (.int (nI b)), some (.int day), some (.int h), some (.int (nI c)), some (.int (nI v)), x6] [] μ Q) : ∀ (j i : Nat) (μ : zMem), i + j = fB F → oX F μ → zq mM μ0 μ → (∀ p, μ.1 73 p = μ1.1 73 p) → (∀ p, p < 6 * c → μ.1 74 p = μ1.1 74 p) → (∀ q, q < i → μ.1 74 (6 * c + q) = pu F v (nI q) day h) → zW g C_moveAll d 50 [some (.ref 6), some (.int (nI b)), some (.int day), some (.int h), some (.int (nI c)), some (.int (nI v)), some (.int (nI i))] [] μ (Q) := by
  intro j
  induction j with
  | zero =>
    intro i  μ hi ho hz hv0 hv1 hv2
    have hbd := ho.b
    have h12 := ho.v12
    have h6 := ho.b6
    have hi : fB F = i := by omega
    subst hi
    refine zb C_moveAll_s50 rfl ?_
    refine z_cge C_moveAll_d59 (tgt := 103) rfl (fun h59 => ?_) (fun h59 => absurd (show μ.1 2 7 ≤ nI (fB F) by first | exact Int32.le_refl _ | (rw [hbd]; exact Int32.le_refl _)) h59)
    exact hQ μ _ ho hz hv0 hv1 hv2
  | succ j ih =>
    intro i  μ hi ho hz hv0 hv1 hv2
    have hbd := ho.b
    have h12 := ho.v12
    have h6 := ho.b6
    have hilt : i < fB F := by omega
    have ei : (nI i).toNatClampNeg = i := nI_clamp (by omega)
    have e6 : (6 : Int32) * nI c + nI i = nI (6 * c + i) := by rw [show (6 : Int32) = nI 6 from rfl, pk_mul, nI_add]
    have hvx : vp_in (nI (6 * c + i)) 30 := vp_in_nI (by omega) (by omega)
    have ecx : (nI (6 * c + i)).toNatClampNeg = 6 * c + i := nI_clamp (by omega)
    refine zb C_moveAll_s50 rfl ?_
    refine z_cge C_moveAll_d59 (tgt := 103) rfl (fun h59 => absurd h59 (show ¬ μ.1 2 7 ≤ nI i by first | exact nI_ge hilt (by omega) | (rw [hbd]; exact nI_ge hilt (by omega)))) (fun h59 => ?_)
    refine zb C_moveAll_s62 rfl ?_
    refine zcallV C_moveAll_d89 k1_52 (by omega) (x_daysBroken (i := v) _ (by omega) (by omega) ho) rfl rfl rfl (Nat.le_of_ble_eq_true rfl) ?_
    rintro _ μx ⟨rfl, hx⟩
    rw [hx]
    clear hx μx
    refine zb C_moveAll_s92 rfl ?_
    refine zcallV C_moveAll_d93 k1_60 (by omega) (x_offIf (by omega) (by omega) ho) rfl rfl rfl (Nat.le_of_ble_eq_true rfl) ?_
    rintro _ μ2 ⟨rfl, hz2⟩
    have k0 : ∀ p, μ2.1 73 p = μ1.1 73 p := fun p => by rw [hz2.1 73 p rfl]; exact hv0 p
    have k1 : ∀ p, p < 6 * c → μ2.1 74 p = μ1.1 74 p := fun p hp => by rw [hz2.1 74 p rfl]; exact hv1 p hp
    have k2 : ∀ q, q < i → μ2.1 74 (6 * c + q) = pu F v (nI q) day h := fun q hq => by rw [hz2.1 74 _ rfl]; exact hv2 q hq
    replace hz := hz.tr (hz2.mono nS_mM)
    replace ho := ho.q (hz2.mono nS_sX)
    rw [ofI_pu hF hv]
    refine zb1 C_moveAll_s96 rfl (by rw [e6]; exact hvx) ?_
    rw [e6, ecx, nI_1]
    refine ih (i + 1) _ (by omega) (ho.q (zq.w (m := sX) rfl)) (hz.tr (zq.w rfl)) (fun p => by rw [zpI_ne (by decide)]; exact k0 p) (fun p hp => by rw [zpI_at, if_neg (by omega)]; exact k1 p hp) (fun q hq => ?_)
    rw [zpI_at]
    by_cases y : q = i
    · rw [if_pos (by omega), y]
    · rw [if_neg (by omega)]
      exact k2 q (by omega)

set_option maxRecDepth 100000 in
set_option maxHeartbeats 4000000 in
theorem w_mv {g : zG} {d : Nat} {F : zF} {μ0 : zMem} {b : Nat} {day h : Int32} (hF : okF F) (hd : 5 ≤ d) (h5 : cntB F b (fV F) ≤ 5) (hb6 : b < 6) : ∀ (j i : Nat) (x6 : Option Value) (μ : zMem), i + j = fV F → oX F μ → zq mM μ0 μ → (mvd F b day h i μ) → zW g C_moveAll d 6 [some (.ref 6), some (.int (nI b)), some (.int day), some (.int h), some (.int (nI (cntB F b i))), some (.int (nI i)), x6] [] μ (fun r μ' => r = some (.int (nI (cntB F b (fV F)))) ∧ zq mM μ0 μ' ∧ mvd F b day h (fV F) μ') := by
  intro j
  induction j with
  | zero =>
    intro i x6 μ hi ho hz hv0
    have hbd := ho.v
    have h12 := ho.v12
    have h6 := ho.b6
    have hi : fV F = i := by omega
    subst hi
    refine zb C_moveAll_s6 rfl ?_
    refine z_cge C_moveAll_d15 (tgt := 112) rfl (fun h15 => ?_) (fun h15 => absurd (show μ.1 2 8 ≤ nI (fV F) by first | exact Int32.le_refl _ | (rw [hbd]; exact Int32.le_refl _)) h15)
    refine zb C_moveAll_s112 rfl ?_
    refine z_ret C_moveAll_d114 rfl ?_
    exact ⟨rfl, hz, hv0⟩
  | succ j ih =>
    intro i x6 μ hi ho hz hv0
    have hbd := ho.v
    have h12 := ho.v12
    have h6 := ho.b6
    have hilt : i < fV F := by omega
    have ei : (nI i).toNatClampNeg = i := nI_clamp (by omega)
    have hvi : vp_in (nI i) 12 := vp_in_nI (by omega) (by omega)
    have e56 := ho.e56
    have hle := cnt_le (F := F) (b := b) (show i ≤ fV F by omega)
    have ecc : (nI (cntB F b i)).toNatClampNeg = cntB F b i := nI_clamp (by omega)
    refine zb C_moveAll_s6 rfl ?_
    refine z_cge C_moveAll_d15 (tgt := 112) rfl (fun h15 => absurd h15 (show ¬ μ.1 2 8 ≤ nI i by first | exact nI_ge hilt (by omega) | (rw [hbd]; exact nI_ge hilt (by omega)))) (fun h15 => ?_)
    refine zb C_moveAll_s18 rfl ?_
    refine z_cge C_moveAll_d21 (tgt := 112) rfl (fun h21 => ?_) (fun h21 => ?_)
    · refine zb C_moveAll_s112 rfl ?_
      refine z_ret C_moveAll_d114 rfl ?_
      have hge := (nI_leI (a := 5) (by omega) (by omega)).mp h21
      have hno : ∀ v, i ≤ v → v < fV F → ¬ fbell F v = nI b := fun v h1 h2 z => by
        have q1 := cnt_le (F := F) (b := b) h1
        have q2 := cnt_lt h2 z
        omega
      refine ⟨by rw [show cntB F b i = cntB F b (fV F) by omega], hz, fun v hv hb => ?_⟩
      by_cases y : v < i
      · exact hv0 v y hb
      · exact absurd hb (hno v (by omega) hv)
    · refine zb1 C_moveAll_s24 rfl (by first | exact hvi | exact vp_in_nI (by have h5c := (nI_ltI (b := 5) (by omega) (by omega)).mp (Int32.not_le.mp h21); omega) (by omega)) ?_
      refine z_cne C_moveAll_d35 (tgt := 106) rfl (fun h35 => ?_) (fun h35 => ?_)
      · refine zb C_moveAll_s106 rfl ?_
        rw [e56, ei] at h35
        rw [nI_1]
        have ec : cntB F b (i + 1) = cntB F b i := by rw [cntB_s, show isb F b i = 0 from if_neg h35, Nat.add_zero]
        rw [← ec]
        refine ih (i + 1) _ _ (by omega) ho hz (fun v hv hb => ?_)
        by_cases y : v = i
        · rw [y] at hb; exact absurd hb h35
        · exact hv0 v (by omega) hb
      · refine zb1 C_moveAll_s38 rfl (by first | exact hvi | exact vp_in_nI (by have h5c := (nI_ltI (b := 5) (by omega) (by omega)).mp (Int32.not_le.mp h21); omega) (by omega)) ?_
        rw [e56, ei] at h35
        rw [ecc]
        have h5c := (nI_ltI (b := 5) (by omega) (by omega)).mp (Int32.not_le.mp h21)
        have hz1 : zq mM μ (zpI μ 73 (cntB F b i) (nI i)) := zq.w rfl
        refine w_mvI (μ0 := μ0) (μ1 := zpI μ 73 (cntB F b i) (nI i)) hF (by omega) hilt h5c (fun μ2 y6 ho2 hz2 k0 k1 k2 => ?_) (fB F) 0 _ (by omega) (ho.q (hz1.mono mM_sX)) (hz.tr hz1) (fun _ => rfl) (fun _ _ => rfl) (fun q hq => absurd hq (Nat.not_lt_zero _))
        have ec : cntB F b (i + 1) = cntB F b i + 1 := by rw [cntB_s, show isb F b i = 1 from if_pos h35]
        have hmv : mvd F b day h (i + 1) μ2 := fun v hv hb => by
          by_cases y : v = i
          · subst y
            refine ⟨by rw [k0, zpI_at, if_pos rfl], k2⟩
          · have hlt := cnt_lt (F := F) (b := b) (show v < i by omega) hb
            have hvv := hv0 v (by omega) hb
            refine ⟨by rw [k0, zpI_at, if_neg (by omega)]; exact hvv.1, fun q hq => ?_⟩
            have hB6 := ho.b6
            rw [k1 _ (by omega), zpI_ne (by decide)]
            exact hvv.2 q hq
        refine zb C_moveAll_s103 rfl ?_
        rw [nI_1, nI_1, ← ec]
        exact ih (i + 1) _ _ (by omega) ho2 hz2 hmv

set_option maxRecDepth 100000 in
set_option maxHeartbeats 4000000 in
theorem x_moveAll {g : zG} {d : Nat} {F : zF} {μ : zMem} {b : Nat} {day h : Int32} (hF : okF F) (hd : 5 ≤ d) (h5 : cntB F b (fV F) ≤ 5) (hb6 : b < 6) (ho : oX F μ) : zM g d C_moveAll [.ref 6, .int (nI b), .int day, .int h] μ (fun r μ' => r = some (.int (nI (cntB F b (fV F)))) ∧ zq mM μ μ' ∧ mvd F b day h (fV F) μ') := by
  refine zM_of (by decide +kernel) rfl rfl (Nat.le_of_ble_eq_true rfl) rfl ?_
  refine zb C_moveAll_s0 rfl ?_
  exact w_mv hF hd h5 hb6 (fV F) 0 _ μ (by omega) ho zq.rf (fun v hv => absurd hv (Nat.not_lt_zero _))

set_option maxRecDepth 100000 in
set_option maxHeartbeats 4000000 in
theorem x_other {g : zG} {d q b : Nat} {μ : zMem} (hq : q < 2 ^ 31) (hb : b < 2 ^ 31) : zM g d C_otherBell [.int (nI q), .int (nI b)] μ (fun r μ' => r = some (.int (nI (oth b q))) ∧ μ' = μ) := by
  refine zM_of (by decide +kernel) rfl rfl (Nat.le_of_ble_eq_true rfl) rfl ?_
  refine zb C_otherBell_s0 rfl ?_
  refine z_cge C_otherBell_d2 (tgt := 9) rfl (fun h2 => ?_) (fun h2 => ?_)
  · refine zb C_otherBell_s9 rfl ?_
    refine z_ret C_otherBell_d12 rfl ?_
    refine ⟨?_, rfl⟩
    unfold oth
    first
      | (rw [if_pos ((nI_ltI hq hb).mp (Int32.not_le.mp h2))]; done)
      | (rw [if_neg (fun z => absurd h2 (nI_ge z hb)), nI_1]; done)
  · refine zb C_otherBell_s5 rfl ?_
    refine z_ret C_otherBell_d12 rfl ?_
    refine ⟨?_, rfl⟩
    unfold oth
    first
      | (rw [if_pos ((nI_ltI hq hb).mp (Int32.not_le.mp h2))]; done)
      | (rw [if_neg (fun z => absurd h2 (nI_ge z hb)), nI_1]; done)
