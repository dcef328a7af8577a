/-! the reference: beats, chimes, days, faults -/
/-- k turns from i on -/
def zfold {σ : Type} (f : Nat → σ → σ) : Nat → Nat → σ → σ
  | _, 0, s => s
  | i, k + 1, s => zfold f (i + 1) k (f i s)
theorem zfold_s {σ : Type} (f : Nat → σ → σ) : ∀ (k i : Nat) (s : σ), zfold f i (k + 1) s = f (i + k) (zfold f i k s)
  | 0, i, s => rfl
  | k + 1, i, s => by
    rw [zfold, zfold_s f k (i + 1) (f i s), zfold]
    congr 1
    omega
def zrem (u v : Int32) : Int32 := u - u / v * v
def zmn (u v : Int32) : Int32 := if u < v then u else v
theorem zmn_lt {u v : Int32} (h : ¬ v ≤ u) : zmn u v = u := if_pos (Int32.not_le.mp h)
theorem zmn_ge {u v : Int32} (h : v ≤ u) : zmn u v = v := if_neg (fun z => absurd h (Int32.not_le.mpr z))
def sBeat (F : zF) (a b dh : Int32) : Int32 := zmn (zrem (zab (sPitch F a dh 0 - sPitch F b dh 0)) (ftune F (zmn a b).toNatClampNeg)) (ftune F (zmn a b).toNatClampNeg - zrem (zab (sPitch F a dh 0 - sPitch F b dh 0)) (ftune F (zmn a b).toNatClampNeg))
def tuneOK (F : zF) : Prop := ∀ i, i < 6 → i < fB F → ¬ ftune F i = 0

set_option maxRecDepth 100000 in
set_option maxHeartbeats 4000000 in
theorem c_M_beat {g : zG} {d : Nat} {μ : zMem} {a b : Nat} {dh : Int32} (hd : 49 ≤ d) (hok : okM μ) (ha : a < fB (fM μ)) (hb : b < fB (fM μ)) (ht : tuneOK (fM μ)) : zM g d M_beat [.ref 0, .int (nI a), .int (nI b), .int dh] μ (fun r μ' => r = some (.int (sBeat (fM μ) (nI a) (nI b) dh)) ∧ zq sG μ μ') := by
  refine zM_of (by decide +kernel) rfl rfl (Nat.le_of_ble_eq_true rfl) rfl ?_
  have hF6 := hok.1.2
  have hF12 := hok.2.1.2
  have eb := hok.1.1
  have ev := hok.2.1.1
  have hia : vp_in (nI a) 6 := vp_in_nI (by omega) (by omega)
  have hib : vp_in (nI b) 6 := vp_in_nI (by omega) (by omega)
  have ea : (nI a).toNatClampNeg = a := nI_clamp (by omega)
  have ebb : (nI b).toNatClampNeg = b := nI_clamp (by omega)
  refine zb M_beat_s0 rfl ?_
  refine z_cge M_beat_d6 (tgt := 13) rfl (fun h6 => ?_) (fun h6 => ?_)
  · have hmn : zmn (nI a) (nI b) = nI b := if_neg (fun z => absurd h6 (Int32.not_le.mpr z))
    have htn : ¬ μ.1 26 (nI b).toNatClampNeg = 0 := by rw [ebb]; exact ht b (by omega) hb
    refine zb1 M_beat_s13 rfl (by first | exact hia | exact hib | exact htn) ?_
    refine zcallV M_beat_d22 k11_285 (by omega) (c_M_pitch (by omega) hok) rfl rfl rfl (Nat.le_of_ble_eq_true rfl) ?_
    rintro _ μ1 ⟨rfl, hz1⟩
    have hF1 := (zq_fM sG_ok hz1).1
    have hok1 := (zq_fM sG_ok hz1).2 hok
    refine zb M_beat_s25 rfl ?_
    refine zcallV M_beat_d29 k11_285 (by omega) (c_M_pitch (by omega) hok1) rfl rfl rfl (Nat.le_of_ble_eq_true rfl) ?_
    rintro _ μ2 ⟨rfl, hz2⟩
    rw [hF1]
    refine zb M_beat_s32 rfl ?_
    refine zcallV M_beat_d33 k11_270 (by omega) (c_M_abs _) rfl rfl rfl (Nat.le_of_ble_eq_true rfl) ?_
    rintro _ μx ⟨rfl, hx⟩
    rw [hx]
    clear hx μx
    refine zb1 M_beat_s36 rfl (by first | exact hia | exact hib | exact htn) ?_
    refine z_cge M_beat_d48 (tgt := 56) rfl (fun h48 => ?_) (fun h48 => ?_)
    · refine zb M_beat_s56 rfl ?_
      refine z_ret M_beat_d61 rfl ?_
      refine ⟨?_, hz1.tr hz2⟩
      unfold sBeat
      rw [hmn]
      first
        | exact congrArg (fun z => some (Value.int z)) (zmn_lt h48).symm
        | exact congrArg (fun z => some (Value.int z)) (zmn_ge h48).symm
    · refine zb M_beat_s51 rfl ?_
      refine z_ret M_beat_d61 rfl ?_
      refine ⟨?_, hz1.tr hz2⟩
      unfold sBeat
      rw [hmn]
      first
        | exact congrArg (fun z => some (Value.int z)) (zmn_lt h48).symm
        | exact congrArg (fun z => some (Value.int z)) (zmn_ge h48).symm
  · have hmn : zmn (nI a) (nI b) = nI a := if_pos (Int32.not_le.mp h6)
    have htn : ¬ μ.1 26 (nI a).toNatClampNeg = 0 := by rw [ea]; exact ht a (by omega) ha
    refine zb1 M_beat_s9 rfl (by first | exact hia | exact hib | exact htn) ?_
    refine zcallV M_beat_d22 k11_285 (by omega) (c_M_pitch (by omega) hok) rfl rfl rfl (Nat.le_of_ble_eq_true rfl) ?_
    rintro _ μ1 ⟨rfl, hz1⟩
    have hF1 := (zq_fM sG_ok hz1).1
    have hok1 := (zq_fM sG_ok hz1).2 hok
    refine zb M_beat_s25 rfl ?_
    refine zcallV M_beat_d29 k11_285 (by omega) (c_M_pitch (by omega) hok1) rfl rfl rfl (Nat.le_of_ble_eq_true rfl) ?_
    rintro _ μ2 ⟨rfl, hz2⟩
    rw [hF1]
    refine zb M_beat_s32 rfl ?_
    refine zcallV M_beat_d33 k11_270 (by omega) (c_M_abs _) rfl rfl rfl (Nat.le_of_ble_eq_true rfl) ?_
    rintro _ μx ⟨rfl, hx⟩
    rw [hx]
    clear hx μx
    refine zb1 M_beat_s36 rfl (by first | exact hia | exact hib | exact htn) ?_
    refine z_cge M_beat_d48 (tgt := 56) rfl (fun h48 => ?_) (fun h48 => ?_)
    · refine zb M_beat_s56 rfl ?_
      refine z_ret M_beat_d61 rfl ?_
      refine ⟨?_, hz1.tr hz2⟩
      unfold sBeat
      rw [hmn]
      first
        | exact congrArg (fun z => some (Value.int z)) (zmn_lt h48).symm
        | exact congrArg (fun z => some (Value.int z)) (zmn_ge h48).symm
    · refine zb M_beat_s51 rfl ?_
      refine z_ret M_beat_d61 rfl ?_
      refine ⟨?_, hz1.tr hz2⟩
      unfold sBeat
      rw [hmn]
      first
        | exact congrArg (fun z => some (Value.int z)) (zmn_lt h48).symm
        | exact congrArg (fun z => some (Value.int z)) (zmn_ge h48).symm

theorem zrem10 {ab : Int32} (h : 0 ≤ ab) : 0 ≤ ab / 10 ∧ 0 ≤ zrem ab 10 := by
  obtain ⟨n, hn, rfl⟩ := nI_of (x := ab) (Int32.not_lt.mpr h)
  have e1 : nI n / 10 = nI (n / 10) := pk_div (d := 10) hn (by decide) (by decide)
  have e2 : zrem (nI n) 10 = nI (n % 10) := pk_rem (d := 10) hn (by decide) (by decide)
  rw [e1, e2]
  exact ⟨nI_pos' (by omega), nI_pos' (by omega)⟩
def sBeats (F : zF) (ab dh : Int32) : Int32 := if 0 ≤ ab ∧ isB F (ab / 10) ∧ isB F (zrem ab 10) ∧ ¬ ab / 10 = zrem ab 10 ∧ tim dh then sBeat F (ab / 10) (zrem ab 10) dh else -1

set_option maxRecDepth 100000 in
set_option maxHeartbeats 4000000 in
theorem c_M_beats {g : zG} {d : Nat} {μ : zMem} {ab dh : Int32} (hd : 50 ≤ d) (hok : okM μ) (ht : tuneOK (fM μ)) : zM g d M_beats [.ref 0, .int ab, .int dh] μ (fun r μ' => r = some (.int (sBeats (fM μ) ab dh)) ∧ zq sG μ μ') := by
  refine zM_of (by decide +kernel) rfl rfl (Nat.le_of_ble_eq_true rfl) rfl ?_
  have hF6 := hok.1.2
  have hF12 := hok.2.1.2
  have eb := hok.1.1
  have ev := hok.2.1.1
  show zW _ _ _ _ _ _ _ _
  have hun : sBeats (fM μ) ab dh = if 0 ≤ ab ∧ isB (fM μ) (ab / 10) ∧ isB (fM μ) (zrem ab 10) ∧ ¬ ab / 10 = zrem ab 10 ∧ tim dh then sBeat (fM μ) (ab / 10) (zrem ab 10) dh else -1 := rfl
  refine zb M_beats_s0 rfl ?_
  refine z_lt M_beats_d1 (tgt := 45) rfl (fun h1 => ?_) (fun h1 => ?_)
  · refine zb M_beats_s45 rfl ?_
    refine z_ret M_beats_d46 rfl ?_
    rw [hun]
    first
      | exact ⟨rfl, hz1⟩
      | exact ⟨by rw [if_neg (fun z => absurd z.1 (Int32.not_le.mpr h1))], zq.rf⟩
      | exact ⟨by rw [if_neg (fun z => (zB_eq0.mp h12) z.2.1)], zq.rf⟩
      | exact ⟨by rw [if_neg (fun z => (zB_eq0.mp h23) z.2.2.1)], zq.rf⟩
      | exact ⟨by rw [if_neg (fun z => (zB_eq0.mp h42) z.2.2.2.2)], zq.rf⟩
      | exact ⟨by rw [if_neg (fun z => z.2.2.2.1 h34)], zq.rf⟩
  · refine zb1 M_beats_s4 rfl (by decide) ?_
    refine zcallV M_beats_d9 k11_116 (by omega) (c_M_isBell _) rfl rfl rfl (Nat.le_of_ble_eq_true rfl) ?_
    rintro _ μx ⟨rfl, hx⟩
    rw [hx]
    clear hx μx
    rw [eb]
    refine z_eq M_beats_d12 (tgt := 45) rfl (fun h12 => ?_) (fun h12 => ?_)
    · refine zb M_beats_s45 rfl ?_
      refine z_ret M_beats_d46 rfl ?_
      rw [hun]
      first
        | exact ⟨rfl, hz1⟩
        | exact ⟨by rw [if_neg (fun z => absurd z.1 (Int32.not_le.mpr h1))], zq.rf⟩
        | exact ⟨by rw [if_neg (fun z => (zB_eq0.mp h12) z.2.1)], zq.rf⟩
        | exact ⟨by rw [if_neg (fun z => (zB_eq0.mp h23) z.2.2.1)], zq.rf⟩
        | exact ⟨by rw [if_neg (fun z => (zB_eq0.mp h42) z.2.2.2.2)], zq.rf⟩
        | exact ⟨by rw [if_neg (fun z => z.2.2.2.1 h34)], zq.rf⟩
    · refine zb1 M_beats_s15 rfl (by decide) ?_
      refine zcallV M_beats_d20 k11_116 (by omega) (c_M_isBell _) rfl rfl rfl (Nat.le_of_ble_eq_true rfl) ?_
      rintro _ μx ⟨rfl, hx⟩
      rw [hx]
      clear hx μx
      rw [eb]
      refine z_eq M_beats_d23 (tgt := 45) rfl (fun h23 => ?_) (fun h23 => ?_)
      · refine zb M_beats_s45 rfl ?_
        refine z_ret M_beats_d46 rfl ?_
        rw [hun]
        first
          | exact ⟨rfl, hz1⟩
          | exact ⟨by rw [if_neg (fun z => absurd z.1 (Int32.not_le.mpr h1))], zq.rf⟩
          | exact ⟨by rw [if_neg (fun z => (zB_eq0.mp h12) z.2.1)], zq.rf⟩
          | exact ⟨by rw [if_neg (fun z => (zB_eq0.mp h23) z.2.2.1)], zq.rf⟩
          | exact ⟨by rw [if_neg (fun z => (zB_eq0.mp h42) z.2.2.2.2)], zq.rf⟩
          | exact ⟨by rw [if_neg (fun z => z.2.2.2.1 h34)], zq.rf⟩
      · refine zb2 M_beats_s26 rfl (by decide) (by decide) ?_
        refine z_ceq M_beats_d34 (tgt := 45) rfl (fun h34 => ?_) (fun h34 => ?_)
        · refine zb M_beats_s45 rfl ?_
          refine z_ret M_beats_d46 rfl ?_
          rw [hun]
          first
            | exact ⟨rfl, hz1⟩
            | exact ⟨by rw [if_neg (fun z => absurd z.1 (Int32.not_le.mpr h1))], zq.rf⟩
            | exact ⟨by rw [if_neg (fun z => (zB_eq0.mp h12) z.2.1)], zq.rf⟩
            | exact ⟨by rw [if_neg (fun z => (zB_eq0.mp h23) z.2.2.1)], zq.rf⟩
            | exact ⟨by rw [if_neg (fun z => (zB_eq0.mp h42) z.2.2.2.2)], zq.rf⟩
            | exact ⟨by rw [if_neg (fun z => z.2.2.2.1 h34)], zq.rf⟩
        · refine zb M_beats_s37 rfl ?_
          refine zcallV M_beats_d39 k11_256 (by omega) (c_M_isTime _) rfl rfl rfl (Nat.le_of_ble_eq_true rfl) ?_
          rintro _ μx ⟨rfl, hx⟩
          rw [hx]
          clear hx μx
          refine z_ne M_beats_d42 (tgt := 47) rfl (fun h42 => ?_) (fun h42 => ?_)
          · have g1 := zB_ne0.mp h12
            have g2 := zB_ne0.mp h23
            obtain ⟨a, ha, ea, -⟩ := zix g1.1 g1.2 (by omega)
            obtain ⟨b, hb, ebb, -⟩ := zix g2.1 g2.2 (by omega)
            have hbt := c_M_beat (g := g) (d := d - 1) (μ := μ) (dh := dh) (by omega) hok ha hb ht
            rw [← ea, ← ebb] at hbt
            rw [if_pos ⟨Int32.not_lt.mp h1, g1, g2, h34, zB_ne0.mp h42⟩] at hun
            refine zb2 M_beats_s47 rfl (by decide) (by decide) ?_
            refine zcallV M_beats_d57 k11_288 (by omega) (hbt) rfl rfl rfl (Nat.le_of_ble_eq_true rfl) ?_
            rintro _ μ1 ⟨rfl, hz1⟩
            refine z_ret M_beats_d60 rfl ?_
            rw [hun]
            first
              | exact ⟨rfl, hz1⟩
              | exact ⟨by rw [if_neg (fun z => absurd z.1 (Int32.not_le.mpr h1))], zq.rf⟩
              | exact ⟨by rw [if_neg (fun z => (zB_eq0.mp h12) z.2.1)], zq.rf⟩
              | exact ⟨by rw [if_neg (fun z => (zB_eq0.mp h23) z.2.2.1)], zq.rf⟩
              | exact ⟨by rw [if_neg (fun z => (zB_eq0.mp h42) z.2.2.2.2)], zq.rf⟩
              | exact ⟨by rw [if_neg (fun z => z.2.2.2.1 h34)], zq.rf⟩
          · refine zb M_beats_s45 rfl ?_
            refine z_ret M_beats_d46 rfl ?_
            rw [hun]
            first
              | exact ⟨rfl, hz1⟩
              | exact ⟨by rw [if_neg (fun z => absurd z.1 (Int32.not_le.mpr h1))], zq.rf⟩
              | exact ⟨by rw [if_neg (fun z => (zB_eq0.mp h12) z.2.1)], zq.rf⟩
              | exact ⟨by rw [if_neg (fun z => (zB_eq0.mp h23) z.2.2.1)], zq.rf⟩
              | exact ⟨by rw [if_neg (fun z => (zB_eq0.mp h42) z.2.2.2.2)], zq.rf⟩
              | exact ⟨by rw [if_neg (fun z => z.2.2.2.1 h34)], zq.rf⟩

abbrev hasB (s i : Int32) : Prop := (s >>> (i &&& 31)) &&& 1 = 1

set_option maxRecDepth 100000 in
set_option maxHeartbeats 4000000 in
theorem c_M_has {g : zG} {d : Nat} {μ : zMem} (s i : Int32) : zM g d M_has [.ref 0, .int s, .int i] μ (fun r μ' => r = some (.int (zB (hasB s i))) ∧ μ' = μ) := by
  refine zM_of (by decide +kernel) rfl rfl (Nat.le_of_ble_eq_true rfl) rfl ?_
  refine zb M_has_s0 rfl ?_
  refine z_cne M_has_d6 (tgt := 13) rfl (fun h6 => ?_) (fun h6 => ?_)
  · refine zb M_has_s13 rfl ?_
    refine z_retZ M_has_d14 rfl (by first | exact Or.inl rfl | exact Or.inr rfl) ?_
    first | exact ⟨by rw [zB_t (by assumption)], rfl⟩ | exact ⟨by rw [zB_f (by assumption)], rfl⟩
  · refine zb M_has_s9 rfl ?_
    refine z_retZ M_has_d14 rfl (by first | exact Or.inl rfl | exact Or.inr rfl) ?_
    first | exact ⟨by rw [zB_t (by assumption)], rfl⟩ | exact ⟨by rw [zB_f (by assumption)], rfl⟩

/-- how many without, the pair, its beats: one more pair -/
def chi (F : zF) (s dh : Int32) (a b : Nat) (t : Int32 × Int32 × Int32) : Int32 × Int32 × Int32 := if ¬ (hasB s (nI a) ∧ hasB s (nI b)) then t else (t.1 + zB (sBeat F (nI a) (nI b) dh = 0), if ¬ (t.2.1 = -2 ∨ t.2.2 < sBeat F (nI a) (nI b) dh) then (t.2.1, t.2.2) else (10 * nI a + nI b, sBeat F (nI a) (nI b) dh))
theorem chi_out {F : zF} {s dh : Int32} {a b : Nat} {t : Int32 × Int32 × Int32} (h : ¬ (hasB s (nI a) ∧ hasB s (nI b))) : chi F s dh a b t = t := if_pos h
theorem chi_new {F : zF} {s dh : Int32} {a b : Nat} {a1 a2 a3 : Int32} (h1 : hasB s (nI a)) (h2 : hasB s (nI b)) (h : a2 = -2 ∨ a3 < sBeat F (nI a) (nI b) dh) : chi F s dh a b (a1, a2, a3) = (a1 + zB (sBeat F (nI a) (nI b) dh = 0), 10 * nI a + nI b, sBeat F (nI a) (nI b) dh) := by
  unfold chi
  rw [if_neg (fun z => z ⟨h1, h2⟩), if_neg (fun z => z h)]
theorem chi_old {F : zF} {s dh : Int32} {a b : Nat} {a1 a2 a3 : Int32} (h1 : hasB s (nI a)) (h2 : hasB s (nI b)) (h : ¬ a2 = -2) (h3 : ¬ a3 < sBeat F (nI a) (nI b) dh) : chi F s dh a b (a1, a2, a3) = (a1 + zB (sBeat F (nI a) (nI b) dh = 0), a2, a3) := by
  unfold chi
  rw [if_neg (fun z => z ⟨h1, h2⟩), if_pos (fun z => z.elim h h3)]
def chiA (F : zF) (s dh : Int32) (a : Nat) (t : Int32 × Int32 × Int32) : Int32 × Int32 × Int32 := zfold (chi F s dh a) (a + 1) (fB F - (a + 1)) t
def chiS (F : zF) (s dh : Int32) : Int32 × Int32 × Int32 := zfold (chiA F s dh) 0 (fB F) (0, -2, 0)

set_option maxRecDepth 100000 in
set_option maxHeartbeats 4000000 in
theorem w_M_chime_in {g : zG} {d : Nat} {μ0 : zMem} (hd : 50 ≤ d) (hok0 : okM μ0) (ht0 : tuneOK (fM μ0)) {s dh w : Int32} {a : Nat} (ha : a < fB (fM μ0)) {t0 : Int32 × Int32 × Int32} {Q : Option Value → zMem → Prop} (hQ : ∀ (a1 a2 a3 : Int32) (μ : zMem) (x8 x9 : Option Value), zq sG μ0 μ → (a1, a2, a3) = chiA (fM μ0) s dh a t0 → zW g M_chime d 161 [some (.ref 0), some (.int s), some (.int dh), some (.int w), some (.int a1), some (.int a2), some (.int a3), some (.int (nI a)), x8, x9] [] μ Q) : ∀ (j i : Nat) (a1 a2 a3 : Int32) (μ : zMem) (x9 : Option Value), i + j = fB (fM μ0) → zq sG μ0 μ → a < i → (a1, a2, a3) = zfold (chi (fM μ0) s dh a) (a + 1) (i - (a + 1)) t0 → zW g M_chime d 62 [some (.ref 0), some (.int s), some (.int dh), some (.int w), some (.int a1), some (.int a2), some (.int a3), some (.int (nI a)), some (.int (nI i)), x9] [] μ Q := by
  intro j
  induction j with
  | zero =>
    intro i a1 a2 a3 μ x9 hi hz hai hv
    have hF := (zq_fM sG_ok hz).1
    have hok := (zq_fM sG_ok hz).2 hok0
    have h6 := hok.1.2
    have hbd : μ.1 0 0 = nI (fB (fM μ0)) := by rw [← hF]; exact hok.1.1
    rw [hF] at h6
    have hi : i = fB (fM μ0) := by omega
    subst hi
    refine zb M_chime_s62 rfl ?_
    refine z_cge M_chime_d68 (tgt := 161) rfl (fun h68 => ?_) (fun h68 => absurd (show μ.1 0 0 ≤ nI (fB (fM μ0)) by rw [hbd]; exact Int32.le_refl _) h68)
    exact hQ a1 a2 a3 μ _ _ hz hv
  | succ j ih =>
    intro i a1 a2 a3 μ x9 hi hz hai hv
    have hF := (zq_fM sG_ok hz).1
    have hok := (zq_fM sG_ok hz).2 hok0
    have h6 := hok.1.2
    have hbd : μ.1 0 0 = nI (fB (fM μ0)) := by rw [← hF]; exact hok.1.1
    rw [hF] at h6
    have hilt : i < fB (fM μ0) := by omega
    have hstep : zfold (chi (fM μ0) s dh a) (a + 1) (i + 1 - (a + 1)) t0 = chi (fM μ0) s dh a i (a1, a2, a3) := by
      rw [show i + 1 - (a + 1) = (i - (a + 1)) + 1 by omega, zfold_s, ← hv]
      congr 1
      omega
    refine zb M_chime_s62 rfl ?_
    refine z_cge M_chime_d68 (tgt := 161) rfl (fun h68 => absurd h68 (show ¬ μ.1 0 0 ≤ nI i by rw [hbd]; exact nI_ge hilt (by omega))) (fun h68 => ?_)
    refine zb M_chime_s71 rfl ?_
    refine zcallV M_chime_d75 k11_291 (by omega) (c_M_has _ _) rfl rfl rfl (Nat.le_of_ble_eq_true rfl) ?_
    rintro _ μx ⟨rfl, hx⟩
    rw [hx]
    clear hx μx
    refine z_eq M_chime_d78 (tgt := 155) rfl (fun h78 => ?_) (fun h78 => ?_)
    · refine zb M_chime_s155 rfl ?_
      rw [nI_1]
      first
        | (refine ih (i + 1) _ _ _ _ _ (by omega) hz (by omega) ?_; rw [hstep, chi_out (fun z => (zB_eq0.mp h78) z.1)])
        | (refine ih (i + 1) _ _ _ _ _ (by omega) hz (by omega) ?_; rw [hstep, chi_out (fun z => (zB_eq0.mp h88) z.2)])
        | (refine ih (i + 1) _ _ _ _ _ (by omega) (hz.tr hz1) (by omega) ?_; rw [hstep, chi_new (zB_ne0.mp h78) (zB_ne0.mp h88) (Or.inl h128), hone])
        | (refine ih (i + 1) _ _ _ _ _ (by omega) (hz.tr hz1) (by omega) ?_; rw [hstep, chi_new (zB_ne0.mp h78) (zB_ne0.mp h88) (Or.inr h135), hone])
        | (refine ih (i + 1) _ _ _ _ _ (by omega) (hz.tr hz1) (by omega) ?_; rw [hstep, chi_old (zB_ne0.mp h78) (zB_ne0.mp h88) h128 h135, hone])
    · refine zb M_chime_s81 rfl ?_
      refine zcallV M_chime_d85 k11_291 (by omega) (c_M_has _ _) rfl rfl rfl (Nat.le_of_ble_eq_true rfl) ?_
      rintro _ μx ⟨rfl, hx⟩
      rw [hx]
      clear hx μx
      refine z_ne M_chime_d88 (tgt := 94) rfl (fun h88 => ?_) (fun h88 => ?_)
      · refine zb M_chime_s94 rfl ?_
        refine zcallV M_chime_d100 k11_288 (by omega) (c_M_beat (a := a) (b := i) (by omega) hok (by rw [hF]; omega) (by rw [hF]; omega) (by rw [hF]; exact ht0)) rfl rfl rfl (Nat.le_of_ble_eq_true rfl) ?_
        rintro _ μ1 ⟨rfl, hz1⟩
        rw [hF]
        refine zb M_chime_s103 rfl ?_
        refine z_ne M_chime_d110 (tgt := 117) rfl (fun h110 => ?_) (fun h110 => ?_)
        · refine zb M_chime_s117 rfl ?_
          refine zcallV M_chime_d118 k11_167 (by omega) (c_M_one _) rfl rfl rfl (Nat.le_of_ble_eq_true rfl) ?_
          rintro _ μx ⟨rfl, hx⟩
          rw [hx]
          clear hx μx
          first | have hone : zB (sBeat (fM μ0) (nI a) (nI i) dh = 0) = zB (¬ (1 : Int32) = 0) := zB_cong (iff_of_true h110 (by decide)) | have hone : zB (sBeat (fM μ0) (nI a) (nI i) dh = 0) = zB (¬ (0 : Int32) = 0) := zB_cong (iff_of_false h110 (by decide))
          refine zb M_chime_s121 rfl ?_
          refine z_ceq M_chime_d128 (tgt := 141) rfl (fun h128 => ?_) (fun h128 => ?_)
          · refine zb M_chime_s141 rfl ?_
            rw [nI_1]
            first
              | (refine ih (i + 1) _ _ _ _ _ (by omega) hz (by omega) ?_; rw [hstep, chi_out (fun z => (zB_eq0.mp h78) z.1)])
              | (refine ih (i + 1) _ _ _ _ _ (by omega) hz (by omega) ?_; rw [hstep, chi_out (fun z => (zB_eq0.mp h88) z.2)])
              | (refine ih (i + 1) _ _ _ _ _ (by omega) (hz.tr hz1) (by omega) ?_; rw [hstep, chi_new (zB_ne0.mp h78) (zB_ne0.mp h88) (Or.inl h128), hone])
              | (refine ih (i + 1) _ _ _ _ _ (by omega) (hz.tr hz1) (by omega) ?_; rw [hstep, chi_new (zB_ne0.mp h78) (zB_ne0.mp h88) (Or.inr h135), hone])
              | (refine ih (i + 1) _ _ _ _ _ (by omega) (hz.tr hz1) (by omega) ?_; rw [hstep, chi_old (zB_ne0.mp h78) (zB_ne0.mp h88) h128 h135, hone])
          · refine zb M_chime_s131 rfl ?_
            refine z_cgt M_chime_d135 (tgt := 141) rfl (fun h135 => ?_) (fun h135 => ?_)
            · refine zb M_chime_s141 rfl ?_
              rw [nI_1]
              first
                | (refine ih (i + 1) _ _ _ _ _ (by omega) hz (by omega) ?_; rw [hstep, chi_out (fun z => (zB_eq0.mp h78) z.1)])
                | (refine ih (i + 1) _ _ _ _ _ (by omega) hz (by omega) ?_; rw [hstep, chi_out (fun z => (zB_eq0.mp h88) z.2)])
                | (refine ih (i + 1) _ _ _ _ _ (by omega) (hz.tr hz1) (by omega) ?_; rw [hstep, chi_new (zB_ne0.mp h78) (zB_ne0.mp h88) (Or.inl h128), hone])
                | (refine ih (i + 1) _ _ _ _ _ (by omega) (hz.tr hz1) (by omega) ?_; rw [hstep, chi_new (zB_ne0.mp h78) (zB_ne0.mp h88) (Or.inr h135), hone])
                | (refine ih (i + 1) _ _ _ _ _ (by omega) (hz.tr hz1) (by omega) ?_; rw [hstep, chi_old (zB_ne0.mp h78) (zB_ne0.mp h88) h128 h135, hone])
            · refine zb M_chime_s138 rfl ?_
              rw [nI_1]
              first
                | (refine ih (i + 1) _ _ _ _ _ (by omega) hz (by omega) ?_; rw [hstep, chi_out (fun z => (zB_eq0.mp h78) z.1)])
                | (refine ih (i + 1) _ _ _ _ _ (by omega) hz (by omega) ?_; rw [hstep, chi_out (fun z => (zB_eq0.mp h88) z.2)])
                | (refine ih (i + 1) _ _ _ _ _ (by omega) (hz.tr hz1) (by omega) ?_; rw [hstep, chi_new (zB_ne0.mp h78) (zB_ne0.mp h88) (Or.inl h128), hone])
                | (refine ih (i + 1) _ _ _ _ _ (by omega) (hz.tr hz1) (by omega) ?_; rw [hstep, chi_new (zB_ne0.mp h78) (zB_ne0.mp h88) (Or.inr h135), hone])
                | (refine ih (i + 1) _ _ _ _ _ (by omega) (hz.tr hz1) (by omega) ?_; rw [hstep, chi_old (zB_ne0.mp h78) (zB_ne0.mp h88) h128 h135, hone])
        · refine zb M_chime_s113 rfl ?_
          refine zcallV M_chime_d118 k11_167 (by omega) (c_M_one _) rfl rfl rfl (Nat.le_of_ble_eq_true rfl) ?_
          rintro _ μx ⟨rfl, hx⟩
          rw [hx]
          clear hx μx
          first | have hone : zB (sBeat (fM μ0) (nI a) (nI i) dh = 0) = zB (¬ (1 : Int32) = 0) := zB_cong (iff_of_true h110 (by decide)) | have hone : zB (sBeat (fM μ0) (nI a) (nI i) dh = 0) = zB (¬ (0 : Int32) = 0) := zB_cong (iff_of_false h110 (by decide))
          refine zb M_chime_s121 rfl ?_
          refine z_ceq M_chime_d128 (tgt := 141) rfl (fun h128 => ?_) (fun h128 => ?_)
          · refine zb M_chime_s141 rfl ?_
            rw [nI_1]
            first
              | (refine ih (i + 1) _ _ _ _ _ (by omega) hz (by omega) ?_; rw [hstep, chi_out (fun z => (zB_eq0.mp h78) z.1)])
              | (refine ih (i + 1) _ _ _ _ _ (by omega) hz (by omega) ?_; rw [hstep, chi_out (fun z => (zB_eq0.mp h88) z.2)])
              | (refine ih (i + 1) _ _ _ _ _ (by omega) (hz.tr hz1) (by omega) ?_; rw [hstep, chi_new (zB_ne0.mp h78) (zB_ne0.mp h88) (Or.inl h128), hone])
              | (refine ih (i + 1) _ _ _ _ _ (by omega) (hz.tr hz1) (by omega) ?_; rw [hstep, chi_new (zB_ne0.mp h78) (zB_ne0.mp h88) (Or.inr h135), hone])
              | (refine ih (i + 1) _ _ _ _ _ (by omega) (hz.tr hz1) (by omega) ?_; rw [hstep, chi_old (zB_ne0.mp h78) (zB_ne0.mp h88) h128 h135, hone])
          · refine zb M_chime_s131 rfl ?_
            refine z_cgt M_chime_d135 (tgt := 141) rfl (fun h135 => ?_) (fun h135 => ?_)
            · refine zb M_chime_s141 rfl ?_
              rw [nI_1]
              first
                | (refine ih (i + 1) _ _ _ _ _ (by omega) hz (by omega) ?_; rw [hstep, chi_out (fun z => (zB_eq0.mp h78) z.1)])
                | (refine ih (i + 1) _ _ _ _ _ (by omega) hz (by omega) ?_; rw [hstep, chi_out (fun z => (zB_eq0.mp h88) z.2)])
                | (refine ih (i + 1) _ _ _ _ _ (by omega) (hz.tr hz1) (by omega) ?_; rw [hstep, chi_new (zB_ne0.mp h78) (zB_ne0.mp h88) (Or.inl h128), hone])
                | (refine ih (i + 1) _ _ _ _ _ (by omega) (hz.tr hz1) (by omega) ?_; rw [hstep, chi_new (zB_ne0.mp h78) (zB_ne0.mp h88) (Or.inr h135), hone])
                | (refine ih (i + 1) _ _ _ _ _ (by omega) (hz.tr hz1) (by omega) ?_; rw [hstep, chi_old (zB_ne0.mp h78) (zB_ne0.mp h88) h128 h135, hone])
            · refine zb M_chime_s138 rfl ?_
              rw [nI_1]
              first
                | (refine ih (i + 1) _ _ _ _ _ (by omega) hz (by omega) ?_; rw [hstep, chi_out (fun z => (zB_eq0.mp h78) z.1)])
                | (refine ih (i + 1) _ _ _ _ _ (by omega) hz (by omega) ?_; rw [hstep, chi_out (fun z => (zB_eq0.mp h88) z.2)])
                | (refine ih (i + 1) _ _ _ _ _ (by omega) (hz.tr hz1) (by omega) ?_; rw [hstep, chi_new (zB_ne0.mp h78) (zB_ne0.mp h88) (Or.inl h128), hone])
                | (refine ih (i + 1) _ _ _ _ _ (by omega) (hz.tr hz1) (by omega) ?_; rw [hstep, chi_new (zB_ne0.mp h78) (zB_ne0.mp h88) (Or.inr h135), hone])
                | (refine ih (i + 1) _ _ _ _ _ (by omega) (hz.tr hz1) (by omega) ?_; rw [hstep, chi_old (zB_ne0.mp h78) (zB_ne0.mp h88) h128 h135, hone])
      · refine zb M_chime_s91 rfl ?_
        rw [nI_1]
        first
          | (refine ih (i + 1) _ _ _ _ _ (by omega) hz (by omega) ?_; rw [hstep, chi_out (fun z => (zB_eq0.mp h78) z.1)])
          | (refine ih (i + 1) _ _ _ _ _ (by omega) hz (by omega) ?_; rw [hstep, chi_out (fun z => (zB_eq0.mp h88) z.2)])
          | (refine ih (i + 1) _ _ _ _ _ (by omega) (hz.tr hz1) (by omega) ?_; rw [hstep, chi_new (zB_ne0.mp h78) (zB_ne0.mp h88) (Or.inl h128), hone])
          | (refine ih (i + 1) _ _ _ _ _ (by omega) (hz.tr hz1) (by omega) ?_; rw [hstep, chi_new (zB_ne0.mp h78) (zB_ne0.mp h88) (Or.inr h135), hone])
          | (refine ih (i + 1) _ _ _ _ _ (by omega) (hz.tr hz1) (by omega) ?_; rw [hstep, chi_old (zB_ne0.mp h78) (zB_ne0.mp h88) h128 h135, hone])

set_option maxRecDepth 100000 in
set_option maxHeartbeats 4000000 in
theorem w_M_chime {g : zG} {d : Nat} {μ0 : zMem} (hd : 50 ≤ d) (hok0 : okM μ0) (ht0 : tuneOK (fM μ0)) {s dh w : Int32} : ∀ (j i : Nat) (a1 a2 a3 : Int32) (μ : zMem) (x8 x9 : Option Value), i + j = fB (fM μ0) → zq sG μ0 μ → (a1, a2, a3) = zfold (chiA (fM μ0) s dh) 0 i (0, -2, 0) → zW g M_chime d 47 [some (.ref 0), some (.int s), some (.int dh), some (.int w), some (.int a1), some (.int a2), some (.int a3), some (.int (nI i)), x8, x9] [] μ (fun r μ' => r = some (.int (if w = 0 then (chiS (fM μ0) s dh).1 else (chiS (fM μ0) s dh).2.1)) ∧ zq sG μ0 μ') := by
  intro j
  induction j with
  | zero =>
    intro i a1 a2 a3 μ x8 x9 hi hz hv
    have hF := (zq_fM sG_ok hz).1
    have hok := (zq_fM sG_ok hz).2 hok0
    have h6 := hok.1.2
    have hbd : μ.1 0 0 = nI (fB (fM μ0)) := by rw [← hF]; exact hok.1.1
    rw [hF] at h6
    have hi : i = fB (fM μ0) := by omega
    subst hi
    have hS : chiS (fM μ0) s dh = (a1, a2, a3) := hv.symm
    rw [hS]
    refine zb M_chime_s47 rfl ?_
    refine z_cge M_chime_d53 (tgt := 167) rfl (fun h53 => ?_) (fun h53 => absurd (show μ.1 0 0 ≤ nI (fB (fM μ0)) by rw [hbd]; exact Int32.le_refl _) h53)
    refine zb M_chime_s167 rfl ?_
    refine z_ne M_chime_d168 (tgt := 176) rfl (fun h168 => ?_) (fun h168 => ?_)
    · refine zb M_chime_s176 rfl ?_
      refine z_ret M_chime_d178 rfl ?_
      first | exact ⟨by rw [if_pos h168], hz⟩ | exact ⟨by rw [if_neg h168], hz⟩
    · refine zb M_chime_s171 rfl ?_
      refine z_ret M_chime_d178 rfl ?_
      first | exact ⟨by rw [if_pos h168], hz⟩ | exact ⟨by rw [if_neg h168], hz⟩
  | succ j ih =>
    intro i a1 a2 a3 μ x8 x9 hi hz hv
    have hF := (zq_fM sG_ok hz).1
    have hok := (zq_fM sG_ok hz).2 hok0
    have h6 := hok.1.2
    have hbd : μ.1 0 0 = nI (fB (fM μ0)) := by rw [← hF]; exact hok.1.1
    rw [hF] at h6
    have hilt : i < fB (fM μ0) := by omega
    refine zb M_chime_s47 rfl ?_
    refine z_cge M_chime_d53 (tgt := 167) rfl (fun h53 => absurd h53 (show ¬ μ.1 0 0 ≤ nI i by rw [hbd]; exact nI_ge hilt (by omega))) (fun h53 => ?_)
    refine zb M_chime_s56 rfl ?_
    rw [nI_1]
    refine w_M_chime_in hd hok0 ht0 hilt (t0 := (a1, a2, a3)) (fun b1 b2 b3 μ2 y8 y9 hz2 hv2 => ?_) (fB (fM μ0) - (i + 1)) (i + 1) a1 a2 a3 μ _ (by omega) hz (by omega) (by rw [Nat.sub_self]; rfl)
    refine zb M_chime_s161 rfl ?_
    rw [nI_1]
    exact ih (i + 1) b1 b2 b3 μ2 _ _ (by omega) hz2 (by rw [zfold_s, ← hv, Nat.zero_add]; exact hv2)

def sChime (F : zF) (s dh w : Int32) : Int32 := if 0 ≤ s ∧ s < 1 <<< (nI (fB F) &&& 31) ∧ tim dh ∧ (0 ≤ w ∧ w ≤ 1) then (if w = 0 then (chiS F s dh).1 else (chiS F s dh).2.1) else -1

set_option maxRecDepth 100000 in
set_option maxHeartbeats 4000000 in
theorem c_M_chime {g : zG} {d : Nat} {μ : zMem} {s dh w : Int32} (hd : 50 ≤ d) (hok : okM μ) (ht : tuneOK (fM μ)) : zM g d M_chime [.ref 0, .int s, .int dh, .int w] μ (fun r μ' => r = some (.int (sChime (fM μ) s dh w)) ∧ zq sG μ μ') := by
  refine zM_of (by decide +kernel) rfl rfl (Nat.le_of_ble_eq_true rfl) rfl ?_
  have hF6 := hok.1.2
  have hF12 := hok.2.1.2
  have eb := hok.1.1
  have ev := hok.2.1.1
  refine zb M_chime_s0 rfl ?_
  refine z_lt M_chime_d1 (tgt := 32) rfl (fun h1 => ?_) (fun h1 => ?_)
  · refine zb M_chime_s32 rfl ?_
    refine z_ret M_chime_d33 rfl ?_
    unfold sChime
    first
      | exact ⟨by rw [if_neg (fun z => absurd z.1 (Int32.not_le.mpr h1))], zq.rf⟩
      | exact ⟨by rw [if_neg (fun z => (zB_eq0.mp h29) z.2.2.2)], zq.rf⟩
      | exact ⟨by rw [if_neg (fun z => (zB_eq0.mp h19) z.2.2.1)], zq.rf⟩
      | exact ⟨by rw [if_neg (fun z => absurd z.2.1 (Int32.not_lt.mpr h11))], zq.rf⟩
  · refine zb M_chime_s4 rfl ?_
    rw [eb]
    refine z_cge M_chime_d11 (tgt := 32) rfl (fun h11 => ?_) (fun h11 => ?_)
    · refine zb M_chime_s32 rfl ?_
      refine z_ret M_chime_d33 rfl ?_
      unfold sChime
      first
        | exact ⟨by rw [if_neg (fun z => absurd z.1 (Int32.not_le.mpr h1))], zq.rf⟩
        | exact ⟨by rw [if_neg (fun z => (zB_eq0.mp h29) z.2.2.2)], zq.rf⟩
        | exact ⟨by rw [if_neg (fun z => (zB_eq0.mp h19) z.2.2.1)], zq.rf⟩
        | exact ⟨by rw [if_neg (fun z => absurd z.2.1 (Int32.not_lt.mpr h11))], zq.rf⟩
    · refine zb M_chime_s14 rfl ?_
      refine zcallV M_chime_d16 k11_256 (by omega) (c_M_isTime _) rfl rfl rfl (Nat.le_of_ble_eq_true rfl) ?_
      rintro _ μx ⟨rfl, hx⟩
      rw [hx]
      clear hx μx
      refine z_eq M_chime_d19 (tgt := 32) rfl (fun h19 => ?_) (fun h19 => ?_)
      · refine zb M_chime_s32 rfl ?_
        refine z_ret M_chime_d33 rfl ?_
        unfold sChime
        first
          | exact ⟨by rw [if_neg (fun z => absurd z.1 (Int32.not_le.mpr h1))], zq.rf⟩
          | exact ⟨by rw [if_neg (fun z => (zB_eq0.mp h29) z.2.2.2)], zq.rf⟩
          | exact ⟨by rw [if_neg (fun z => (zB_eq0.mp h19) z.2.2.1)], zq.rf⟩
          | exact ⟨by rw [if_neg (fun z => absurd z.2.1 (Int32.not_lt.mpr h11))], zq.rf⟩
      · refine zb M_chime_s22 rfl ?_
        refine zcallV M_chime_d26 k11_112 (by omega) (c_M_isIn _ _ _) rfl rfl rfl (Nat.le_of_ble_eq_true rfl) ?_
        rintro _ μx ⟨rfl, hx⟩
        rw [hx]
        clear hx μx
        refine z_ne M_chime_d29 (tgt := 34) rfl (fun h29 => ?_) (fun h29 => ?_)
        · refine zb M_chime_s34 rfl ?_
          refine (w_M_chime hd hok ht (fB (fM μ)) 0 0 (-2) 0 μ none none (by omega) zq.rf rfl).mono (fun v μ1 hq => ⟨?_, hq.2⟩)
          rw [hq.1, show sChime (fM μ) s dh w = (if w = 0 then (chiS (fM μ) s dh).1 else (chiS (fM μ) s dh).2.1) from if_pos ⟨Int32.not_lt.mp h1, Int32.not_le.mp h11, zB_ne0.mp h19, zB_ne0.mp h29⟩]
        · refine zb M_chime_s32 rfl ?_
          refine z_ret M_chime_d33 rfl ?_
          unfold sChime
          first
            | exact ⟨by rw [if_neg (fun z => absurd z.1 (Int32.not_le.mpr h1))], zq.rf⟩
            | exact ⟨by rw [if_neg (fun z => (zB_eq0.mp h29) z.2.2.2)], zq.rf⟩
            | exact ⟨by rw [if_neg (fun z => (zB_eq0.mp h19) z.2.2.1)], zq.rf⟩
            | exact ⟨by rw [if_neg (fun z => absurd z.2.1 (Int32.not_lt.mpr h11))], zq.rf⟩
