/-! sets as bits; the class's sounds -/
theorem zsum_congr {f g : Nat → Int32} : ∀ n : Nat, (∀ v, v < n → f v = g v) → zsum f n = zsum g n
  | 0, _ => rfl
  | n + 1, h => by rw [zsum_s, zsum_s, zsum_congr n (fun v hv => h v (by omega)), h n (by omega)]
theorem zsum_tail {f : Nat → Int32} (m : Nat) : ∀ k : Nat, (∀ b, m ≤ b → b < m + k → f b = 0) → zsum f (m + k) = zsum f m
  | 0, _ => rfl
  | k + 1, h => by rw [show m + (k + 1) = (m + k) + 1 by omega, zsum_s, zsum_tail m k (fun b h1 h2 => h b h1 (by omega)), h (m + k) (by omega) (by omega), Int32.add_zero]
theorem zsum_0 {f : Nat → Int32} : ∀ n : Nat, (∀ v, v < n → f v = 0) → zsum f n = 0
  | 0, _ => rfl
  | n + 1, h => by rw [zsum_s, zsum_0 n (fun v hv => h v (by omega)), h n (by omega)]; rfl
theorem zfind_tail {p : Nat → Prop} [DecidablePred p] : ∀ (k i m : Nat), (∀ b, i + k ≤ b → b < i + k + m → ¬ p b) → zfind p i (k + m) = zfind p i k
  | 0, i, 0, _ => rfl
  | 0, i, m + 1, h => by
    rw [Nat.zero_add]
    simp only [zfind]
    rw [if_neg (h i (by omega) (by omega))]
    have := zfind_tail (p := p) 0 (i + 1) m (fun b h1 h2 => h b (by omega) (by omega))
    rw [Nat.zero_add] at this
    exact this
  | k + 1, i, m, h => by
    rw [show k + 1 + m = (k + m) + 1 by omega]
    simp only [zfind]
    rw [zfind_tail k (i + 1) m (fun b h1 h2 => h b (by omega) (by omega))]
def bitsN (p : Nat → Prop) [DecidablePred p] : Nat → Nat
  | 0 => 0
  | n + 1 => if p n then bitsN p n + 2 ^ n else bitsN p n
theorem bitsN_s (p : Nat → Prop) [DecidablePred p] (n : Nat) : bitsN p (n + 1) = if p n then bitsN p n + 2 ^ n else bitsN p n := rfl
theorem bitsN_lt (p : Nat → Prop) [DecidablePred p] : ∀ n : Nat, bitsN p n < 2 ^ n
  | 0 => Nat.zero_lt_one
  | n + 1 => by
    have := bitsN_lt p n
    rw [Nat.pow_succ]
    unfold bitsN
    split <;> omega
theorem bitsN_at (p : Nat → Prop) [DecidablePred p] (v : Nat) : ∀ n : Nat, bitsN p n / 2 ^ v % 2 = if v < n ∧ p v then 1 else 0
  | 0 => by
    rw [if_neg (fun z => absurd z.1 (Nat.not_lt_zero _))]
    unfold bitsN
    rw [Nat.zero_div]
  | n + 1 => by
    have ih := bitsN_at p v n
    have hlt := bitsN_lt p n
    unfold bitsN
    by_cases hp : p n
    · rw [if_pos hp]
      rcases Nat.lt_trichotomy v n with h | h | h
      · have e : 2 ^ n = 2 ^ v * (2 * 2 ^ (n - v - 1)) := by
          rw [← Nat.mul_assoc, ← Nat.pow_succ, ← Nat.pow_add]
          congr 1
          omega
        rw [e, Nat.add_mul_div_left _ _ (Nat.two_pow_pos v), Nat.add_mul_mod_self_left, ih]
        by_cases q : p v
        · rw [if_pos ⟨h, q⟩, if_pos ⟨by omega, q⟩]
        · rw [if_neg (fun z => q z.2), if_neg (fun z => q z.2)]
      · subst h
        rw [if_pos ⟨by omega, hp⟩, show bitsN p v + 2 ^ v = bitsN p v + 2 ^ v * 1 by omega, Nat.add_mul_div_left _ _ (Nat.two_pow_pos v), Nat.div_eq_of_lt hlt]
      · rw [if_neg (fun z => by omega), Nat.div_eq_of_lt]
        have : 2 ^ (n + 1) ≤ 2 ^ v := Nat.pow_le_pow_right (by omega) (by omega)
        rw [Nat.pow_succ] at this
        omega
    · rw [if_neg hp, ih]
      by_cases q : v < n ∧ p v
      · rw [if_pos q, if_pos ⟨by omega, q.2⟩]
      · rw [if_neg q, if_neg (fun z => by
          by_cases w : v = n
          · exact hp (by rw [← w]; exact z.2)
          · exact q ⟨by omega, z.2⟩)]
set_option maxRecDepth 100000 in
theorem or_bit {n x : Nat} (hn : n < 12) (hx : x < 2 ^ n) : nI x ||| bit1 n = nI (x + 2 ^ n) := by
  have key : (List.range 12).all (fun n => (List.range (2 ^ n)).all (fun x => decide (nI x ||| bit1 n = nI (x + 2 ^ n)))) = true := by decide +kernel
  have h1 := List.all_eq_true.mp (List.all_eq_true.mp key n (List.mem_range.mpr hn)) x (List.mem_range.mpr hx)
  exact of_decide_eq_true h1
set_option maxRecDepth 100000 in
theorem bit_at {v x : Nat} (hv : v < 12) (hx : x < 4096) : (nI x >>> (nI v &&& 31)) &&& 1 = nI (x / 2 ^ v % 2) := by
  have key : (List.range 12).all (fun v => (List.range 4096).all (fun x => decide ((nI x >>> (nI v &&& 31)) &&& 1 = nI (x / 2 ^ v % 2)))) = true := by decide +kernel
  have h1 := List.all_eq_true.mp (List.all_eq_true.mp key v (List.mem_range.mpr hv)) x (List.mem_range.mpr hx)
  exact of_decide_eq_true h1
theorem bits_fold (p : Nat → Prop) [DecidablePred p] : ∀ n : Nat, n ≤ 12 → zfold (fun v s => if p v then s ||| bit1 v else s) 0 n 0 = nI (bitsN p n)
  | 0, _ => rfl
  | n + 1, h => by
    rw [zf0, bits_fold p n (by omega), bitsN_s]
    by_cases q : p n
    · rw [if_pos q, if_pos q, or_bit (by omega) (bitsN_lt p n)]
    · rw [if_neg q, if_neg q]
theorem bits_at (p : Nat → Prop) [DecidablePred p] {n v : Nat} (hn : n ≤ 12) (hv : v < 12) : ((nI (bitsN p n) >>> (nI v &&& 31)) &&& 1 = 1 ↔ (v < n ∧ p v)) ∧ ((nI (bitsN p n) >>> (nI v &&& 31)) &&& 1 = 0 ↔ ¬ (v < n ∧ p v)) := by
  have h1 : bitsN p n < 4096 := Nat.lt_of_lt_of_le (bitsN_lt p n) (p2le hn)
  rw [bit_at hv h1, bitsN_at]
  by_cases q : v < n ∧ p v
  · rw [if_pos q]; exact ⟨⟨fun _ => q, fun _ => rfl⟩, ⟨fun z => absurd z (by decide), fun z => absurd q z⟩⟩
  · rw [if_neg q]; exact ⟨⟨fun z => absurd z (by decide), fun z => absurd z q⟩, ⟨fun _ => q, fun _ => rfl⟩⟩
theorem zab_is (u : Int32) : (if 0 ≤ u then u else 0 - u) = zab u := by
  unfold zab
  by_cases h : u < 0
  · rw [if_neg (Int32.not_le.mpr h), if_pos h, Int32.zero_sub]
  · rw [if_pos (Int32.not_lt.mp h), if_neg h]
theorem offW_0 (F : zF) (day h : Int32) (b : Nat) (h12 : fV F ≤ 12) : offW F day h 0 b = offs F (nI b) day h := by
  refine zsum_congr _ (fun v hv => ?_)
  have k : ((0 : Int32) >>> (nI v &&& 31)) &&& 1 = 0 := by
    have : ∀ v : Fin 12, ((0 : Int32) >>> (nI v.1 &&& 31)) &&& 1 = 0 := by decide
    exact this ⟨v, by omega⟩
  unfold offWT offT
  by_cases q : fbell F v = nI b
  · rw [if_pos q, if_pos ⟨k, q⟩]
  · rw [if_neg q, if_neg (fun z => q z.2)]
theorem offW_out {F : zF} (hF : okF F) (day h wo : Int32) {b : Nat} (hb : fB F ≤ b) (hb6 : b < 6) (h6 : fB F ≤ 6) : offW F day h wo b = 0 := by
  refine zsum_0 _ (fun v hv => ?_)
  obtain ⟨b0, h0, e0⟩ := (hF.2.1 v hv).1
  unfold offWT
  rw [if_neg (fun z => by
    have := (nI_eq (a := b0) (b := b) (by omega) (by omega)).mp (e0.symm.trans z.2)
    omega)]
theorem many_6 {F : zF} (hF : okF F) (h6 : fB F ≤ 6) (h12 : fV F ≤ 12) (day h : Int32) {r : Nat → Int32} (hr : ∀ b, b < 6 → r b = offW F day h 0 b) : zsum (fun b => zB (¬ r b = 0)) 6 = manyOff F day h := by
  unfold manyOff
  have e : 6 = fB F + (6 - fB F) := by omega
  rw [show zsum (fun b => zB (¬ r b = 0)) 6 = zsum (fun b => zB (¬ r b = 0)) (fB F + (6 - fB F)) by rw [← e]]
  rw [zsum_tail (fB F) (6 - fB F) (fun b h1 h2 => by
    rw [hr b (by omega), offW_out hF day h 0 h1 (by omega) h6]
    rfl)]
  refine zsum_congr _ (fun b hb => ?_)
  rw [hr b (by omega), offW_0 F day h b h12]

set_option maxRecDepth 100000 in
set_option maxHeartbeats 4000000 in
theorem w_countOff_62 {g : zG} {d : Nat} (hd : 1 ≤ d) : ∀ (j i : Nat) (acc : Int32) (μ : zMem), i + j = 6 → (acc = zsum (fun b => zB (¬ μ.1 62 b = 0)) i) → zW g O_countOff d 4 [some (.ref 62), some (.int acc), some (.int (nI i))] [] μ (fun r μ' => r = some (.int (zsum (fun b => zB (¬ μ.1 62 b = 0)) 6)) ∧ μ' = μ) := by
  intro j
  induction j with
  | zero =>
    intro i acc μ hi  hv0
    have hi : 6 = i := by omega
    subst hi
    refine zb O_countOff_s4 rfl ?_
    refine z_cge O_countOff_d7 (tgt := 33) rfl (fun h7 => ?_) (fun h7 => absurd (show 6 ≤ nI (6) by first | exact Int32.le_refl _ | (rw [hbd]; exact Int32.le_refl _)) h7)
    refine zb O_countOff_s33 rfl ?_
    refine z_ret O_countOff_d34 rfl ?_
    exact ⟨by rw [hv0], rfl⟩
  | succ j ih =>
    intro i acc μ hi  hv0
    have hilt : i < 6 := by omega
    have ei : (nI i).toNatClampNeg = i := nI_clamp (by omega)
    refine zb O_countOff_s4 rfl ?_
    refine z_cge O_countOff_d7 (tgt := 33) rfl (fun h7 => absurd h7 (show ¬ 6 ≤ nI i by first | exact nI_ge (b := 6) hilt (by omega) | (rw [hbd]; exact nI_ge hilt (by omega)))) (fun h7 => ?_)
    refine zb1 O_countOff_s10 rfl (vp_in_nI hilt (by omega)) ?_
    refine z_eq O_countOff_d14 (tgt := 21) rfl (fun h14 => ?_) (fun h14 => ?_)
    · refine zb O_countOff_s21 rfl ?_
      refine zcallN O_countOff_d22 k9_40 (by omega) (x_bit _) rfl rfl (Nat.le_of_ble_eq_true rfl) ?_
      rintro _ μx ⟨rfl, hx⟩
      rw [hx]
      clear hx μx
      refine zb O_countOff_s25 rfl ?_
      rw [nI_1]
      rw [ei] at h14
      refine ih (i + 1) _ _ (by omega) ?_
      rw [zsum_s, ← hv0]
      congr 1
      first | exact zB_cong (iff_of_true (by decide) h14) | exact zB_cong (iff_of_false (by decide) (fun z => z h14))
    · refine zb O_countOff_s17 rfl ?_
      refine zcallN O_countOff_d22 k9_40 (by omega) (x_bit _) rfl rfl (Nat.le_of_ble_eq_true rfl) ?_
      rintro _ μx ⟨rfl, hx⟩
      rw [hx]
      clear hx μx
      refine zb O_countOff_s25 rfl ?_
      rw [nI_1]
      rw [ei] at h14
      refine ih (i + 1) _ _ (by omega) ?_
      rw [zsum_s, ← hv0]
      congr 1
      first | exact zB_cong (iff_of_true (by decide) h14) | exact zB_cong (iff_of_false (by decide) (fun z => z h14))

set_option maxRecDepth 100000 in
set_option maxHeartbeats 4000000 in
theorem x_countOff_62 {g : zG} {d : Nat} {μ : zMem} (hd : 1 ≤ d) : zM g d O_countOff [.ref 62] μ (fun r μ' => r = some (.int (zsum (fun b => zB (¬ μ.1 62 b = 0)) 6)) ∧ μ' = μ) := by
  refine zM_of (by decide +kernel) rfl rfl (Nat.le_of_ble_eq_true rfl) rfl ?_
  refine zb O_countOff_s0 rfl ?_
  exact w_countOff_62 hd 6 0 0 μ (by omega) rfl

set_option maxRecDepth 100000 in
set_option maxHeartbeats 4000000 in
theorem w_countOff_69 {g : zG} {d : Nat} (hd : 1 ≤ d) : ∀ (j i : Nat) (acc : Int32) (μ : zMem), i + j = 6 → (acc = zsum (fun b => zB (¬ μ.1 69 b = 0)) i) → zW g O_countOff d 4 [some (.ref 69), some (.int acc), some (.int (nI i))] [] μ (fun r μ' => r = some (.int (zsum (fun b => zB (¬ μ.1 69 b = 0)) 6)) ∧ μ' = μ) := by
  intro j
  induction j with
  | zero =>
    intro i acc μ hi  hv0
    have hi : 6 = i := by omega
    subst hi
    refine zb O_countOff_s4 rfl ?_
    refine z_cge O_countOff_d7 (tgt := 33) rfl (fun h7 => ?_) (fun h7 => absurd (show 6 ≤ nI (6) by first | exact Int32.le_refl _ | (rw [hbd]; exact Int32.le_refl _)) h7)
    refine zb O_countOff_s33 rfl ?_
    refine z_ret O_countOff_d34 rfl ?_
    exact ⟨by rw [hv0], rfl⟩
  | succ j ih =>
    intro i acc μ hi  hv0
    have hilt : i < 6 := by omega
    have ei : (nI i).toNatClampNeg = i := nI_clamp (by omega)
    refine zb O_countOff_s4 rfl ?_
    refine z_cge O_countOff_d7 (tgt := 33) rfl (fun h7 => absurd h7 (show ¬ 6 ≤ nI i by first | exact nI_ge (b := 6) hilt (by omega) | (rw [hbd]; exact nI_ge hilt (by omega)))) (fun h7 => ?_)
    refine zb1 O_countOff_s10 rfl (vp_in_nI hilt (by omega)) ?_
    refine z_eq O_countOff_d14 (tgt := 21) rfl (fun h14 => ?_) (fun h14 => ?_)
    · refine zb O_countOff_s21 rfl ?_
      refine zcallN O_countOff_d22 k9_40 (by omega) (x_bit _) rfl rfl (Nat.le_of_ble_eq_true rfl) ?_
      rintro _ μx ⟨rfl, hx⟩
      rw [hx]
      clear hx μx
      refine zb O_countOff_s25 rfl ?_
      rw [nI_1]
      rw [ei] at h14
      refine ih (i + 1) _ _ (by omega) ?_
      rw [zsum_s, ← hv0]
      congr 1
      first | exact zB_cong (iff_of_true (by decide) h14) | exact zB_cong (iff_of_false (by decide) (fun z => z h14))
    · refine zb O_countOff_s17 rfl ?_
      refine zcallN O_countOff_d22 k9_40 (by omega) (x_bit _) rfl rfl (Nat.le_of_ble_eq_true rfl) ?_
      rintro _ μx ⟨rfl, hx⟩
      rw [hx]
      clear hx μx
      refine zb O_countOff_s25 rfl ?_
      rw [nI_1]
      rw [ei] at h14
      refine ih (i + 1) _ _ (by omega) ?_
      rw [zsum_s, ← hv0]
      congr 1
      first | exact zB_cong (iff_of_true (by decide) h14) | exact zB_cong (iff_of_false (by decide) (fun z => z h14))

set_option maxRecDepth 100000 in
set_option maxHeartbeats 4000000 in
theorem x_countOff_69 {g : zG} {d : Nat} {μ : zMem} (hd : 1 ≤ d) : zM g d O_countOff [.ref 69] μ (fun r μ' => r = some (.int (zsum (fun b => zB (¬ μ.1 69 b = 0)) 6)) ∧ μ' = μ) := by
  refine zM_of (by decide +kernel) rfl rfl (Nat.le_of_ble_eq_true rfl) rfl ?_
  refine zb O_countOff_s0 rfl ?_
  exact w_countOff_69 hd 6 0 0 μ (by omega) rfl

set_option maxRecDepth 100000 in
set_option maxHeartbeats 4000000 in
theorem w_countOff_70 {g : zG} {d : Nat} (hd : 1 ≤ d) : ∀ (j i : Nat) (acc : Int32) (μ : zMem), i + j = 6 → (acc = zsum (fun b => zB (¬ μ.1 70 b = 0)) i) → zW g O_countOff d 4 [some (.ref 70), some (.int acc), some (.int (nI i))] [] μ (fun r μ' => r = some (.int (zsum (fun b => zB (¬ μ.1 70 b = 0)) 6)) ∧ μ' = μ) := by
  intro j
  induction j with
  | zero =>
    intro i acc μ hi  hv0
    have hi : 6 = i := by omega
    subst hi
    refine zb O_countOff_s4 rfl ?_
    refine z_cge O_countOff_d7 (tgt := 33) rfl (fun h7 => ?_) (fun h7 => absurd (show 6 ≤ nI (6) by first | exact Int32.le_refl _ | (rw [hbd]; exact Int32.le_refl _)) h7)
    refine zb O_countOff_s33 rfl ?_
    refine z_ret O_countOff_d34 rfl ?_
    exact ⟨by rw [hv0], rfl⟩
  | succ j ih =>
    intro i acc μ hi  hv0
    have hilt : i < 6 := by omega
    have ei : (nI i).toNatClampNeg = i := nI_clamp (by omega)
    refine zb O_countOff_s4 rfl ?_
    refine z_cge O_countOff_d7 (tgt := 33) rfl (fun h7 => absurd h7 (show ¬ 6 ≤ nI i by first | exact nI_ge (b := 6) hilt (by omega) | (rw [hbd]; exact nI_ge hilt (by omega)))) (fun h7 => ?_)
    refine zb1 O_countOff_s10 rfl (vp_in_nI hilt (by omega)) ?_
    refine z_eq O_countOff_d14 (tgt := 21) rfl (fun h14 => ?_) (fun h14 => ?_)
    · refine zb O_countOff_s21 rfl ?_
      refine zcallN O_countOff_d22 k9_40 (by omega) (x_bit _) rfl rfl (Nat.le_of_ble_eq_true rfl) ?_
      rintro _ μx ⟨rfl, hx⟩
      rw [hx]
      clear hx μx
      refine zb O_countOff_s25 rfl ?_
      rw [nI_1]
      rw [ei] at h14
      refine ih (i + 1) _ _ (by omega) ?_
      rw [zsum_s, ← hv0]
      congr 1
      first | exact zB_cong (iff_of_true (by decide) h14) | exact zB_cong (iff_of_false (by decide) (fun z => z h14))
    · refine zb O_countOff_s17 rfl ?_
      refine zcallN O_countOff_d22 k9_40 (by omega) (x_bit _) rfl rfl (Nat.le_of_ble_eq_true rfl) ?_
      rintro _ μx ⟨rfl, hx⟩
      rw [hx]
      clear hx μx
      refine zb O_countOff_s25 rfl ?_
      rw [nI_1]
      rw [ei] at h14
      refine ih (i + 1) _ _ (by omega) ?_
      rw [zsum_s, ← hv0]
      congr 1
      first | exact zB_cong (iff_of_true (by decide) h14) | exact zB_cong (iff_of_false (by decide) (fun z => z h14))

set_option maxRecDepth 100000 in
set_option maxHeartbeats 4000000 in
theorem x_countOff_70 {g : zG} {d : Nat} {μ : zMem} (hd : 1 ≤ d) : zM g d O_countOff [.ref 70] μ (fun r μ' => r = some (.int (zsum (fun b => zB (¬ μ.1 70 b = 0)) 6)) ∧ μ' = μ) := by
  refine zM_of (by decide +kernel) rfl rfl (Nat.le_of_ble_eq_true rfl) rfl ?_
  refine zb O_countOff_s0 rfl ?_
  exact w_countOff_70 hd 6 0 0 μ (by omega) rfl

set_option maxRecDepth 100000 in
set_option maxHeartbeats 4000000 in
theorem x_bellsOff {g : zG} {d : Nat} {F : zF} {μ : zMem} {day h : Int32} (hF : okF F) (hd : 6 ≤ d) (ho : oX F μ) : zM g d O_bellsOff [.ref 4, .int day, .int h] μ (fun r μ' => r = some (.int (manyOff F day h)) ∧ zq sX μ μ') := by
  refine zM_of (by decide +kernel) rfl rfl (Nat.le_of_ble_eq_true rfl) rfl ?_
  have hz : zq sX μ μ := zq.rf
  have h12 := ho.v12
  have h6 := ho.b6
  refine zb O_bellsOff_s0 rfl ?_
  refine zcallV O_bellsOff_d11 k9_22 (by omega) (x_fillOffs_62 hF (by omega) ho) rfl rfl rfl (Nat.le_of_ble_eq_true rfl) ?_
  rintro _ μ1 ⟨rfl, hz1, hrow⟩
  replace hz := hz.tr hz1
  replace ho := ho.q hz1
  clear hz1
  refine zb O_bellsOff_s14 rfl ?_
  refine zcallS O_bellsOff_d18 k9_28 (by omega) (x_countOff_62 (by omega)) rfl rfl (Nat.le_of_ble_eq_true rfl) ?_
  rintro _ μx ⟨rfl, hx⟩
  rw [hx]
  clear hx μx
  refine z_ret O_bellsOff_d21 rfl ?_
  exact ⟨by rw [many_6 hF h6 h12 day h hrow], hz⟩

set_option maxRecDepth 100000 in
set_option maxHeartbeats 4000000 in
theorem w_O_firstOff {g : zG} {d : Nat} {F : zF} {μ0 : zMem} {day h : Int32} {r0 : Int32} : ∀ (j i : Nat) (μ : zMem), i + j = 6 → zq sX μ0 μ → (zfind (fun b => ¬ μ.1 62 b = 0) i (6 - i) = r0) → zW g O_firstOff d 16 [some (.ref 4), some (.int day), some (.int h), some (.int (nI i))] [] μ (fun r μ' => r = some (.int (r0)) ∧ zq sX μ0 μ') := by
  intro j
  induction j with
  | zero =>
    intro i  μ hi hz hv0
    have hi : 6 = i := by omega
    subst hi
    refine zb O_firstOff_s16 rfl ?_
    refine z_cge O_firstOff_d19 (tgt := 39) rfl (fun h19 => ?_) (fun h19 => absurd (show 6 ≤ nI (6) by first | exact Int32.le_refl _ | (rw [hbd]; exact Int32.le_refl _)) h19)
    refine zb O_firstOff_s39 rfl ?_
    refine z_ret O_firstOff_d41 rfl ?_
    exact ⟨by rw [← hv0]; rfl, hz⟩
  | succ j ih =>
    intro i  μ hi hz hv0
    have hilt : i < 6 := by omega
    have ei : (nI i).toNatClampNeg = i := nI_clamp (by omega)
    have e6 : 6 - i = (6 - (i + 1)) + 1 := by omega
    rw [e6] at hv0
    simp only [zfind] at hv0
    refine zb O_firstOff_s16 rfl ?_
    refine z_cge O_firstOff_d19 (tgt := 39) rfl (fun h19 => absurd h19 (show ¬ 6 ≤ nI i by first | exact nI_ge (b := 6) hilt (by omega) | (rw [hbd]; exact nI_ge hilt (by omega)))) (fun h19 => ?_)
    refine zb1 O_firstOff_s22 rfl (vp_in_nI hilt (by omega)) ?_
    refine z_eq O_firstOff_d28 (tgt := 33) rfl (fun h28 => ?_) (fun h28 => ?_)
    · refine zb O_firstOff_s33 rfl ?_
      rw [nI_1]
      rw [ei] at h28
      exact ih (i + 1) _ (by omega) hz (by rw [if_neg (fun z => z h28)] at hv0; exact hv0)
    · refine zb O_firstOff_s31 rfl ?_
      refine z_ret O_firstOff_d32 rfl ?_
      rw [ei] at h28
      rw [if_pos h28] at hv0
      exact ⟨by rw [hv0], hz⟩

theorem zfind_congr {p q : Nat → Prop} [DecidablePred p] [DecidablePred q] : ∀ (k i : Nat), (∀ b, i ≤ b → b < i + k → (p b ↔ q b)) → zfind p i k = zfind q i k
  | 0, _, _ => rfl
  | k + 1, i, h => by
    simp only [zfind]
    rw [zfind_congr k (i + 1) (fun b h1 h2 => h b (by omega) (by omega))]
    by_cases z : p i
    · rw [if_pos z, if_pos ((h i (by omega) (by omega)).mp z)]
    · rw [if_neg z, if_neg (fun y => z ((h i (by omega) (by omega)).mpr y))]
set_option maxRecDepth 100000 in
set_option maxHeartbeats 4000000 in
theorem x_firstOff {g : zG} {d : Nat} {F : zF} {μ : zMem} {day h : Int32} (hF : okF F) (hd : 6 ≤ d) (ho : oX F μ) : zM g d O_firstOff [.ref 4, .int day, .int h] μ (fun r μ' => r = some (.int (zfind (fun b => ¬ offs F (nI b) day h = 0) 0 (fB F))) ∧ zq sX μ μ') := by
  refine zM_of (by decide +kernel) rfl rfl (Nat.le_of_ble_eq_true rfl) rfl ?_
  have hz : zq sX μ μ := zq.rf
  have h12 := ho.v12
  have h6 := ho.b6
  refine zb O_firstOff_s0 rfl ?_
  refine zcallV O_firstOff_d11 k9_22 (by omega) (x_fillOffs_62 hF (by omega) ho) rfl rfl rfl (Nat.le_of_ble_eq_true rfl) ?_
  rintro _ μ1 ⟨rfl, hz1, hrow⟩
  replace hz := hz.tr hz1
  replace ho := ho.q hz1
  clear hz1
  refine zb O_firstOff_s14 rfl ?_
  refine (w_O_firstOff (F := F) 6 0 μ1 (by omega) hz rfl).mono (fun v μ2 hq => ⟨?_, hq.2⟩)
  rw [hq.1]
  have e : 6 = fB F + (6 - fB F) := by omega
  rw [show zfind (fun b => ¬ μ1.1 62 b = 0) 0 (6 - 0) = zfind (fun b => ¬ μ1.1 62 b = 0) 0 (fB F + (6 - fB F)) by rw [← e]]
  rw [zfind_tail (fB F) 0 (6 - fB F) (fun b h1 h2 => by
    rw [hrow b (by omega), offW_out hF day h 0 (by omega) (by omega) h6]
    exact fun z => z rfl)]
  refine congrArg (fun z => some (Value.int z)) (zfind_congr (fB F) 0 (fun b h1 h2 => ?_))
  rw [hrow b (by omega), offW_0 F day h b h12]

set_option maxRecDepth 100000 in
set_option maxHeartbeats 4000000 in
theorem w_O_vowsBroken {g : zG} {d : Nat} {F : zF} {μ0 : zMem} {day : Int32} (hd : 1 ≤ d) : ∀ (j i : Nat) (acc : Int32) (μ : zMem), i + j = fV F → oX F μ → zq sX μ0 μ → (acc = zsum (fun v => zB (¬ kept F v day)) i) → zW g O_vowsBroken d 4 [some (.ref 4), some (.int day), some (.int acc), some (.int (nI i))] [] μ (fun r μ' => r = some (.int (zsum (fun v => zB (¬ kept F v day)) (fV F))) ∧ zq sX μ0 μ') := by
  intro j
  induction j with
  | zero =>
    intro i acc μ hi ho hz hv0
    have hbd := ho.v
    have h12 := ho.v12
    have h6 := ho.b6
    have hi : fV F = i := by omega
    subst hi
    refine zb O_vowsBroken_s4 rfl ?_
    refine z_cge O_vowsBroken_d12 (tgt := 44) rfl (fun h12 => ?_) (fun h12 => absurd (show μ.1 2 8 ≤ nI (fV F) by first | exact Int32.le_refl _ | (rw [hbd]; exact Int32.le_refl _)) h12)
    refine zb O_vowsBroken_s44 rfl ?_
    refine z_ret O_vowsBroken_d45 rfl ?_
    exact ⟨by rw [hv0], hz⟩
  | succ j ih =>
    intro i acc μ hi ho hz hv0
    have hbd := ho.v
    have h12 := ho.v12
    have h6 := ho.b6
    have hilt : i < fV F := by omega
    have ei : (nI i).toNatClampNeg = i := nI_clamp (by omega)
    refine zb O_vowsBroken_s4 rfl ?_
    refine z_cge O_vowsBroken_d12 (tgt := 44) rfl (fun h12 => absurd h12 (show ¬ μ.1 2 8 ≤ nI i by first | exact nI_ge hilt (by omega) | (rw [hbd]; exact nI_ge hilt (by omega)))) (fun h12 => ?_)
    refine zb O_vowsBroken_s15 rfl ?_
    refine zcallV O_vowsBroken_d22 k9_36 (by omega) (x_isKept _ (by omega) ho) rfl rfl rfl (Nat.le_of_ble_eq_true rfl) ?_
    rintro _ μx ⟨rfl, hx⟩
    rw [hx]
    clear hx μx
    refine z_ne O_vowsBroken_d25 (tgt := 32) rfl (fun h25 => ?_) (fun h25 => ?_)
    · refine zb O_vowsBroken_s32 rfl ?_
      refine zcallN O_vowsBroken_d33 k9_40 (by omega) (x_bit _) rfl rfl (Nat.le_of_ble_eq_true rfl) ?_
      rintro _ μx ⟨rfl, hx⟩
      rw [hx]
      clear hx μx
      refine zb O_vowsBroken_s36 rfl ?_
      rw [nI_1]
      refine ih (i + 1) _ _ (by omega) ho hz ?_
      rw [zsum_s, ← hv0]
      congr 1
      first | exact zB_cong (iff_of_true (by decide) (zB_eq0.mp h25)) | exact zB_cong (iff_of_false (by decide) (fun z => z (zB_ne0.mp h25)))
    · refine zb O_vowsBroken_s28 rfl ?_
      refine zcallN O_vowsBroken_d33 k9_40 (by omega) (x_bit _) rfl rfl (Nat.le_of_ble_eq_true rfl) ?_
      rintro _ μx ⟨rfl, hx⟩
      rw [hx]
      clear hx μx
      refine zb O_vowsBroken_s36 rfl ?_
      rw [nI_1]
      refine ih (i + 1) _ _ (by omega) ho hz ?_
      rw [zsum_s, ← hv0]
      congr 1
      first | exact zB_cong (iff_of_true (by decide) (zB_eq0.mp h25)) | exact zB_cong (iff_of_false (by decide) (fun z => z (zB_ne0.mp h25)))

set_option maxRecDepth 100000 in
set_option maxHeartbeats 4000000 in
theorem x_vowsBroken {g : zG} {d : Nat} {F : zF} {μ : zMem} {day : Int32} (hd : 1 ≤ d) (ho : oX F μ) : zM g d O_vowsBroken [.ref 4, .int day] μ (fun r μ' => r = some (.int (zsum (fun v => zB (¬ kept F v day)) (fV F))) ∧ zq sX μ μ') := by
  refine zM_of (by decide +kernel) rfl rfl (Nat.le_of_ble_eq_true rfl) rfl ?_
  have hz : zq sX μ μ := zq.rf
  have h12 := ho.v12
  have h6 := ho.b6
  refine zb O_vowsBroken_s0 rfl ?_
  exact w_O_vowsBroken hd (fV F) 0 0 μ (by omega) ho hz rfl

theorem puts_is {F : zF} {dh : Int32} (ht : tim dh) {v : Nat} (hv : v < fV F) (h12 : fV F ≤ 12) : sPuts F (nI v) dh = pu F v (fbell F v) (dh / 100) (hro dh) := by
  unfold sPuts
  rw [if_pos ⟨⟨nI_pos' (by omega), nI_lt hv (by omega)⟩, ht⟩, nI_clamp (by omega)]
theorem pu_r9 {F : zF} (hF : okF F) {v : Nat} (hv : v < fV F) (b day h : Int32) : r9 (pu F v b day h) := giv_r9 hF hv _ _ _ _
theorem zab_r9 {x : Int32} (h : r9 x) : 0 ≤ zab x := by
  unfold zab
  have := r9_int h
  by_cases q : x < 0
  · rw [if_pos q, Int32.le_iff_toInt_le, Int32.toInt_neg, zbm (by omega) (by omega)]
    have := Int32.lt_iff_toInt_lt.mp q
    rw [show (0 : Int32).toInt = 0 from rfl] at this ⊢
    omega
  · rw [if_neg q]; exact Int32.not_lt.mp q

set_option maxRecDepth 100000 in
set_option maxHeartbeats 4000000 in
theorem w_O_worst {g : zG} {d : Nat} {F : zF} {μ0 : zMem} {dh : Int32} (hF : okF F) (ht : tim dh) (hd : 6 ≤ d) : ∀ (j i : Nat) (a3 : Int32) (a4 : Int32) (x6 : Option Value) (μ : zMem), i + j = fV F → oX F μ → zq sX μ0 μ → (a3 = zmst (fun v => zab (sPuts F (nI v) dh)) i) → ((i = 0 ∧ a3 = -2 ∧ a4 = -1) ∨ ∃ k, k < i ∧ a3 = nI k ∧ a4 = zab (sPuts F (nI k) dh)) → zW g O_worstVow d 9 [some (.ref 4), some (.int (dh / 100)), some (.int (hro dh)), some (.int a3), some (.int a4), some (.int (nI i)), x6] [] μ (fun r μ' => r = some (.int (sWorst F dh)) ∧ zq sX μ0 μ') := by
  intro j
  induction j with
  | zero =>
    intro i a3 a4 x6 μ hi ho hz hv0 hv1
    have hbd := ho.v
    have h12 := ho.v12
    have h6 := ho.b6
    have hi : fV F = i := by omega
    subst hi
    refine zb O_worstVow_s9 rfl ?_
    refine z_cge O_worstVow_d18 (tgt := 57) rfl (fun h18 => ?_) (fun h18 => absurd (show μ.1 2 8 ≤ nI (fV F) by first | exact Int32.le_refl _ | (rw [hbd]; exact Int32.le_refl _)) h18)
    refine zb O_worstVow_s57 rfl ?_
    refine z_ret O_worstVow_d58 rfl ?_
    exact ⟨by rw [hv0]; rfl, hz⟩
  | succ j ih =>
    intro i a3 a4 x6 μ hi ho hz hv0 hv1
    have hbd := ho.v
    have h12 := ho.v12
    have h6 := ho.b6
    have hilt : i < fV F := by omega
    have ei : (nI i).toNatClampNeg = i := nI_clamp (by omega)
    have hp := puts_is ht hilt h12
    have hnn : 0 ≤ zab (sPuts F (nI i) dh) := by rw [hp]; exact zab_r9 (pu_r9 hF hilt _ _ _)
    refine zb O_worstVow_s9 rfl ?_
    refine z_cge O_worstVow_d18 (tgt := 57) rfl (fun h18 => absurd h18 (show ¬ μ.1 2 8 ≤ nI i by first | exact nI_ge hilt (by omega) | (rw [hbd]; exact nI_ge hilt (by omega)))) (fun h18 => ?_)
    refine zb O_worstVow_s21 rfl ?_
    refine zcallV O_worstVow_d29 k9_44 (by omega) (x_offByVow hF (by omega) (by omega) ho) rfl rfl rfl (Nat.le_of_ble_eq_true rfl) ?_
    rintro _ μ1 ⟨rfl, hz1⟩
    replace hz := hz.tr hz1
    replace ho := ho.q hz1
    clear hz1
    refine zabs O_worstVow_d32 k9_48 (by omega) (Nat.le_of_ble_eq_true rfl) ?_
    rw [zab_is, ← hp]
    refine zb O_worstVow_s35 rfl ?_
    refine z_cle O_worstVow_d41 (tgt := 51) rfl (fun h41 => ?_) (fun h41 => ?_)
    · refine zb O_worstVow_s51 rfl ?_
      rw [nI_1]
      first
        | (have hup : zmst (fun v => zab (sPuts F (nI v) dh)) (i + 1) = nI i := by
             simp only [zmst]
             refine if_pos ?_
             rcases hv1 with ⟨-, w, -⟩ | ⟨k, hk, w, w2⟩
             · exact Or.inl (by rw [← hv0]; exact w)
             · refine Or.inr ?_
               rw [← hv0, w, nI_clamp (by omega), ← w2]
               exact Int32.not_le.mp h41
           exact ih (i + 1) _ _ _ _ (by omega) ho hz hup.symm (Or.inr ⟨i, by omega, rfl, rfl⟩))
        | (rcases hv1 with ⟨-, -, w⟩ | ⟨k, hk, w, w2⟩
           · rw [w] at h41
             exact absurd (Int32.le_trans hnn h41) (by decide)
           · have hdn : zmst (fun v => zab (sPuts F (nI v) dh)) (i + 1) = a3 := by
               rw [hv0]
               simp only [zmst]
               refine if_neg ?_
               rw [← hv0, w]
               rintro (z | z)
               · exact absurd (show (nI k).toInt = (-2 : Int32).toInt by rw [z]) (by rw [nI_toInt (by omega), show (-2 : Int32).toInt = -2 from rfl]; omega)
               · rw [nI_clamp (by omega), ← w2] at z
                 exact absurd z (Int32.not_lt.mpr h41)
             exact ih (i + 1) _ _ _ _ (by omega) ho hz hdn.symm (Or.inr ⟨k, by omega, w, w2⟩))
    · refine zb O_worstVow_s44 rfl ?_
      rw [nI_1]
      first
        | (have hup : zmst (fun v => zab (sPuts F (nI v) dh)) (i + 1) = nI i := by
             simp only [zmst]
             refine if_pos ?_
             rcases hv1 with ⟨-, w, -⟩ | ⟨k, hk, w, w2⟩
             · exact Or.inl (by rw [← hv0]; exact w)
             · refine Or.inr ?_
               rw [← hv0, w, nI_clamp (by omega), ← w2]
               exact Int32.not_le.mp h41
           exact ih (i + 1) _ _ _ _ (by omega) ho hz hup.symm (Or.inr ⟨i, by omega, rfl, rfl⟩))
        | (rcases hv1 with ⟨-, -, w⟩ | ⟨k, hk, w, w2⟩
           · rw [w] at h41
             exact absurd (Int32.le_trans hnn h41) (by decide)
           · have hdn : zmst (fun v => zab (sPuts F (nI v) dh)) (i + 1) = a3 := by
               rw [hv0]
               simp only [zmst]
               refine if_neg ?_
               rw [← hv0, w]
               rintro (z | z)
               · exact absurd (show (nI k).toInt = (-2 : Int32).toInt by rw [z]) (by rw [nI_toInt (by omega), show (-2 : Int32).toInt = -2 from rfl]; omega)
               · rw [nI_clamp (by omega), ← w2] at z
                 exact absurd z (Int32.not_lt.mpr h41)
             exact ih (i + 1) _ _ _ _ (by omega) ho hz hdn.symm (Or.inr ⟨k, by omega, w, w2⟩))

set_option maxRecDepth 100000 in
set_option maxHeartbeats 4000000 in
theorem x_worstVow {g : zG} {d : Nat} {F : zF} {μ : zMem} {dh : Int32} (ht : tim dh) (hF : okF F) (hd : 6 ≤ d) (ho : oX F μ) : zM g d O_worstVow [.ref 4, .int (dh / 100), .int (hro dh)] μ (fun r μ' => r = some (.int (sWorst F dh)) ∧ zq sX μ μ') := by
  refine zM_of (by decide +kernel) rfl rfl (Nat.le_of_ble_eq_true rfl) rfl ?_
  have hz : zq sX μ μ := zq.rf
  have h12 := ho.v12
  have h6 := ho.b6
  refine zb O_worstVow_s0 rfl ?_
  exact w_O_worst hF ht hd (fV F) 0 _ _ _ μ (by omega) ho hz rfl (Or.inl ⟨rfl, rfl, rfl⟩)

set_option maxRecDepth 100000 in
set_option maxHeartbeats 4000000 in
theorem w_O_strike {g : zG} {d : Nat} {F : zF} {μ0 : zMem} {day h : Int32} : ∀ (j i : Nat) (μ : zMem), i + j = 6 → oX F μ → zq sX μ0 μ → (∀ b, b < 6 → μ.1 62 b = offW F day h 0 b) → (∀ b, b < i → μ.1 63 b = ftone F b + offW F day h 0 b) → zW g O_strikeAll d 16 [some (.ref 4), some (.int day), some (.int h), some (.int (nI i))] [] μ (fun r μ' => r = none ∧ zq sX μ0 μ' ∧ ∀ b, b < 6 → μ'.1 63 b = ftone F b + offW F day h 0 b) := by
  intro j
  induction j with
  | zero =>
    intro i  μ hi ho hz hv0 hv1
    have hi : 6 = i := by omega
    subst hi
    refine zb O_strikeAll_s16 rfl ?_
    refine z_cge O_strikeAll_d19 (tgt := 50) rfl (fun h19 => ?_) (fun h19 => absurd (show 6 ≤ nI (6) by first | exact Int32.le_refl _ | (rw [hbd]; exact Int32.le_refl _)) h19)
    refine z_retV O_strikeAll_d50 rfl ?_
    exact ⟨rfl, hz, hv1⟩
  | succ j ih =>
    intro i  μ hi ho hz hv0 hv1
    have hilt : i < 6 := by omega
    have ei : (nI i).toNatClampNeg = i := nI_clamp (by omega)
    refine zb O_strikeAll_s16 rfl ?_
    refine z_cge O_strikeAll_d19 (tgt := 50) rfl (fun h19 => absurd h19 (show ¬ 6 ≤ nI i by first | exact nI_ge (b := 6) hilt (by omega) | (rw [hbd]; exact nI_ge hilt (by omega)))) (fun h19 => ?_)
    refine zb3 O_strikeAll_s22 rfl (vp_in_nI hilt (by omega)) (vp_in_nI hilt (by omega)) (vp_in_nI hilt (by omega)) ?_
    rw [nI_1, ei, ho.e54, hv0 i hilt]
    refine ih (i + 1) _ (by omega) (ho.q (zq.w rfl)) (hz.tr (zq.w rfl)) (fun b hb => by rw [zpI_ne (by decide)]; exact hv0 b hb) (fun b hb => ?_)
    rw [zpI_at]
    by_cases y : b = i
    · rw [if_pos y, y]
    · rw [if_neg y]
      exact hv1 b (by omega)

set_option maxRecDepth 100000 in
set_option maxHeartbeats 4000000 in
theorem x_strikeAll {g : zG} {d : Nat} {F : zF} {μ : zMem} {day h : Int32} (hF : okF F) (hd : 6 ≤ d) (ho : oX F μ) : zM g d O_strikeAll [.ref 4, .int day, .int h] μ (fun r μ' => r = none ∧ zq sX μ μ' ∧ ∀ b, b < 6 → μ'.1 63 b = ftone F b + offW F day h 0 b) := by
  refine zM_of (by decide +kernel) rfl rfl (Nat.le_of_ble_eq_true rfl) rfl ?_
  have hz : zq sX μ μ := zq.rf
  have h12 := ho.v12
  have h6 := ho.b6
  refine zb O_strikeAll_s0 rfl ?_
  refine zcallV O_strikeAll_d11 k9_22 (by omega) (x_fillOffs_62 hF (by omega) ho) rfl rfl rfl (Nat.le_of_ble_eq_true rfl) ?_
  rintro _ μ1 ⟨rfl, hz1, hrow⟩
  replace hz := hz.tr hz1
  replace ho := ho.q hz1
  clear hz1
  refine zb O_strikeAll_s14 rfl ?_
  exact w_O_strike 6 0 μ1 (by omega) ho hz hrow (fun b hb => by omega)

theorem pit_is {F : zF} {dh : Int32} (ht : tim dh) {b : Nat} (hb : b < fB F) (h6 : fB F ≤ 6) (h12 : fV F ≤ 12) : sPitch F (nI b) dh 0 = ftone F b + offW F (dh / 100) (hro dh) 0 b := by
  unfold sPitch
  rw [if_pos ⟨⟨nI_pos' (by omega), nI_lt hb (by omega)⟩, ht, by decide, by decide⟩, if_pos rfl, nI_clamp (by omega), offW_0 _ _ _ _ h12, Int32.add_comm]
theorem offT_r9 {F : zF} (hF : okF F) (b day h : Int32) : ∀ v, v < fV F → r9 (offT F b day h v) := fun v hv => by
  unfold offT
  split
  · exact giv_r9 hF hv _ _ _ _
  · exact ⟨by decide, by decide⟩
theorem pit_in {F : zF} (hF : okF F) {dh : Int32} (ht : tim dh) {b : Nat} (hb : b < fB F) (h6 : fB F ≤ 6) (h12 : fV F ≤ 12) : -108 ≤ (sPitch F (nI b) dh 0).toInt ∧ (sPitch F (nI b) dh 0).toInt ≤ 207 := by
  have h1 := zsum_r9 (fV F) h12 (offT_r9 hF (nI b) (dh / 100) (hro dh))
  have h2 : 0 ≤ (ftone F b).toInt ∧ (ftone F b).toInt ≤ 99 := ⟨Int32.le_iff_toInt_le.mp (hF.1 b hb).1.1, Int32.le_iff_toInt_le.mp (hF.1 b hb).1.2⟩
  rw [pit_is ht hb h6 h12, offW_0 _ _ _ _ h12]
  unfold offs
  rw [Int32.toInt_add, zbm (by omega) (by omega)]
  omega
theorem beat_is {F : zF} (hF : okF F) {dh : Int32} (ht : tim dh) {a b : Nat} (ha : a < fB F) (hb : b < fB F) (hab : a < b) (h6 : fB F ≤ 6) (h12 : fV F ≤ 12) : ∃ x t : Nat, zab (sPitch F (nI a) dh 0 - sPitch F (nI b) dh 0) = nI x ∧ ftune F a = nI t ∧ 1 ≤ t ∧ t ≤ 24 ∧ x < 1000 ∧ sBeat F (nI a) (nI b) dh = zmn (nI (x % t)) (nI (t - x % t)) := by
  obtain ⟨a1, a2⟩ := pit_in hF ht ha h6 h12
  obtain ⟨b1, b2⟩ := pit_in hF ht hb h6 h12
  have hx : ∃ x : Nat, x < 1000 ∧ zab (sPitch F (nI a) dh 0 - sPitch F (nI b) dh 0) = nI x := by
    have e : (sPitch F (nI a) dh 0 - sPitch F (nI b) dh 0).toInt = (sPitch F (nI a) dh 0).toInt - (sPitch F (nI b) dh 0).toInt := by rw [Int32.toInt_sub, zbm (by omega) (by omega)]
    unfold zab
    by_cases q : sPitch F (nI a) dh 0 - sPitch F (nI b) dh 0 < 0
    · have q2 := Int32.lt_iff_toInt_lt.mp q
      rw [e, show (0 : Int32).toInt = 0 from rfl] at q2
      refine ⟨(-((sPitch F (nI a) dh 0).toInt - (sPitch F (nI b) dh 0).toInt)).toNat, by omega, ?_⟩
      rw [if_pos q]
      apply Int32.toInt_inj.mp
      rw [Int32.toInt_neg, e, nI_toInt (by omega), zbm (by omega) (by omega)]
      omega
    · have q2 := Int32.le_iff_toInt_le.mp (Int32.not_lt.mp q)
      rw [e, show (0 : Int32).toInt = 0 from rfl] at q2
      refine ⟨((sPitch F (nI a) dh 0).toInt - (sPitch F (nI b) dh 0).toInt).toNat, by omega, ?_⟩
      rw [if_neg q]
      apply Int32.toInt_inj.mp
      rw [e, nI_toInt (by omega)]
      omega
  obtain ⟨x, hx1, hx2⟩ := hx
  obtain ⟨t, ht1, ht2⟩ := nI_of2 (M := 24) (n := 24) rfl (Int32.not_lt.mpr (Int32.le_trans (by decide) (hF.1 a ha).2.1)) (hF.1 a ha).2.2
  have ht0 : 1 ≤ t := by
    have := (hF.1 a ha).2.1
    rw [ht2] at this
    exact (nI_leI (a := 1) (by omega) (by omega)).mp this
  refine ⟨x, t, hx2, ht2, ht0, ht1, hx1, ?_⟩
  have hm : zmn (nI a) (nI b) = nI a := if_pos (nI_lt hab (by omega))
  have hr : zrem (nI x) (nI t) = nI (x % t) := pk_rem (by omega) ht0 (by omega)
  unfold sBeat
  rw [hm, nI_clamp (by omega), hx2, ht2, hr, pk_sub (Nat.le_of_lt (Nat.mod_lt _ ht0))]
theorem beat_nn {F : zF} (hF : okF F) {dh : Int32} (ht : tim dh) {a b : Nat} (ha : a < fB F) (hb : b < fB F) (hab : a < b) (h6 : fB F ≤ 6) (h12 : fV F ≤ 12) : 0 ≤ sBeat F (nI a) (nI b) dh := by
  obtain ⟨x, t, -, -, h1, h2, -, e⟩ := beat_is hF ht ha hb hab h6 h12
  rw [e]
  have := Nat.mod_lt x h1
  unfold zmn
  split
  · exact nI_pos' (by omega)
  · exact nI_pos' (by omega)

set_option maxRecDepth 100000 in
set_option maxHeartbeats 4000000 in
theorem x_beatsOf {g : zG} {d : Nat} {F : zF} {μ : zMem} {a b : Nat} {dh : Int32} (hF : okF F) (ht : tim dh) (hd : 1 ≤ d) (ha : a < fB F) (hb : b < fB F) (hab : a < b) (hp : ∀ k, k < 6 → μ.1 63 k = ftone F k + offW F (dh / 100) (hro dh) 0 k) (ho : oX F μ) : zM g d O_beatsOf [.ref 4, .int (nI a), .int (nI b)] μ (fun r μ' => r = some (.int (sBeat F (nI a) (nI b) dh)) ∧ μ' = μ) := by
  refine zM_of (by decide +kernel) rfl rfl (Nat.le_of_ble_eq_true rfl) rfl ?_
  have h12 := ho.v12
  have h6 := ho.b6
  have hV := ho.v12
  have hva : vp_in (nI a) 6 := vp_in_nI (by omega) (by omega)
  have hvb : vp_in (nI b) 6 := vp_in_nI (by omega) (by omega)
  have ea : (nI a).toNatClampNeg = a := nI_clamp (by omega)
  have eb : (nI b).toNatClampNeg = b := nI_clamp (by omega)
  obtain ⟨x, t, e1, e2, h1, h2, h3, e4⟩ := beat_is hF ht ha hb hab h6 h12
  have et : μ.1 55 (nI a).toNatClampNeg = nI t := by rw [ho.e55, ea, e2]
  have hne : ¬ μ.1 55 (nI a).toNatClampNeg = 0 := by rw [et]; exact nI_ne0 (by omega) (by omega)
  have hr : nI x - nI x / nI t * nI t = nI (x % t) := pk_rem (by omega) h1 (by omega)
  have hlt := Nat.mod_lt x h1
  refine zb1 O_beatsOf_s0 rfl (by first | exact hva | exact hvb | exact hne | (rw [ea] at hne; exact hne)) ?_
  refine z_cge O_beatsOf_d12 (tgt := 17) rfl (fun h12 => ?_) (fun h12 => absurd (show (1 : Int32) ≤ μ.1 55 (nI a).toNatClampNeg by rw [et]; exact nI_le (a := 1) h1 (by omega)) h12)
  refine zb2 O_beatsOf_s17 rfl (by first | exact hva | exact hvb | exact hne | (rw [ea] at hne; exact hne)) (by first | exact hva | exact hvb | exact hne | (rw [ea] at hne; exact hne)) ?_
  refine zabs O_beatsOf_d30 k9_48 (by omega) (Nat.le_of_ble_eq_true rfl) ?_
  rw [ea, eb, hp a (by omega), hp b (by omega), ← pit_is ht ha h6 hV, ← pit_is ht hb h6 hV, zab_is, e1]
  refine zb1 O_beatsOf_s33 rfl (by first | exact hva | exact hvb | exact hne | (rw [ea] at hne; exact hne)) ?_
  refine zmin O_beatsOf_d43 k9_60 (by omega) (Nat.le_of_ble_eq_true rfl) ?_
  refine z_ret O_beatsOf_d46 rfl ?_
  rw [e4]
  rw [ea] at et
  rw [et, hr, pk_sub (Nat.le_of_lt hlt)]
  refine ⟨?_, rfl⟩
  refine congrArg (fun z => some (Value.int z)) ?_
  unfold zmn
  by_cases q : nI (x % t) < nI (t - x % t)
  · rw [if_pos q, if_neg (Int32.not_lt.mpr (Int32.le_of_lt q))]
  · rw [if_neg q]
    by_cases w : nI (t - x % t) < nI (x % t)
    · rw [if_pos w]
    · rw [if_neg w]
      exact Int32.le_antisymm (Int32.not_lt.mp w) (Int32.not_lt.mp q)

set_option maxRecDepth 100000 in
set_option maxHeartbeats 4000000 in
theorem x_isPairOf {g : zG} {d : Nat} {μ : zMem} (s a b : Int32) : zM g d O_isPairOf [.int s, .int a, .int b] μ (fun r μ' => r = some (.int (zB (hasB s a ∧ hasB s b))) ∧ μ' = μ) := by
  refine zM_of (by decide +kernel) rfl rfl (Nat.le_of_ble_eq_true rfl) rfl ?_
  refine zb O_isPairOf_s0 rfl ?_
  refine z_cne O_isPairOf_d6 (tgt := 22) rfl (fun h6 => ?_) (fun h6 => ?_)
  · refine zb O_isPairOf_s22 rfl ?_
    refine z_retZ O_isPairOf_d23 rfl (by first | exact Or.inl rfl | exact Or.inr rfl) ?_
    refine ⟨?_, rfl⟩
    first
      | rw [zB_t (show hasB s a ∧ hasB s b from ⟨h6, h15⟩)]
      | rw [zB_f (show ¬ (hasB s a ∧ hasB s b) from fun z => h15 z.2)]
      | rw [zB_f (show ¬ (hasB s a ∧ hasB s b) from fun z => h6 z.1)]
  · refine zb O_isPairOf_s9 rfl ?_
    refine z_cne O_isPairOf_d15 (tgt := 22) rfl (fun h15 => ?_) (fun h15 => ?_)
    · refine zb O_isPairOf_s22 rfl ?_
      refine z_retZ O_isPairOf_d23 rfl (by first | exact Or.inl rfl | exact Or.inr rfl) ?_
      refine ⟨?_, rfl⟩
      first
        | rw [zB_t (show hasB s a ∧ hasB s b from ⟨h6, h15⟩)]
        | rw [zB_f (show ¬ (hasB s a ∧ hasB s b) from fun z => h15 z.2)]
        | rw [zB_f (show ¬ (hasB s a ∧ hasB s b) from fun z => h6 z.1)]
    · refine zb O_isPairOf_s18 rfl ?_
      refine z_retZ O_isPairOf_d23 rfl (by first | exact Or.inl rfl | exact Or.inr rfl) ?_
      refine ⟨?_, rfl⟩
      first
        | rw [zB_t (show hasB s a ∧ hasB s b from ⟨h6, h15⟩)]
        | rw [zB_f (show ¬ (hasB s a ∧ hasB s b) from fun z => h15 z.2)]
        | rw [zB_f (show ¬ (hasB s a ∧ hasB s b) from fun z => h6 z.1)]
