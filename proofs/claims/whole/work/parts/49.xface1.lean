/-! the class: faults; the face of the sounds -/
theorem zsum_up {f : Nat → Int32} {K : Int} (hK : 0 ≤ K) : ∀ n : Nat, (n : Int) * K < 2147483648 → (∀ v, v < n → 0 ≤ (f v).toInt ∧ (f v).toInt ≤ K) → 0 ≤ (zsum f n).toInt ∧ (zsum f n).toInt ≤ n * K
  | 0, _, _ => by
    show 0 ≤ (0 : Int32).toInt ∧ (0 : Int32).toInt ≤ ((0 : Nat) : Int) * K
    rw [show (0 : Int32).toInt = 0 from rfl]
    exact ⟨by omega, by simp⟩
  | n + 1, h, hf => by
    have e : ((n + 1 : Nat) : Int) * K = (n : Int) * K + K := by rw [Int.natCast_add, Int.add_mul]; simp
    rw [e] at h
    have h1 := zsum_up hK n (by omega) (fun v hv => hf v (by omega))
    have h2 := hf n (by omega)
    rw [zsum_s, Int32.toInt_add, zbm (by omega) (by omega), e]
    omega
theorem zab_in {x : Int32} {K : Int} (hK : K < 2147483648) (h1 : -K ≤ x.toInt) (h2 : x.toInt ≤ K) : 0 ≤ (zab x).toInt ∧ (zab x).toInt ≤ K := by
  unfold zab
  by_cases q : x < 0
  · have q2 := Int32.lt_iff_toInt_lt.mp q
    rw [show (0 : Int32).toInt = 0 from rfl] at q2
    rw [if_pos q, Int32.toInt_neg, zbm (by omega) (by omega)]
    omega
  · have q2 := Int32.le_iff_toInt_le.mp (Int32.not_lt.mp q)
    rw [show (0 : Int32).toInt = 0 from rfl] at q2
    rw [if_neg q]
    omega
theorem faT_r9 {F : zF} (hF : okF F) (p dh : Int32) (ht : tim dh) (h12 : fV F ≤ 12) (b : Nat) : ∀ v, v < fV F → r9 (faT F p dh b v) := fun v hv => by
  unfold faT
  split
  · rw [puts_is ht hv h12]; exact pu_r9 hF hv _ _ _
  · exact ⟨by decide, by decide⟩
theorem faO_nn {F : zF} (hF : okF F) (p : Int32) {dh : Int32} (ht : tim dh) (h6 : fB F ≤ 6) (h12 : fV F ≤ 12) : 0 ≤ sFaO F p dh := by
  have := zsum_up (f := fun b => zab (zsum (faT F p dh b) (fV F))) (K := 108) (by omega) (fB F) (by omega) (fun b hb => by
    have h1 := zsum_r9 (fV F) h12 (faT_r9 hF p dh ht h12 b)
    exact zab_in (by omega) (by omega) (by omega))
  rw [Int32.le_iff_toInt_le, show (0 : Int32).toInt = 0 from rfl]
  exact this.1
theorem offW_fa {F : zF} (h12 : fV F ≤ 12) {p dh : Int32} (ht : tim dh) (b : Nat) : offW F (dh / 100) (hro dh) (nI (bitsN (fun v => ¬ fby F v = p) (fV F))) b = zsum (faT F p dh b) (fV F) := by
  refine zsum_congr _ (fun v hv => ?_)
  unfold offWT faT
  have hb := (bits_at (fun v => ¬ fby F v = p) h12 (show v < 12 by omega)).2
  by_cases q : fbell F v = nI b
  · by_cases w : fby F v = p
    · rw [if_pos ⟨hb.mpr (fun z => z.2 w), q⟩, if_pos ⟨q, w⟩, puts_is ht hv h12, q]
    · rw [if_neg (fun z => hb.mp z.1 ⟨hv, w⟩), if_neg (fun z => w z.2)]
  · rw [if_neg (fun z => q z.2), if_neg (fun z => q z.1)]

set_option maxRecDepth 100000 in
set_option maxHeartbeats 4000000 in
theorem w_O_fault0 {g : zG} {d : Nat} {F : zF} {μ0 : zMem} {p day h : Int32} {x6 : Option Value} {Q : Option Value → zMem → Prop} (hQ : ∀ (μ : zMem) (y5 : Option Value), oX F μ → zq sX μ0 μ → zW g O_faultOf d 47 [some (.ref 4), some (.int p), some (.int day), some (.int h), some (.int (nI (bitsN (fun v => ¬ fby F v = p) (fV F)))), y5, x6] [] μ Q) : ∀ (j i : Nat) (acc : Int32) (μ : zMem), i + j = fV F → oX F μ → zq sX μ0 μ → (acc = zfold (fun v s => if ¬ fby F v = p then s ||| bit1 v else s) 0 i 0) → zW g O_faultOf d 6 [some (.ref 4), some (.int p), some (.int day), some (.int h), some (.int acc), some (.int (nI i)), x6] [] μ (Q) := by
  intro j
  induction j with
  | zero =>
    intro i acc μ hi ho hz hv0
    have hbd := ho.v
    have h12 := ho.v12
    have h6 := ho.b6
    have hi : fV F = i := by omega
    subst hi
    refine zb O_faultOf_s6 rfl ?_
    refine z_cge O_faultOf_d15 (tgt := 47) rfl (fun h15 => ?_) (fun h15 => absurd (show μ.1 2 8 ≤ nI (fV F) by first | exact Int32.le_refl _ | (rw [hbd]; exact Int32.le_refl _)) h15)
    rw [hv0, bits_fold _ _ (by omega)]
    exact hQ _ _ ho hz
  | succ j ih =>
    intro i acc μ hi ho hz hv0
    have hbd := ho.v
    have h12 := ho.v12
    have h6 := ho.b6
    have hilt : i < fV F := by omega
    have ei : (nI i).toNatClampNeg = i := nI_clamp (by omega)
    have hvi : vp_in (nI i) 12 := vp_in_nI (by omega) (by omega)
    refine zb O_faultOf_s6 rfl ?_
    refine z_cge O_faultOf_d15 (tgt := 47) rfl (fun h15 => absurd h15 (show ¬ μ.1 2 8 ≤ nI i by first | exact nI_ge hilt (by omega) | (rw [hbd]; exact nI_ge hilt (by omega)))) (fun h15 => ?_)
    refine zb1 O_faultOf_s18 rfl hvi ?_
    refine z_ceq O_faultOf_d29 (tgt := 41) rfl (fun h29 => ?_) (fun h29 => ?_)
    · refine zb O_faultOf_s41 rfl ?_
      rw [nI_1]
      rw [ho.e58, ei] at h29
      refine ih (i + 1) _ _ (by omega) ho hz ?_
      rw [zf0, ← hv0]
      first | (rw [if_pos (show ¬ fby F i = p from h29)]; rfl) | rw [if_neg (show ¬ ¬ fby F i = p from fun z => z h29)]
    · refine zb O_faultOf_s32 rfl ?_
      rw [nI_1]
      rw [ho.e58, ei] at h29
      refine ih (i + 1) _ _ (by omega) ho hz ?_
      rw [zf0, ← hv0]
      first | (rw [if_pos (show ¬ fby F i = p from h29)]; rfl) | rw [if_neg (show ¬ ¬ fby F i = p from fun z => z h29)]

set_option maxRecDepth 100000 in
set_option maxHeartbeats 4000000 in
theorem w_O_fault1 {g : zG} {d : Nat} {p day h a4 : Int32} (hd : 1 ≤ d) : ∀ (j i : Nat) (acc : Int32) (μ : zMem), i + j = 6 → (acc = zsum (fun b => zab (μ.1 62 b)) i) → zW g O_faultOf d 68 [some (.ref 4), some (.int p), some (.int day), some (.int h), some (.int a4), some (.int acc), some (.int (nI i))] [] μ (fun r μ' => r = some (.int (zsum (fun b => zab (μ.1 62 b)) 6)) ∧ μ' = μ) := by
  intro j
  induction j with
  | zero =>
    intro i acc μ hi  hv0
    have hi : 6 = i := by omega
    subst hi
    refine zb O_faultOf_s68 rfl ?_
    refine z_cge O_faultOf_d72 (tgt := 96) rfl (fun h72 => ?_) (fun h72 => absurd (show 6 ≤ nI (6) by first | exact Int32.le_refl _ | (rw [hbd]; exact Int32.le_refl _)) h72)
    refine zb O_faultOf_s96 rfl ?_
    refine z_ret O_faultOf_d98 rfl ?_
    exact ⟨by rw [hv0], rfl⟩
  | succ j ih =>
    intro i acc μ hi  hv0
    have hilt : i < 6 := by omega
    have ei : (nI i).toNatClampNeg = i := nI_clamp (by omega)
    refine zb O_faultOf_s68 rfl ?_
    refine z_cge O_faultOf_d72 (tgt := 96) rfl (fun h72 => absurd h72 (show ¬ 6 ≤ nI i by first | exact nI_ge (b := 6) hilt (by omega) | (rw [hbd]; exact nI_ge hilt (by omega)))) (fun h72 => ?_)
    refine zb1 O_faultOf_s75 rfl (vp_in_nI hilt (by omega)) ?_
    refine zabs O_faultOf_d84 k9_48 (by omega) (Nat.le_of_ble_eq_true rfl) ?_
    refine zb O_faultOf_s87 rfl ?_
    rw [nI_1, zab_is, ei]
    exact ih (i + 1) _ _ (by omega) (by rw [zsum_s, ← hv0])

set_option maxRecDepth 100000 in
set_option maxHeartbeats 4000000 in
theorem x_faultOf {g : zG} {d : Nat} {F : zF} {μ : zMem} {p dh : Int32} (ht : tim dh) (hF : okF F) (hd : 6 ≤ d) (ho : oX F μ) : zM g d O_faultOf [.ref 4, .int p, .int (dh / 100), .int (hro dh)] μ (fun r μ' => r = some (.int (sFaO F p dh)) ∧ zq sX μ μ') := by
  refine zM_of (by decide +kernel) rfl rfl (Nat.le_of_ble_eq_true rfl) rfl ?_
  have hz : zq sX μ μ := zq.rf
  have h12 := ho.v12
  have h6 := ho.b6
  refine zb O_faultOf_s0 rfl ?_
  refine w_O_fault0 (μ0 := μ) (fun μ1 y5 ho1 hz1 => ?_) (fV F) 0 0 μ (by omega) ho hz rfl
  refine zb O_faultOf_s47 rfl ?_
  refine zcallV O_faultOf_d59 k9_22 (by omega) (x_fillOffs_62 hF (by omega) ho1) rfl rfl rfl (Nat.le_of_ble_eq_true rfl) ?_
  rintro _ μ2 ⟨rfl, hz2, hrow⟩
  refine zb O_faultOf_s62 rfl ?_
  refine (w_O_fault1 (by omega) 6 0 _ μ2 (by omega) rfl).mono (fun v μ3 hq => ⟨?_, ?_⟩)
  · rw [hq.1]
    refine congrArg (fun z => some (Value.int z)) ?_
    have e : 6 = fB F + (6 - fB F) := by omega
    rw [show zsum (fun b => zab (μ2.1 62 b)) 6 = zsum (fun b => zab (μ2.1 62 b)) (fB F + (6 - fB F)) by rw [← e]]
    rw [zsum_tail (fB F) (6 - fB F) (fun b h1 h2 => by
      rw [hrow b (by omega), offW_out hF _ _ _ h1 (by omega) h6]
      rfl)]
    refine zsum_congr _ (fun b hb => ?_)
    rw [hrow b (by omega), offW_fa h12 ht]
  · rw [hq.2]
    exact hz1.tr hz2

set_option maxRecDepth 100000 in
set_option maxHeartbeats 4000000 in
theorem w_O_most {g : zG} {d : Nat} {F : zF} {μ0 : zMem} {dh : Int32} (hF : okF F) (ht : tim dh) (hd : 7 ≤ d) : ∀ (j i : Nat) (a3 : Int32) (a4 : Int32) (x6 : Option Value) (μ : zMem), i + j = 6 → oX F μ → zq sX μ0 μ → ((i = 0 ∧ a3 = 0 ∧ a4 = -1) ∨ (1 ≤ i ∧ a3 = zfold (fun n is => if sFaO F is dh < sFaO F (nI n) dh then nI n else is) 1 (i - 1) 0 ∧ a4 = sFaO F a3 dh)) → zW g O_mostAtFault d 8 [some (.ref 4), some (.int (dh / 100)), some (.int (hro dh)), some (.int a3), some (.int a4), some (.int (nI i)), x6] [] μ (fun r μ' => r = some (.int (zfold (fun n is => if sFaO F is dh < sFaO F (nI n) dh then nI n else is) 1 5 0)) ∧ zq sX μ0 μ') := by
  intro j
  induction j with
  | zero =>
    intro i a3 a4 x6 μ hi ho hz hv0
    have hbd := ho.b
    have h12 := ho.v12
    have h6 := ho.b6
    have hV := ho.v12
    have hB := ho.b6
    have hi : 6 = i := by omega
    subst hi
    refine zb O_mostAtFault_s8 rfl ?_
    refine z_cge O_mostAtFault_d12 (tgt := 45) rfl (fun h12 => ?_) (fun h12 => absurd (show 6 ≤ nI (6) by first | exact Int32.le_refl _ | (rw [hbd]; exact Int32.le_refl _)) h12)
    refine zb O_mostAtFault_s45 rfl ?_
    refine z_ret O_mostAtFault_d46 rfl ?_
    rcases hv0 with ⟨w, -⟩ | ⟨-, w, -⟩
    · exact absurd w (by decide)
    · exact ⟨by rw [w], hz⟩
  | succ j ih =>
    intro i a3 a4 x6 μ hi ho hz hv0
    have hbd := ho.b
    have h12 := ho.v12
    have h6 := ho.b6
    have hV := ho.v12
    have hB := ho.b6
    have hilt : i < 6 := by omega
    have ei : (nI i).toNatClampNeg = i := nI_clamp (by omega)
    have hnn := faO_nn hF (nI i) ht hB hV
    refine zb O_mostAtFault_s8 rfl ?_
    refine z_cge O_mostAtFault_d12 (tgt := 45) rfl (fun h12 => absurd h12 (show ¬ 6 ≤ nI i by first | exact nI_ge (b := 6) hilt (by omega) | (rw [hbd]; exact nI_ge hilt (by omega)))) (fun h12 => ?_)
    refine zb O_mostAtFault_s15 rfl ?_
    refine zcallV O_mostAtFault_d20 k9_80 (by omega) (x_faultOf ht hF (by omega) ho) rfl rfl rfl (Nat.le_of_ble_eq_true rfl) ?_
    rintro _ μ1 ⟨rfl, hz1⟩
    replace hz := hz.tr hz1
    replace ho := ho.q hz1
    clear hz1
    refine zb O_mostAtFault_s23 rfl ?_
    refine z_cle O_mostAtFault_d29 (tgt := 39) rfl (fun h29 => ?_) (fun h29 => ?_)
    · refine zb O_mostAtFault_s39 rfl ?_
      rw [nI_1]
      rcases hv0 with ⟨w, w1, w2⟩ | ⟨w, w1, w2⟩
      · subst w
        first
          | exact ih (0 + 1) _ _ _ _ (by omega) ho hz (Or.inr ⟨by omega, rfl, rfl⟩)
          | (rw [w2] at h29
             exact absurd (Int32.le_trans hnn h29) (by decide))
      · have e : zfold (fun n is => if sFaO F is dh < sFaO F (nI n) dh then nI n else is) 1 (i + 1 - 1) 0 = if sFaO F a3 dh < sFaO F (nI i) dh then nI i else a3 := by
          rw [show i + 1 - 1 = (i - 1) + 1 by omega, zfold_s, ← w1, show 1 + (i - 1) = i by omega]
        rw [w2] at h29
        first
          | exact ih (i + 1) _ _ _ _ (by omega) ho hz (Or.inr ⟨by omega, by rw [e, if_pos (Int32.not_le.mp h29)], rfl⟩)
          | exact ih (i + 1) _ _ _ _ (by omega) ho hz (Or.inr ⟨by omega, by rw [e, if_neg (Int32.not_lt.mpr h29)], w2⟩)
    · refine zb O_mostAtFault_s32 rfl ?_
      rw [nI_1]
      rcases hv0 with ⟨w, w1, w2⟩ | ⟨w, w1, w2⟩
      · subst w
        first
          | exact ih (0 + 1) _ _ _ _ (by omega) ho hz (Or.inr ⟨by omega, rfl, rfl⟩)
          | (rw [w2] at h29
             exact absurd (Int32.le_trans hnn h29) (by decide))
      · have e : zfold (fun n is => if sFaO F is dh < sFaO F (nI n) dh then nI n else is) 1 (i + 1 - 1) 0 = if sFaO F a3 dh < sFaO F (nI i) dh then nI i else a3 := by
          rw [show i + 1 - 1 = (i - 1) + 1 by omega, zfold_s, ← w1, show 1 + (i - 1) = i by omega]
        rw [w2] at h29
        first
          | exact ih (i + 1) _ _ _ _ (by omega) ho hz (Or.inr ⟨by omega, by rw [e, if_pos (Int32.not_le.mp h29)], rfl⟩)
          | exact ih (i + 1) _ _ _ _ (by omega) ho hz (Or.inr ⟨by omega, by rw [e, if_neg (Int32.not_lt.mpr h29)], w2⟩)

set_option maxRecDepth 100000 in
set_option maxHeartbeats 4000000 in
theorem x_mostAtFault {g : zG} {d : Nat} {F : zF} {μ : zMem} {dh : Int32} (ht : tim dh) (hF : okF F) (hd : 7 ≤ d) (ho : oX F μ) : zM g d O_mostAtFault [.ref 4, .int (dh / 100), .int (hro dh)] μ (fun r μ' => r = some (.int (zfold (fun n is => if sFaO F is dh < sFaO F (nI n) dh then nI n else is) 1 5 0)) ∧ zq sX μ μ') := by
  refine zM_of (by decide +kernel) rfl rfl (Nat.le_of_ble_eq_true rfl) rfl ?_
  have hz : zq sX μ μ := zq.rf
  have h12 := ho.v12
  have h6 := ho.b6
  refine zb O_mostAtFault_s0 rfl ?_
  exact w_O_most hF ht hd 6 0 _ _ _ μ (by omega) ho hz (Or.inl ⟨rfl, rfl, rfl⟩)

set_option maxRecDepth 100000 in
set_option maxHeartbeats 4000000 in
theorem x_puts {g : zG} {d : Nat} {F : zF} {μ : zMem} {v dh : Int32} (hF : okF F) (hd : 6 ≤ d) (ho : oX F μ) : zM g d X_puts [.ref 1, .int v, .int dh] μ (fun r μ' => r = some (.int (sPuts F v dh)) ∧ zq sX μ μ') := by
  refine zM_of (by decide +kernel) rfl rfl (Nat.le_of_ble_eq_true rfl) rfl ?_
  have hz : zq sX μ μ := zq.rf
  have h12 := ho.v12
  have h6 := ho.b6
  refine zb X_puts_s0 rfl ?_
  refine zcallV X_puts_d5 k10_128 (by omega) (x_hasVow _ ho) rfl rfl rfl (Nat.le_of_ble_eq_true rfl) ?_
  rintro _ μx ⟨rfl, hx⟩
  rw [hx]
  clear hx μx
  refine z_eq X_puts_d8 (tgt := 18) rfl (fun h8 => ?_) (fun h8 => ?_)
  · refine zb X_puts_s18 rfl ?_
    refine z_ret X_puts_d20 rfl ?_
    unfold sPuts
    first
      | (rw [if_neg (fun z => (show ¬ isV F v from zB_eq0.mp h8) z.1)]; exact ⟨rfl, hz⟩)
      | (rw [if_neg (fun z => (show ¬ tim dh from zB_eq0.mp h15) z.2)]; exact ⟨rfl, hz⟩)
      | (rw [if_pos ⟨g1, g2⟩, eq]; exact ⟨rfl, hz⟩)
  · refine zb X_puts_s11 rfl ?_
    refine zcallS X_puts_d12 k10_160 (by omega) (x_isDayHour _) rfl rfl (Nat.le_of_ble_eq_true rfl) ?_
    rintro _ μx ⟨rfl, hx⟩
    rw [hx]
    clear hx μx
    refine z_ne X_puts_d15 (tgt := 21) rfl (fun h15 => ?_) (fun h15 => ?_)
    · have g1 : isV F v := zB_ne0.mp h8
      have g2 : tim dh := zB_ne0.mp h15
      obtain ⟨q, hq, rfl, eq⟩ := zix g1.1 g1.2 (by omega)
      refine zb2 X_puts_s21 rfl (by decide) (by decide) ?_
      refine zcallV X_puts_d34 k10_164 (by omega) (x_offByVow hF (by omega) (by omega) ho) rfl rfl rfl (Nat.le_of_ble_eq_true rfl) ?_
      rintro _ μ1 ⟨rfl, hz1⟩
      replace hz := hz.tr hz1
      replace ho := ho.q hz1
      clear hz1
      refine z_ret X_puts_d37 rfl ?_
      unfold sPuts
      first
        | (rw [if_neg (fun z => (show ¬ isV F v from zB_eq0.mp h8) z.1)]; exact ⟨rfl, hz⟩)
        | (rw [if_neg (fun z => (show ¬ tim dh from zB_eq0.mp h15) z.2)]; exact ⟨rfl, hz⟩)
        | (rw [if_pos ⟨g1, g2⟩, eq]; exact ⟨rfl, hz⟩)
    · refine zb X_puts_s18 rfl ?_
      refine z_ret X_puts_d20 rfl ?_
      unfold sPuts
      first
        | (rw [if_neg (fun z => (show ¬ isV F v from zB_eq0.mp h8) z.1)]; exact ⟨rfl, hz⟩)
        | (rw [if_neg (fun z => (show ¬ tim dh from zB_eq0.mp h15) z.2)]; exact ⟨rfl, hz⟩)
        | (rw [if_pos ⟨g1, g2⟩, eq]; exact ⟨rfl, hz⟩)

set_option maxRecDepth 100000 in
set_option maxHeartbeats 4000000 in
theorem x_pitch {g : zG} {d : Nat} {F : zF} {μ : zMem} {b dh w : Int32} (hF : okF F) (hd : 6 ≤ d) (ho : oX F μ) : zM g d X_pitch [.ref 1, .int b, .int dh, .int w] μ (fun r μ' => r = some (.int (sPitch F b dh w)) ∧ zq sX μ μ') := by
  refine zM_of (by decide +kernel) rfl rfl (Nat.le_of_ble_eq_true rfl) rfl ?_
  have hz : zq sX μ μ := zq.rf
  have h12 := ho.v12
  have h6 := ho.b6
  refine zb X_pitch_s0 rfl ?_
  refine zcallV X_pitch_d5 k10_167 (by omega) (x_hasBell _ ho) rfl rfl rfl (Nat.le_of_ble_eq_true rfl) ?_
  rintro _ μx ⟨rfl, hx⟩
  rw [hx]
  clear hx μx
  refine z_eq X_pitch_d8 (tgt := 26) rfl (fun h8 => ?_) (fun h8 => ?_)
  · refine zb X_pitch_s26 rfl ?_
    refine z_ret X_pitch_d28 rfl ?_
    unfold sPitch
    first
      | (rw [if_neg (fun z => (show ¬ isB F b from zB_eq0.mp h8) z.1)]; exact ⟨rfl, hz⟩)
      | (rw [if_neg (fun z => (show ¬ tim dh from zB_eq0.mp h15) z.2.1)]; exact ⟨rfl, hz⟩)
      | (rw [if_neg (fun z => (show ¬ (0 ≤ w ∧ w ≤ 1) from zB_eq0.mp h23) z.2.2)]; exact ⟨rfl, hz⟩)
      | (rw [if_pos ⟨g1, g2, g3⟩]
         first
           | (rw [if_pos h48, ho.e54, Int32.add_comm]; exact ⟨rfl, hz⟩)
           | (rw [if_neg h48, Int32.add_zero]; exact ⟨rfl, hz⟩))
  · refine zb X_pitch_s11 rfl ?_
    refine zcallS X_pitch_d12 k10_160 (by omega) (x_isDayHour _) rfl rfl (Nat.le_of_ble_eq_true rfl) ?_
    rintro _ μx ⟨rfl, hx⟩
    rw [hx]
    clear hx μx
    refine z_eq X_pitch_d15 (tgt := 26) rfl (fun h15 => ?_) (fun h15 => ?_)
    · refine zb X_pitch_s26 rfl ?_
      refine z_ret X_pitch_d28 rfl ?_
      unfold sPitch
      first
        | (rw [if_neg (fun z => (show ¬ isB F b from zB_eq0.mp h8) z.1)]; exact ⟨rfl, hz⟩)
        | (rw [if_neg (fun z => (show ¬ tim dh from zB_eq0.mp h15) z.2.1)]; exact ⟨rfl, hz⟩)
        | (rw [if_neg (fun z => (show ¬ (0 ≤ w ∧ w ≤ 1) from zB_eq0.mp h23) z.2.2)]; exact ⟨rfl, hz⟩)
        | (rw [if_pos ⟨g1, g2, g3⟩]
           first
             | (rw [if_pos h48, ho.e54, Int32.add_comm]; exact ⟨rfl, hz⟩)
             | (rw [if_neg h48, Int32.add_zero]; exact ⟨rfl, hz⟩))
    · refine zb X_pitch_s18 rfl ?_
      refine zcallS X_pitch_d20 k10_170 (by omega) (x_isWithin _ _) rfl rfl (Nat.le_of_ble_eq_true rfl) ?_
      rintro _ μx ⟨rfl, hx⟩
      rw [hx]
      clear hx μx
      refine z_ne X_pitch_d23 (tgt := 29) rfl (fun h23 => ?_) (fun h23 => ?_)
      · have g1 : isB F b := zB_ne0.mp h8
        have g2 : tim dh := zB_ne0.mp h15
        have g3 : 0 ≤ w ∧ w ≤ 1 := zB_ne0.mp h23
        have hvb : vp_in b 6 := by
          obtain ⟨q, hq, rfl, eq⟩ := zix g1.1 g1.2 (by omega)
          exact vp_in_nI (by omega) (by omega)
        refine zb2 X_pitch_s29 rfl (by first | decide | exact hvb) (by first | decide | exact hvb) ?_
        refine zcallV X_pitch_d42 k10_173 (by omega) (x_offOf hF (by omega) ho) rfl rfl rfl (Nat.le_of_ble_eq_true rfl) ?_
        rintro _ μ1 ⟨rfl, hz1⟩
        replace hz := hz.tr hz1
        replace ho := ho.q hz1
        clear hz1
        refine zb X_pitch_s45 rfl ?_
        refine z_ne X_pitch_d48 (tgt := 66) rfl (fun h48 => ?_) (fun h48 => ?_)
        · refine zb X_pitch_s66 rfl ?_
          refine z_ret X_pitch_d68 rfl ?_
          unfold sPitch
          first
            | (rw [if_neg (fun z => (show ¬ isB F b from zB_eq0.mp h8) z.1)]; exact ⟨rfl, hz⟩)
            | (rw [if_neg (fun z => (show ¬ tim dh from zB_eq0.mp h15) z.2.1)]; exact ⟨rfl, hz⟩)
            | (rw [if_neg (fun z => (show ¬ (0 ≤ w ∧ w ≤ 1) from zB_eq0.mp h23) z.2.2)]; exact ⟨rfl, hz⟩)
            | (rw [if_pos ⟨g1, g2, g3⟩]
               first
                 | (rw [if_pos h48, ho.e54, Int32.add_comm]; exact ⟨rfl, hz⟩)
                 | (rw [if_neg h48, Int32.add_zero]; exact ⟨rfl, hz⟩))
        · refine zb1 X_pitch_s51 rfl (by first | decide | exact hvb) ?_
          refine z_ret X_pitch_d68 rfl ?_
          unfold sPitch
          first
            | (rw [if_neg (fun z => (show ¬ isB F b from zB_eq0.mp h8) z.1)]; exact ⟨rfl, hz⟩)
            | (rw [if_neg (fun z => (show ¬ tim dh from zB_eq0.mp h15) z.2.1)]; exact ⟨rfl, hz⟩)
            | (rw [if_neg (fun z => (show ¬ (0 ≤ w ∧ w ≤ 1) from zB_eq0.mp h23) z.2.2)]; exact ⟨rfl, hz⟩)
            | (rw [if_pos ⟨g1, g2, g3⟩]
               first
                 | (rw [if_pos h48, ho.e54, Int32.add_comm]; exact ⟨rfl, hz⟩)
                 | (rw [if_neg h48, Int32.add_zero]; exact ⟨rfl, hz⟩))
      · refine zb X_pitch_s26 rfl ?_
        refine z_ret X_pitch_d28 rfl ?_
        unfold sPitch
        first
          | (rw [if_neg (fun z => (show ¬ isB F b from zB_eq0.mp h8) z.1)]; exact ⟨rfl, hz⟩)
          | (rw [if_neg (fun z => (show ¬ tim dh from zB_eq0.mp h15) z.2.1)]; exact ⟨rfl, hz⟩)
          | (rw [if_neg (fun z => (show ¬ (0 ≤ w ∧ w ≤ 1) from zB_eq0.mp h23) z.2.2)]; exact ⟨rfl, hz⟩)
          | (rw [if_pos ⟨g1, g2, g3⟩]
             first
               | (rw [if_pos h48, ho.e54, Int32.add_comm]; exact ⟨rfl, hz⟩)
               | (rw [if_neg h48, Int32.add_zero]; exact ⟨rfl, hz⟩))

set_option maxRecDepth 100000 in
set_option maxHeartbeats 4000000 in
theorem x_town {g : zG} {d : Nat} {F : zF} {μ : zMem} {dh w : Int32} (hF : okF F) (hd : 8 ≤ d) (ho : oX F μ) : zM g d X_town [.ref 1, .int dh, .int w] μ (fun r μ' => r = some (.int (sTown F dh w)) ∧ zq sX μ μ') := by
  refine zM_of (by decide +kernel) rfl rfl (Nat.le_of_ble_eq_true rfl) rfl ?_
  have hz : zq sX μ μ := zq.rf
  have h12 := ho.v12
  have h6 := ho.b6
  refine zb X_town_s0 rfl ?_
  refine zcallS X_town_d1 k10_160 (by omega) (x_isDayHour _) rfl rfl (Nat.le_of_ble_eq_true rfl) ?_
  rintro _ μx ⟨rfl, hx⟩
  rw [hx]
  clear hx μx
  refine z_eq X_town_d4 (tgt := 15) rfl (fun h4 => ?_) (fun h4 => ?_)
  · refine zb X_town_s15 rfl ?_
    refine z_ret X_town_d16 rfl ?_
    unfold sTown
    first
      | (rw [if_neg (show ¬ tim dh from zB_eq0.mp h4)]; exact ⟨rfl, hz⟩)
      | (rw [if_pos (show tim dh from zB_ne0.mp h4)]
         have n3 : ¬ (0 ≤ w ∧ w ≤ 3) := zB_eq0.mp h12
         rw [if_neg (fun z => n3 (by rw [z]; decide)), if_neg (fun z => n3 (by rw [z]; decide)), if_neg (fun z => n3 (by rw [z]; decide)), if_neg (fun z => n3 (by rw [z]; decide))]
         exact ⟨rfl, hz⟩)
      | (rw [if_pos g1]
         first
           | (rw [if_pos hs29_0]; exact ⟨rfl, hz⟩)
           | (rw [if_neg hs29_0, if_pos hs29_1]; exact ⟨rfl, hz⟩)
           | (rw [if_neg hs29_0, if_neg hs29_1, if_pos hs29_2]; exact ⟨rfl, hz⟩)
           | (have h3 : w = 3 := by
                obtain ⟨q, hq, rfl⟩ := nI_of2 (M := 3) (n := 3) rfl (Int32.not_lt.mpr g2.1) g2.2
                rcases (show q = 0 ∨ q = 1 ∨ q = 2 ∨ q = 3 by omega) with rfl | rfl | rfl | rfl
                · exact absurd rfl hs29_0
                · exact absurd rfl hs29_1
                · exact absurd rfl hs29_2
                · rfl
              rw [if_neg hs29_0, if_neg hs29_1, if_neg hs29_2, if_pos h3]; exact ⟨rfl, hz⟩))
  · refine zb X_town_s7 rfl ?_
    refine zcallS X_town_d9 k10_170 (by omega) (x_isWithin _ _) rfl rfl (Nat.le_of_ble_eq_true rfl) ?_
    rintro _ μx ⟨rfl, hx⟩
    rw [hx]
    clear hx μx
    refine z_ne X_town_d12 (tgt := 17) rfl (fun h12 => ?_) (fun h12 => ?_)
    · have g1 : tim dh := zB_ne0.mp h4
      have g2 : 0 ≤ w ∧ w ≤ 3 := zB_ne0.mp h12
      refine zb2 X_town_s17 rfl (by decide) (by decide) ?_
      by_cases hs29_0 : w = 0
      · refine z_tabIn X_town_d29 (off := 27) (tgt := 56) (by rw [hs29_0]; decide) (by rw [hs29_0]; decide) (by rw [hs29_0]; decide) rfl ?_
        refine zb X_town_s56 rfl ?_
        refine zcallV X_town_d63 k10_180 (by omega) (x_bellsOff hF (by omega) ho) rfl rfl rfl (Nat.le_of_ble_eq_true rfl) ?_
        rintro _ μ1 ⟨rfl, hz1⟩
        replace hz := hz.tr hz1
        replace ho := ho.q hz1
        clear hz1
        refine z_ret X_town_d66 rfl ?_
        unfold sTown
        first
          | (rw [if_neg (show ¬ tim dh from zB_eq0.mp h4)]; exact ⟨rfl, hz⟩)
          | (rw [if_pos (show tim dh from zB_ne0.mp h4)]
             have n3 : ¬ (0 ≤ w ∧ w ≤ 3) := zB_eq0.mp h12
             rw [if_neg (fun z => n3 (by rw [z]; decide)), if_neg (fun z => n3 (by rw [z]; decide)), if_neg (fun z => n3 (by rw [z]; decide)), if_neg (fun z => n3 (by rw [z]; decide))]
             exact ⟨rfl, hz⟩)
          | (rw [if_pos g1]
             first
               | (rw [if_pos hs29_0]; exact ⟨rfl, hz⟩)
               | (rw [if_neg hs29_0, if_pos hs29_1]; exact ⟨rfl, hz⟩)
               | (rw [if_neg hs29_0, if_neg hs29_1, if_pos hs29_2]; exact ⟨rfl, hz⟩)
               | (have h3 : w = 3 := by
                    obtain ⟨q, hq, rfl⟩ := nI_of2 (M := 3) (n := 3) rfl (Int32.not_lt.mpr g2.1) g2.2
                    rcases (show q = 0 ∨ q = 1 ∨ q = 2 ∨ q = 3 by omega) with rfl | rfl | rfl | rfl
                    · exact absurd rfl hs29_0
                    · exact absurd rfl hs29_1
                    · exact absurd rfl hs29_2
                    · rfl
                  rw [if_neg hs29_0, if_neg hs29_1, if_neg hs29_2, if_pos h3]; exact ⟨rfl, hz⟩))
      · by_cases hs29_1 : w = 1
        · refine z_tabIn X_town_d29 (off := 38) (tgt := 67) (by rw [hs29_1]; decide) (by rw [hs29_1]; decide) (by rw [hs29_1]; decide) rfl ?_
          refine zb X_town_s67 rfl ?_
          refine zcallV X_town_d74 k10_183 (by omega) (x_firstOff hF (by omega) ho) rfl rfl rfl (Nat.le_of_ble_eq_true rfl) ?_
          rintro _ μ1 ⟨rfl, hz1⟩
          replace hz := hz.tr hz1
          replace ho := ho.q hz1
          clear hz1
          refine z_ret X_town_d77 rfl ?_
          unfold sTown
          first
            | (rw [if_neg (show ¬ tim dh from zB_eq0.mp h4)]; exact ⟨rfl, hz⟩)
            | (rw [if_pos (show tim dh from zB_ne0.mp h4)]
               have n3 : ¬ (0 ≤ w ∧ w ≤ 3) := zB_eq0.mp h12
               rw [if_neg (fun z => n3 (by rw [z]; decide)), if_neg (fun z => n3 (by rw [z]; decide)), if_neg (fun z => n3 (by rw [z]; decide)), if_neg (fun z => n3 (by rw [z]; decide))]
               exact ⟨rfl, hz⟩)
            | (rw [if_pos g1]
               first
                 | (rw [if_pos hs29_0]; exact ⟨rfl, hz⟩)
                 | (rw [if_neg hs29_0, if_pos hs29_1]; exact ⟨rfl, hz⟩)
                 | (rw [if_neg hs29_0, if_neg hs29_1, if_pos hs29_2]; exact ⟨rfl, hz⟩)
                 | (have h3 : w = 3 := by
                      obtain ⟨q, hq, rfl⟩ := nI_of2 (M := 3) (n := 3) rfl (Int32.not_lt.mpr g2.1) g2.2
                      rcases (show q = 0 ∨ q = 1 ∨ q = 2 ∨ q = 3 by omega) with rfl | rfl | rfl | rfl
                      · exact absurd rfl hs29_0
                      · exact absurd rfl hs29_1
                      · exact absurd rfl hs29_2
                      · rfl
                    rw [if_neg hs29_0, if_neg hs29_1, if_neg hs29_2, if_pos h3]; exact ⟨rfl, hz⟩))
        · by_cases hs29_2 : w = 2
          · refine z_tabIn X_town_d29 (off := 49) (tgt := 78) (by rw [hs29_2]; decide) (by rw [hs29_2]; decide) (by rw [hs29_2]; decide) rfl ?_
            refine zb X_town_s78 rfl ?_
            refine zcallV X_town_d83 k10_186 (by omega) (x_vowsBroken (by omega) ho) rfl rfl rfl (Nat.le_of_ble_eq_true rfl) ?_
            rintro _ μ1 ⟨rfl, hz1⟩
            replace hz := hz.tr hz1
            replace ho := ho.q hz1
            clear hz1
            refine z_ret X_town_d86 rfl ?_
            unfold sTown
            first
              | (rw [if_neg (show ¬ tim dh from zB_eq0.mp h4)]; exact ⟨rfl, hz⟩)
              | (rw [if_pos (show tim dh from zB_ne0.mp h4)]
                 have n3 : ¬ (0 ≤ w ∧ w ≤ 3) := zB_eq0.mp h12
                 rw [if_neg (fun z => n3 (by rw [z]; decide)), if_neg (fun z => n3 (by rw [z]; decide)), if_neg (fun z => n3 (by rw [z]; decide)), if_neg (fun z => n3 (by rw [z]; decide))]
                 exact ⟨rfl, hz⟩)
              | (rw [if_pos g1]
                 first
                   | (rw [if_pos hs29_0]; exact ⟨rfl, hz⟩)
                   | (rw [if_neg hs29_0, if_pos hs29_1]; exact ⟨rfl, hz⟩)
                   | (rw [if_neg hs29_0, if_neg hs29_1, if_pos hs29_2]; exact ⟨rfl, hz⟩)
                   | (have h3 : w = 3 := by
                        obtain ⟨q, hq, rfl⟩ := nI_of2 (M := 3) (n := 3) rfl (Int32.not_lt.mpr g2.1) g2.2
                        rcases (show q = 0 ∨ q = 1 ∨ q = 2 ∨ q = 3 by omega) with rfl | rfl | rfl | rfl
                        · exact absurd rfl hs29_0
                        · exact absurd rfl hs29_1
                        · exact absurd rfl hs29_2
                        · rfl
                      rw [if_neg hs29_0, if_neg hs29_1, if_neg hs29_2, if_pos h3]; exact ⟨rfl, hz⟩))
          · refine z_tabOut X_town_d29 (tgt := 87) (zsw_out 3 (by decide) (fun k hk => by rcases (show k = 0 ∨ k = 1 ∨ k = 2 by omega) with rfl | rfl | rfl <;> first | exact hs29_0 | exact hs29_1 | exact hs29_2)) rfl ?_
            refine zb X_town_s87 rfl ?_
            refine zcallV X_town_d94 k10_189 (by omega) (x_worstVow g1 hF (by omega) ho) rfl rfl rfl (Nat.le_of_ble_eq_true rfl) ?_
            rintro _ μ1 ⟨rfl, hz1⟩
            replace hz := hz.tr hz1
            replace ho := ho.q hz1
            clear hz1
            refine z_ret X_town_d97 rfl ?_
            unfold sTown
            first
              | (rw [if_neg (show ¬ tim dh from zB_eq0.mp h4)]; exact ⟨rfl, hz⟩)
              | (rw [if_pos (show tim dh from zB_ne0.mp h4)]
                 have n3 : ¬ (0 ≤ w ∧ w ≤ 3) := zB_eq0.mp h12
                 rw [if_neg (fun z => n3 (by rw [z]; decide)), if_neg (fun z => n3 (by rw [z]; decide)), if_neg (fun z => n3 (by rw [z]; decide)), if_neg (fun z => n3 (by rw [z]; decide))]
                 exact ⟨rfl, hz⟩)
              | (rw [if_pos g1]
                 first
                   | (rw [if_pos hs29_0]; exact ⟨rfl, hz⟩)
                   | (rw [if_neg hs29_0, if_pos hs29_1]; exact ⟨rfl, hz⟩)
                   | (rw [if_neg hs29_0, if_neg hs29_1, if_pos hs29_2]; exact ⟨rfl, hz⟩)
                   | (have h3 : w = 3 := by
                        obtain ⟨q, hq, rfl⟩ := nI_of2 (M := 3) (n := 3) rfl (Int32.not_lt.mpr g2.1) g2.2
                        rcases (show q = 0 ∨ q = 1 ∨ q = 2 ∨ q = 3 by omega) with rfl | rfl | rfl | rfl
                        · exact absurd rfl hs29_0
                        · exact absurd rfl hs29_1
                        · exact absurd rfl hs29_2
                        · rfl
                      rw [if_neg hs29_0, if_neg hs29_1, if_neg hs29_2, if_pos h3]; exact ⟨rfl, hz⟩))
    · refine zb X_town_s15 rfl ?_
      refine z_ret X_town_d16 rfl ?_
      unfold sTown
      first
        | (rw [if_neg (show ¬ tim dh from zB_eq0.mp h4)]; exact ⟨rfl, hz⟩)
        | (rw [if_pos (show tim dh from zB_ne0.mp h4)]
           have n3 : ¬ (0 ≤ w ∧ w ≤ 3) := zB_eq0.mp h12
           rw [if_neg (fun z => n3 (by rw [z]; decide)), if_neg (fun z => n3 (by rw [z]; decide)), if_neg (fun z => n3 (by rw [z]; decide)), if_neg (fun z => n3 (by rw [z]; decide))]
           exact ⟨rfl, hz⟩)
        | (rw [if_pos g1]
           first
             | (rw [if_pos hs29_0]; exact ⟨rfl, hz⟩)
             | (rw [if_neg hs29_0, if_pos hs29_1]; exact ⟨rfl, hz⟩)
             | (rw [if_neg hs29_0, if_neg hs29_1, if_pos hs29_2]; exact ⟨rfl, hz⟩)
             | (have h3 : w = 3 := by
                  obtain ⟨q, hq, rfl⟩ := nI_of2 (M := 3) (n := 3) rfl (Int32.not_lt.mpr g2.1) g2.2
                  rcases (show q = 0 ∨ q = 1 ∨ q = 2 ∨ q = 3 by omega) with rfl | rfl | rfl | rfl
                  · exact absurd rfl hs29_0
                  · exact absurd rfl hs29_1
                  · exact absurd rfl hs29_2
                  · rfl
                rw [if_neg hs29_0, if_neg hs29_1, if_neg hs29_2, if_pos h3]; exact ⟨rfl, hz⟩))

theorem zab_neg (x : Int32) : zab (-x) = zab x := by
  unfold zab
  by_cases h : x = 0
  · subst h; rfl
  · by_cases h1 : x < 0
    · rw [if_pos h1]
      by_cases h2 : -x < 0
      · have e1 := Int32.lt_iff_toInt_lt.mp h1
        have e2 := Int32.lt_iff_toInt_lt.mp h2
        rw [Int32.toInt_neg, show (0 : Int32).toInt = 0 from rfl] at e2
        rw [show (0 : Int32).toInt = 0 from rfl] at e1
        have e3 := x.le_toInt
        rw [if_pos h2, Int32.neg_neg]
        apply Int32.toInt_inj.mp
        rw [Int32.toInt_neg]
        rw [Int.bmod_def] at e2 ⊢
        split at e2 <;> split <;> omega
      · rw [if_neg h2]
    · rw [if_neg h1]
      have e1 := Int32.le_iff_toInt_le.mp (Int32.not_lt.mp h1)
      rw [show (0 : Int32).toInt = 0 from rfl] at e1
      have e3 := x.toInt_lt
      have h0 : ¬ x.toInt = 0 := fun z => h (Int32.toInt_inj.mp (z.trans rfl))
      rw [if_pos (by rw [Int32.lt_iff_toInt_lt, Int32.toInt_neg, show (0 : Int32).toInt = 0 from rfl, zbm (by omega) (by omega)]; omega), Int32.neg_neg]
theorem sBeat_sw {F : zF} {a b : Nat} {dh : Int32} (ha : a < 6) (hb : b < 6) : sBeat F (nI b) (nI a) dh = sBeat F (nI a) (nI b) dh := by
  have e1 : zab (sPitch F (nI b) dh 0 - sPitch F (nI a) dh 0) = zab (sPitch F (nI a) dh 0 - sPitch F (nI b) dh 0) := by
    rw [← zab_neg, Int32.neg_sub]
  have e2 : zmn (nI b) (nI a) = zmn (nI a) (nI b) := by
    unfold zmn
    rcases Nat.lt_trichotomy a b with h | h | h
    · rw [if_neg (nI_nlt (by omega) (by omega)), if_pos (nI_lt h (by omega))]
    · rw [h]
    · rw [if_pos (nI_lt h (by omega)), if_neg (nI_nlt (by omega) (by omega))]
  unfold sBeat
  rw [e1, e2]

set_option maxRecDepth 100000 in
set_option maxHeartbeats 4000000 in
theorem x_beats {g : zG} {d : Nat} {F : zF} {μ : zMem} {ab dh : Int32} (hF : okF F) (hd : 8 ≤ d) (ho : oX F μ) : zM g d X_beats [.ref 1, .int ab, .int dh] μ (fun r μ' => r = some (.int (sBeats F ab dh)) ∧ zq sX μ μ') := by
  refine zM_of (by decide +kernel) rfl rfl (Nat.le_of_ble_eq_true rfl) rfl ?_
  have hz : zq sX μ μ := zq.rf
  have h12 := ho.v12
  have h6 := ho.b6
  refine zb X_beats_s0 rfl ?_
  refine z_lt X_beats_d1 (tgt := 11) rfl (fun h1 => ?_) (fun h1 => ?_)
  · refine zb X_beats_s11 rfl ?_
    refine z_ret X_beats_d12 rfl ?_
    unfold sBeats
    first
      | (rw [if_neg (fun z => absurd z.1 (Int32.not_le.mpr h1))]; exact ⟨rfl, hz⟩)
      | (rw [if_neg (fun z => (show ¬ isB F (zrem ab 10) from zB_eq0.mp h50) z.2.2.1)]; exact ⟨rfl, hz⟩)
      | (rw [if_neg (fun z => (show ¬ isB F (ab / 10) from zB_eq0.mp h38) z.2.1)]; exact ⟨rfl, hz⟩)
      | (have hh := h27
         rw [if_neg (fun z => z.2.2.2.1 hh)]; exact ⟨rfl, hz⟩)
      | (rw [if_neg (fun z => (show ¬ tim dh from zB_eq0.mp h8) z.2.2.2.2)]; exact ⟨rfl, hz⟩)
  · refine zb X_beats_s4 rfl ?_
    refine zcallS X_beats_d5 k10_160 (by omega) (x_isDayHour _) rfl rfl (Nat.le_of_ble_eq_true rfl) ?_
    rintro _ μx ⟨rfl, hx⟩
    rw [hx]
    clear hx μx
    refine z_ne X_beats_d8 (tgt := 13) rfl (fun h8 => ?_) (fun h8 => ?_)
    · refine zb2 X_beats_s13 rfl (by decide) (by decide) ?_
      refine z_ceq X_beats_d27 (tgt := 53) rfl (fun h27 => ?_) (fun h27 => ?_)
      · refine zb X_beats_s53 rfl ?_
        refine z_ret X_beats_d54 rfl ?_
        unfold sBeats
        first
          | (rw [if_neg (fun z => absurd z.1 (Int32.not_le.mpr h1))]; exact ⟨rfl, hz⟩)
          | (rw [if_neg (fun z => (show ¬ isB F (zrem ab 10) from zB_eq0.mp h50) z.2.2.1)]; exact ⟨rfl, hz⟩)
          | (rw [if_neg (fun z => (show ¬ isB F (ab / 10) from zB_eq0.mp h38) z.2.1)]; exact ⟨rfl, hz⟩)
          | (have hh := h27
             rw [if_neg (fun z => z.2.2.2.1 hh)]; exact ⟨rfl, hz⟩)
          | (rw [if_neg (fun z => (show ¬ tim dh from zB_eq0.mp h8) z.2.2.2.2)]; exact ⟨rfl, hz⟩)
      · refine zb X_beats_s30 rfl ?_
        refine zcallV X_beats_d35 k10_167 (by omega) (x_hasBell _ ho) rfl rfl rfl (Nat.le_of_ble_eq_true rfl) ?_
        rintro _ μx ⟨rfl, hx⟩
        rw [hx]
        clear hx μx
        refine z_eq X_beats_d38 (tgt := 53) rfl (fun h38 => ?_) (fun h38 => ?_)
        · refine zb X_beats_s53 rfl ?_
          refine z_ret X_beats_d54 rfl ?_
          unfold sBeats
          first
            | (rw [if_neg (fun z => absurd z.1 (Int32.not_le.mpr h1))]; exact ⟨rfl, hz⟩)
            | (rw [if_neg (fun z => (show ¬ isB F (zrem ab 10) from zB_eq0.mp h50) z.2.2.1)]; exact ⟨rfl, hz⟩)
            | (rw [if_neg (fun z => (show ¬ isB F (ab / 10) from zB_eq0.mp h38) z.2.1)]; exact ⟨rfl, hz⟩)
            | (have hh := h27
               rw [if_neg (fun z => z.2.2.2.1 hh)]; exact ⟨rfl, hz⟩)
            | (rw [if_neg (fun z => (show ¬ tim dh from zB_eq0.mp h8) z.2.2.2.2)]; exact ⟨rfl, hz⟩)
        · refine zb X_beats_s41 rfl ?_
          refine zcallV X_beats_d47 k10_167 (by omega) (x_hasBell _ ho) rfl rfl rfl (Nat.le_of_ble_eq_true rfl) ?_
          rintro _ μx ⟨rfl, hx⟩
          rw [hx]
          clear hx μx
          refine z_ne X_beats_d50 (tgt := 55) rfl (fun h50 => ?_) (fun h50 => ?_)
          · have g0 : 0 ≤ ab := Int32.not_lt.mp h1
            have g1 : tim dh := zB_ne0.mp h8
            obtain ⟨e, he, rfl⟩ := nI_of h1
            have e1 : nI e / 10 = nI (e / 10) := pk_div (d := 10) he (by omega) (by omega)
            have e2 : nI e - nI e / 10 * 10 = nI (e % 10) := pk_rem (d := 10) he (by omega) (by omega)
            rw [e2, e1] at h27
            rw [e1] at h38
            rw [e2] at h50
            have b1 : isB F (nI (e / 10)) := zB_ne0.mp h38
            have b2 : isB F (nI (e % 10)) := zB_ne0.mp h50
            have c1 : e / 10 < fB F := (nI_ltI (by omega) (by omega)).mp b1.2
            have c2 : e % 10 < fB F := (nI_ltI (by omega) (by omega)).mp b2.2
            have hne : ¬ e / 10 = e % 10 := fun z => h27 (by rw [z])
            have hu : sBeats F (nI e) dh = sBeat F (nI (e / 10)) (nI (e % 10)) dh := by
              unfold sBeats
              rw [show zrem (nI e) 10 = nI (e % 10) from e2, e1, if_pos ⟨g0, b1, b2, h27, g1⟩]
            rw [e2, e1]
            refine zb2 X_beats_s55 rfl (by decide) (by decide) ?_
            refine zcallV X_beats_d67 k10_192 (by omega) (x_strikeAll hF (by omega) ho) rfl rfl rfl (Nat.le_of_ble_eq_true rfl) ?_
            rintro _ μ1 ⟨rfl, hz1, hp⟩
            replace hz := hz.tr hz1
            replace ho := ho.q hz1
            refine zb X_beats_s70 rfl ?_
            refine zmin X_beats_d77 k10_196 (by omega) (Nat.le_of_ble_eq_true rfl) ?_
            refine zb X_beats_s80 rfl ?_
            refine zmax X_beats_d83 k10_201 (by omega) (Nat.le_of_ble_eq_true rfl) ?_
            skip
            rcases Nat.lt_or_ge (e / 10) (e % 10) with q | q
            · rw [if_neg (show ¬ nI (e % 10) < nI (e / 10) from nI_nlt (by omega) (by omega)), if_pos (show nI (e / 10) < nI (e % 10) from nI_lt q (by omega))]
              refine zcallV X_beats_d86 k10_204 (by omega) (x_beatsOf hF g1 (by omega) c1 c2 q hp ho) rfl rfl rfl (Nat.le_of_ble_eq_true rfl) ?_
              rintro _ μx ⟨rfl, hx⟩
              rw [hx]
              refine z_ret X_beats_d89 rfl ?_
              exact ⟨by rw [hu], hz⟩
            · rw [if_pos (show nI (e % 10) < nI (e / 10) from nI_lt (by omega) (by omega)), if_neg (show ¬ nI (e / 10) < nI (e % 10) from nI_nlt (by omega) (by omega))]
              refine zcallV X_beats_d86 k10_204 (by omega) (x_beatsOf hF g1 (by omega) c2 c1 (by omega) hp ho) rfl rfl rfl (Nat.le_of_ble_eq_true rfl) ?_
              rintro _ μx ⟨rfl, hx⟩
              rw [hx]
              refine z_ret X_beats_d89 rfl ?_
              exact ⟨by rw [hu, sBeat_sw (by omega) (by omega)], hz⟩
          · refine zb X_beats_s53 rfl ?_
            refine z_ret X_beats_d54 rfl ?_
            unfold sBeats
            first
              | (rw [if_neg (fun z => absurd z.1 (Int32.not_le.mpr h1))]; exact ⟨rfl, hz⟩)
              | (rw [if_neg (fun z => (show ¬ isB F (zrem ab 10) from zB_eq0.mp h50) z.2.2.1)]; exact ⟨rfl, hz⟩)
              | (rw [if_neg (fun z => (show ¬ isB F (ab / 10) from zB_eq0.mp h38) z.2.1)]; exact ⟨rfl, hz⟩)
              | (have hh := h27
                 rw [if_neg (fun z => z.2.2.2.1 hh)]; exact ⟨rfl, hz⟩)
              | (rw [if_neg (fun z => (show ¬ tim dh from zB_eq0.mp h8) z.2.2.2.2)]; exact ⟨rfl, hz⟩)
    · refine zb X_beats_s11 rfl ?_
      refine z_ret X_beats_d12 rfl ?_
      unfold sBeats
      first
        | (rw [if_neg (fun z => absurd z.1 (Int32.not_le.mpr h1))]; exact ⟨rfl, hz⟩)
        | (rw [if_neg (fun z => (show ¬ isB F (zrem ab 10) from zB_eq0.mp h50) z.2.2.1)]; exact ⟨rfl, hz⟩)
        | (rw [if_neg (fun z => (show ¬ isB F (ab / 10) from zB_eq0.mp h38) z.2.1)]; exact ⟨rfl, hz⟩)
        | (have hh := h27
           rw [if_neg (fun z => z.2.2.2.1 hh)]; exact ⟨rfl, hz⟩)
        | (rw [if_neg (fun z => (show ¬ tim dh from zB_eq0.mp h8) z.2.2.2.2)]; exact ⟨rfl, hz⟩)

set_option maxRecDepth 100000 in
set_option maxHeartbeats 4000000 in
theorem x_chime {g : zG} {d : Nat} {F : zF} {μ : zMem} {s dh w : Int32} (hF : okF F) (hd : 8 ≤ d) (ho : oX F μ) : zM g d X_chime [.ref 1, .int s, .int dh, .int w] μ (fun r μ' => r = some (.int (sChime F s dh w)) ∧ zq sX μ μ') := by
  refine zM_of (by decide +kernel) rfl rfl (Nat.le_of_ble_eq_true rfl) rfl ?_
  have hz : zq sX μ μ := zq.rf
  have h12 := ho.v12
  have h6 := ho.b6
  refine zb X_chime_s0 rfl ?_
  refine z_lt X_chime_d1 (tgt := 32) rfl (fun h1 => ?_) (fun h1 => ?_)
  · refine zb X_chime_s32 rfl ?_
    refine z_ret X_chime_d33 rfl ?_
    first
      | (rw [hu]
         first
           | (rw [if_pos h50]; exact ⟨rfl, hz⟩)
           | (rw [if_neg h50]; exact ⟨rfl, hz⟩))
      | (unfold sChime
         first
           | (rw [if_neg (fun z => (show ¬ (0 ≤ w ∧ w ≤ 1) from zB_eq0.mp h29) z.2.2.2)]; exact ⟨rfl, hz⟩)
           | (rw [if_neg (fun z => (show ¬ tim dh from zB_eq0.mp h21) z.2.2.1)]; exact ⟨rfl, hz⟩)
           | (rw [ho.b] at h14; rw [if_neg (fun z => absurd z.2.1 (Int32.not_lt.mpr h14))]; exact ⟨rfl, hz⟩)
           | (rw [if_neg (fun z => absurd z.1 (Int32.not_le.mpr h1))]; exact ⟨rfl, hz⟩))
  · refine zb X_chime_s4 rfl ?_
    refine z_cge X_chime_d14 (tgt := 32) rfl (fun h14 => ?_) (fun h14 => ?_)
    · refine zb X_chime_s32 rfl ?_
      refine z_ret X_chime_d33 rfl ?_
      first
        | (rw [hu]
           first
             | (rw [if_pos h50]; exact ⟨rfl, hz⟩)
             | (rw [if_neg h50]; exact ⟨rfl, hz⟩))
        | (unfold sChime
           first
             | (rw [if_neg (fun z => (show ¬ (0 ≤ w ∧ w ≤ 1) from zB_eq0.mp h29) z.2.2.2)]; exact ⟨rfl, hz⟩)
             | (rw [if_neg (fun z => (show ¬ tim dh from zB_eq0.mp h21) z.2.2.1)]; exact ⟨rfl, hz⟩)
             | (rw [ho.b] at h14; rw [if_neg (fun z => absurd z.2.1 (Int32.not_lt.mpr h14))]; exact ⟨rfl, hz⟩)
             | (rw [if_neg (fun z => absurd z.1 (Int32.not_le.mpr h1))]; exact ⟨rfl, hz⟩))
    · rw [ho.b] at h14
      refine zb X_chime_s17 rfl ?_
      refine zcallS X_chime_d18 k10_160 (by omega) (x_isDayHour _) rfl rfl (Nat.le_of_ble_eq_true rfl) ?_
      rintro _ μx ⟨rfl, hx⟩
      rw [hx]
      clear hx μx
      refine z_eq X_chime_d21 (tgt := 32) rfl (fun h21 => ?_) (fun h21 => ?_)
      · refine zb X_chime_s32 rfl ?_
        refine z_ret X_chime_d33 rfl ?_
        first
          | (rw [hu]
             first
               | (rw [if_pos h50]; exact ⟨rfl, hz⟩)
               | (rw [if_neg h50]; exact ⟨rfl, hz⟩))
          | (unfold sChime
             first
               | (rw [if_neg (fun z => (show ¬ (0 ≤ w ∧ w ≤ 1) from zB_eq0.mp h29) z.2.2.2)]; exact ⟨rfl, hz⟩)
               | (rw [if_neg (fun z => (show ¬ tim dh from zB_eq0.mp h21) z.2.2.1)]; exact ⟨rfl, hz⟩)
               | (rw [ho.b] at h14; rw [if_neg (fun z => absurd z.2.1 (Int32.not_lt.mpr h14))]; exact ⟨rfl, hz⟩)
               | (rw [if_neg (fun z => absurd z.1 (Int32.not_le.mpr h1))]; exact ⟨rfl, hz⟩))
      · refine zb X_chime_s24 rfl ?_
        refine zcallS X_chime_d26 k10_170 (by omega) (x_isWithin _ _) rfl rfl (Nat.le_of_ble_eq_true rfl) ?_
        rintro _ μx ⟨rfl, hx⟩
        rw [hx]
        clear hx μx
        refine z_ne X_chime_d29 (tgt := 34) rfl (fun h29 => ?_) (fun h29 => ?_)
        · have g1 : tim dh := zB_ne0.mp h21
          have hu : sChime F s dh w = if w = 0 then (chiS F s dh).1 else (chiS F s dh).2.1 := if_pos ⟨Int32.not_lt.mp h1, Int32.not_le.mp h14, g1, zB_ne0.mp h29⟩
          refine zb2 X_chime_s34 rfl (by decide) (by decide) ?_
          refine zcallV X_chime_d46 k10_192 (by omega) (x_strikeAll hF (by omega) ho) rfl rfl rfl (Nat.le_of_ble_eq_true rfl) ?_
          rintro _ μ1 ⟨rfl, hz1, hp⟩
          replace hz := hz.tr hz1
          replace ho := ho.q hz1
          refine zb X_chime_s49 rfl ?_
          refine z_ne X_chime_d50 (tgt := 64) rfl (fun h50 => ?_) (fun h50 => ?_)
          · refine zb X_chime_s64 rfl ?_
            refine zcallV X_chime_d69 k10_210 (by omega) (x_harshest hF g1 (by omega) hp ho) rfl rfl rfl (Nat.le_of_ble_eq_true rfl) ?_
            rintro _ μx ⟨rfl, hx⟩
            rw [hx]
            clear hx μx
            refine z_ret X_chime_d72 rfl ?_
            first
              | (rw [hu]
                 first
                   | (rw [if_pos h50]; exact ⟨rfl, hz⟩)
                   | (rw [if_neg h50]; exact ⟨rfl, hz⟩))
              | (unfold sChime
                 first
                   | (rw [if_neg (fun z => (show ¬ (0 ≤ w ∧ w ≤ 1) from zB_eq0.mp h29) z.2.2.2)]; exact ⟨rfl, hz⟩)
                   | (rw [if_neg (fun z => (show ¬ tim dh from zB_eq0.mp h21) z.2.2.1)]; exact ⟨rfl, hz⟩)
                   | (rw [ho.b] at h14; rw [if_neg (fun z => absurd z.2.1 (Int32.not_lt.mpr h14))]; exact ⟨rfl, hz⟩)
                   | (rw [if_neg (fun z => absurd z.1 (Int32.not_le.mpr h1))]; exact ⟨rfl, hz⟩))
          · refine zb X_chime_s53 rfl ?_
            refine zcallV X_chime_d58 k10_207 (by omega) (x_purePairs hF g1 (by omega) hp ho) rfl rfl rfl (Nat.le_of_ble_eq_true rfl) ?_
            rintro _ μx ⟨rfl, hx⟩
            rw [hx]
            clear hx μx
            refine zb X_chime_s61 rfl ?_
            refine z_ret X_chime_d72 rfl ?_
            first
              | (rw [hu]
                 first
                   | (rw [if_pos h50]; exact ⟨rfl, hz⟩)
                   | (rw [if_neg h50]; exact ⟨rfl, hz⟩))
              | (unfold sChime
                 first
                   | (rw [if_neg (fun z => (show ¬ (0 ≤ w ∧ w ≤ 1) from zB_eq0.mp h29) z.2.2.2)]; exact ⟨rfl, hz⟩)
                   | (rw [if_neg (fun z => (show ¬ tim dh from zB_eq0.mp h21) z.2.2.1)]; exact ⟨rfl, hz⟩)
                   | (rw [ho.b] at h14; rw [if_neg (fun z => absurd z.2.1 (Int32.not_lt.mpr h14))]; exact ⟨rfl, hz⟩)
                   | (rw [if_neg (fun z => absurd z.1 (Int32.not_le.mpr h1))]; exact ⟨rfl, hz⟩))
        · refine zb X_chime_s32 rfl ?_
          refine z_ret X_chime_d33 rfl ?_
          first
            | (rw [hu]
               first
                 | (rw [if_pos h50]; exact ⟨rfl, hz⟩)
                 | (rw [if_neg h50]; exact ⟨rfl, hz⟩))
            | (unfold sChime
               first
                 | (rw [if_neg (fun z => (show ¬ (0 ≤ w ∧ w ≤ 1) from zB_eq0.mp h29) z.2.2.2)]; exact ⟨rfl, hz⟩)
                 | (rw [if_neg (fun z => (show ¬ tim dh from zB_eq0.mp h21) z.2.2.1)]; exact ⟨rfl, hz⟩)
                 | (rw [ho.b] at h14; rw [if_neg (fun z => absurd z.2.1 (Int32.not_lt.mpr h14))]; exact ⟨rfl, hz⟩)
                 | (rw [if_neg (fun z => absurd z.1 (Int32.not_le.mpr h1))]; exact ⟨rfl, hz⟩))

set_option maxRecDepth 100000 in
set_option maxHeartbeats 4000000 in
theorem x_days {g : zG} {d : Nat} {F : zF} {μ : zMem} {b dh n : Int32} (hF : okF F) (hd : 8 ≤ d) (ho : oX F μ) : zM g d X_days [.ref 1, .int b, .int dh, .int n] μ (fun r μ' => r = some (.int (sDays F b dh n)) ∧ zq sX μ μ') := by
  refine zM_of (by decide +kernel) rfl rfl (Nat.le_of_ble_eq_true rfl) rfl ?_
  have hz : zq sX μ μ := zq.rf
  have h12 := ho.v12
  have h6 := ho.b6
  refine zb X_days_s0 rfl ?_
  refine zcallV X_days_d5 k10_167 (by omega) (x_hasBell _ ho) rfl rfl rfl (Nat.le_of_ble_eq_true rfl) ?_
  rintro _ μx ⟨rfl, hx⟩
  rw [hx]
  clear hx μx
  refine z_eq X_days_d8 (tgt := 28) rfl (fun h8 => ?_) (fun h8 => ?_)
  · refine zb X_days_s28 rfl ?_
    refine z_ret X_days_d29 rfl ?_
    first
      | (unfold sDays
         first
           | (rw [if_neg (fun z => (show ¬ (0 ≤ n ∧ n ≤ 999) from zB_eq0.mp h25) z.2.2)]; exact ⟨rfl, hz⟩)
           | (rw [if_neg (fun z => (show ¬ tim dh from zB_eq0.mp h15) z.2.1)]; exact ⟨rfl, hz⟩)
           | (rw [if_neg (fun z => (show ¬ isB F b from zB_eq0.mp h8) z.1)]; exact ⟨rfl, hz⟩))
      | exact ⟨rfl, hz⟩
  · refine zb X_days_s11 rfl ?_
    refine zcallS X_days_d12 k10_160 (by omega) (x_isDayHour _) rfl rfl (Nat.le_of_ble_eq_true rfl) ?_
    rintro _ μx ⟨rfl, hx⟩
    rw [hx]
    clear hx μx
    refine z_eq X_days_d15 (tgt := 28) rfl (fun h15 => ?_) (fun h15 => ?_)
    · refine zb X_days_s28 rfl ?_
      refine z_ret X_days_d29 rfl ?_
      first
        | (unfold sDays
           first
             | (rw [if_neg (fun z => (show ¬ (0 ≤ n ∧ n ≤ 999) from zB_eq0.mp h25) z.2.2)]; exact ⟨rfl, hz⟩)
             | (rw [if_neg (fun z => (show ¬ tim dh from zB_eq0.mp h15) z.2.1)]; exact ⟨rfl, hz⟩)
             | (rw [if_neg (fun z => (show ¬ isB F b from zB_eq0.mp h8) z.1)]; exact ⟨rfl, hz⟩))
        | exact ⟨rfl, hz⟩
    · refine zb X_days_s18 rfl ?_
      refine zcallS X_days_d22 k10_170 (by omega) (x_isWithin _ _) rfl rfl (Nat.le_of_ble_eq_true rfl) ?_
      rintro _ μx ⟨rfl, hx⟩
      rw [hx]
      clear hx μx
      refine z_ne X_days_d25 (tgt := 30) rfl (fun h25 => ?_) (fun h25 => ?_)
      · have g1 : tim dh := zB_ne0.mp h15
        have g3 : 0 ≤ n ∧ n ≤ 999 := zB_ne0.mp h25
        have hu : sDays F b dh n = if n = 0 then zfind (fun k => offs F b (nI k) (hro dh) = 0) (dh / 100).toNatClampNeg (999 - (dh / 100).toNatClampNeg) else zsum (fun k => zB (¬ offs F b (nI ((dh / 100).toNatClampNeg + k)) (hro dh) = 0)) (min n.toNatClampNeg (999 - (dh / 100).toNatClampNeg)) := if_pos ⟨zB_ne0.mp h8, g1, g3⟩
        obtain ⟨N, hN, rfl⟩ := nI_of2 (M := 999) (n := 999) rfl (Int32.not_lt.mpr g3.1) g3.2
        obtain ⟨q, hq, hq2⟩ := nI_of (Int32.not_lt.mpr g1.1)
        have hD : dh / 100 = nI (q / 100) := by rw [hq2]; exact pk_div (d := 100) hq (by omega) (by omega)
        have hD2 : q / 100 ≤ 998 := by
          have := g1.2.1
          rw [hD] at this
          exact (nI_leI (b := 998) (by omega) (by omega)).mp this
        rw [show (dh / 100).toNatClampNeg = q / 100 by rw [hD, nI_clamp (by omega)], nI_clamp (by omega)] at hu
        refine zb2 X_days_s30 rfl (by decide) (by decide) ?_
        refine z_ne X_days_d43 (tgt := 61) rfl (fun h43 => ?_) (fun h43 => ?_)
        · rw [hu, if_neg h43]
          have hN0 : 1 ≤ N := by
            rcases Nat.eq_zero_or_pos N with z | z
            · subst z; exact absurd rfl h43
            · exact z
          refine zb X_days_s61 rfl ?_
          have hc1 := x_daysOff (g := g) (d := d - 1) (F := F) (μ := μ) (b := b) (h := hro dh) hD2 hN hN0 hF (by omega) ho
          rw [← hD] at hc1
          refine zcallV X_days_d71 k10_216 (by omega) (hc1) rfl rfl rfl (Nat.le_of_ble_eq_true rfl) ?_
          rintro _ μ1 ⟨rfl, hz1⟩
          replace hz := hz.tr hz1
          replace ho := ho.q hz1
          clear hz1
          refine z_ret X_days_d74 rfl ?_
          first
            | (unfold sDays
               first
                 | (rw [if_neg (fun z => (show ¬ (0 ≤ n ∧ n ≤ 999) from zB_eq0.mp h25) z.2.2)]; exact ⟨rfl, hz⟩)
                 | (rw [if_neg (fun z => (show ¬ tim dh from zB_eq0.mp h15) z.2.1)]; exact ⟨rfl, hz⟩)
                 | (rw [if_neg (fun z => (show ¬ isB F b from zB_eq0.mp h8) z.1)]; exact ⟨rfl, hz⟩))
            | exact ⟨rfl, hz⟩
        · rw [hu, if_pos h43]
          refine zb X_days_s46 rfl ?_
          have hc1 := x_firstPure (g := g) (d := d - 1) (F := F) (μ := μ) (b := b) (h := hro dh) hD2 hF (by omega) ho
          rw [← hD] at hc1
          refine zcallV X_days_d55 k10_213 (by omega) (hc1) rfl rfl rfl (Nat.le_of_ble_eq_true rfl) ?_
          rintro _ μ1 ⟨rfl, hz1⟩
          replace hz := hz.tr hz1
          replace ho := ho.q hz1
          clear hz1
          refine zb X_days_s58 rfl ?_
          refine z_ret X_days_d74 rfl ?_
          first
            | (unfold sDays
               first
                 | (rw [if_neg (fun z => (show ¬ (0 ≤ n ∧ n ≤ 999) from zB_eq0.mp h25) z.2.2)]; exact ⟨rfl, hz⟩)
                 | (rw [if_neg (fun z => (show ¬ tim dh from zB_eq0.mp h15) z.2.1)]; exact ⟨rfl, hz⟩)
                 | (rw [if_neg (fun z => (show ¬ isB F b from zB_eq0.mp h8) z.1)]; exact ⟨rfl, hz⟩))
            | exact ⟨rfl, hz⟩
      · refine zb X_days_s28 rfl ?_
        refine z_ret X_days_d29 rfl ?_
        first
          | (unfold sDays
             first
               | (rw [if_neg (fun z => (show ¬ (0 ≤ n ∧ n ≤ 999) from zB_eq0.mp h25) z.2.2)]; exact ⟨rfl, hz⟩)
               | (rw [if_neg (fun z => (show ¬ tim dh from zB_eq0.mp h15) z.2.1)]; exact ⟨rfl, hz⟩)
               | (rw [if_neg (fun z => (show ¬ isB F b from zB_eq0.mp h8) z.1)]; exact ⟨rfl, hz⟩))
          | exact ⟨rfl, hz⟩

set_option maxRecDepth 100000 in
set_option maxHeartbeats 4000000 in
theorem x_fault {g : zG} {d : Nat} {F : zF} {μ : zMem} {p dh : Int32} (hF : okF F) (hd : 9 ≤ d) (ho : oX F μ) : zM g d X_fault [.ref 1, .int p, .int dh] μ (fun r μ' => r = some (.int (sFault F p dh)) ∧ zq sX μ μ') := by
  refine zM_of (by decide +kernel) rfl rfl (Nat.le_of_ble_eq_true rfl) rfl ?_
  have hz : zq sX μ μ := zq.rf
  have h12 := ho.v12
  have h6 := ho.b6
  refine zb X_fault_s0 rfl ?_
  refine z_clt X_fault_d2 (tgt := 18) rfl (fun h2 => ?_) (fun h2 => ?_)
  · refine zb X_fault_s18 rfl ?_
    refine z_ret X_fault_d19 rfl ?_
    unfold sFault
    first
      | (rw [if_pos ⟨g2, g1⟩]
         first
           | (rw [if_pos h32]; exact ⟨rfl, hz⟩)
           | (rw [if_neg h32]; exact ⟨rfl, hz⟩))
      | (rw [if_neg (fun z => (show ¬ tim dh from zB_eq0.mp h15) z.2)]; exact ⟨rfl, hz⟩)
      | (rw [if_neg (fun z => by have := z.1.2; grind)]; exact ⟨rfl, hz⟩)
      | (rw [if_neg (fun z => by have := z.1.1; grind)]; exact ⟨rfl, hz⟩)
  · refine zb X_fault_s5 rfl ?_
    refine z_cge X_fault_d8 (tgt := 18) rfl (fun h8 => ?_) (fun h8 => ?_)
    · refine zb X_fault_s18 rfl ?_
      refine z_ret X_fault_d19 rfl ?_
      unfold sFault
      first
        | (rw [if_pos ⟨g2, g1⟩]
           first
             | (rw [if_pos h32]; exact ⟨rfl, hz⟩)
             | (rw [if_neg h32]; exact ⟨rfl, hz⟩))
        | (rw [if_neg (fun z => (show ¬ tim dh from zB_eq0.mp h15) z.2)]; exact ⟨rfl, hz⟩)
        | (rw [if_neg (fun z => by have := z.1.2; grind)]; exact ⟨rfl, hz⟩)
        | (rw [if_neg (fun z => by have := z.1.1; grind)]; exact ⟨rfl, hz⟩)
    · refine zb X_fault_s11 rfl ?_
      refine zcallS X_fault_d12 k10_160 (by omega) (x_isDayHour _) rfl rfl (Nat.le_of_ble_eq_true rfl) ?_
      rintro _ μx ⟨rfl, hx⟩
      rw [hx]
      clear hx μx
      refine z_ne X_fault_d15 (tgt := 20) rfl (fun h15 => ?_) (fun h15 => ?_)
      · have g1 : tim dh := zB_ne0.mp h15
        have g2 : -1 ≤ p ∧ p ≤ 5 := by
          have := Int32.not_lt.mp h2
          have := Int32.not_le.mp h8
          grind
        refine zb2 X_fault_s20 rfl (by decide) (by decide) ?_
        refine z_ge X_fault_d32 (tgt := 48) rfl (fun h32 => ?_) (fun h32 => ?_)
        · refine zb X_fault_s48 rfl ?_
          refine zcallV X_fault_d56 k10_223 (by omega) (x_faultOf g1 hF (by omega) ho) rfl rfl rfl (Nat.le_of_ble_eq_true rfl) ?_
          rintro _ μ1 ⟨rfl, hz1⟩
          replace hz := hz.tr hz1
          replace ho := ho.q hz1
          clear hz1
          refine z_ret X_fault_d59 rfl ?_
          unfold sFault
          first
            | (rw [if_pos ⟨g2, g1⟩]
               first
                 | (rw [if_pos h32]; exact ⟨rfl, hz⟩)
                 | (rw [if_neg h32]; exact ⟨rfl, hz⟩))
            | (rw [if_neg (fun z => (show ¬ tim dh from zB_eq0.mp h15) z.2)]; exact ⟨rfl, hz⟩)
            | (rw [if_neg (fun z => by have := z.1.2; grind)]; exact ⟨rfl, hz⟩)
            | (rw [if_neg (fun z => by have := z.1.1; grind)]; exact ⟨rfl, hz⟩)
        · refine zb X_fault_s35 rfl ?_
          refine zcallV X_fault_d42 k10_220 (by omega) (x_mostAtFault g1 hF (by omega) ho) rfl rfl rfl (Nat.le_of_ble_eq_true rfl) ?_
          rintro _ μ1 ⟨rfl, hz1⟩
          replace hz := hz.tr hz1
          replace ho := ho.q hz1
          clear hz1
          refine zb X_fault_s45 rfl ?_
          refine z_ret X_fault_d59 rfl ?_
          unfold sFault
          first
            | (rw [if_pos ⟨g2, g1⟩]
               first
                 | (rw [if_pos h32]; exact ⟨rfl, hz⟩)
                 | (rw [if_neg h32]; exact ⟨rfl, hz⟩))
            | (rw [if_neg (fun z => (show ¬ tim dh from zB_eq0.mp h15) z.2)]; exact ⟨rfl, hz⟩)
            | (rw [if_neg (fun z => by have := z.1.2; grind)]; exact ⟨rfl, hz⟩)
            | (rw [if_neg (fun z => by have := z.1.1; grind)]; exact ⟨rfl, hz⟩)
      · refine zb X_fault_s18 rfl ?_
        refine z_ret X_fault_d19 rfl ?_
        unfold sFault
        first
          | (rw [if_pos ⟨g2, g1⟩]
             first
               | (rw [if_pos h32]; exact ⟨rfl, hz⟩)
               | (rw [if_neg h32]; exact ⟨rfl, hz⟩))
          | (rw [if_neg (fun z => (show ¬ tim dh from zB_eq0.mp h15) z.2)]; exact ⟨rfl, hz⟩)
          | (rw [if_neg (fun z => by have := z.1.2; grind)]; exact ⟨rfl, hz⟩)
          | (rw [if_neg (fun z => by have := z.1.1; grind)]; exact ⟨rfl, hz⟩)
