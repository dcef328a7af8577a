/-! the class: pairs, days, faults; the face of the sounds -/

set_option maxRecDepth 100000 in
set_option maxHeartbeats 4000000 in
theorem w_O_pure_in {g : zG} {d : Nat} {F : zF} {μ0 : zMem} {s dh : Int32} (hF : okF F) (ht : tim dh) (hd : 2 ≤ d) {a : Nat} (ha : a < fB F) {t0 : Int32 × Int32 × Int32} {Q : Option Value → zMem → Prop} (hQ : ∀ (n : Int32) (t : Int32 × Int32 × Int32) (μ : zMem) (x4 : Option Value), oX F μ → (∀ k, k < 6 → μ.1 63 k = ftone F k + offW F (dh / 100) (hro dh) 0 k) → μ = μ0 → n = t.1 → t = chiA F s dh a t0 → zW g O_purePairs d 4 [some (.ref 4), some (.int s), some (.int n), some (.int (nI (a + 1))), x4] [] μ Q) : ∀ (j i : Nat) (n : Int32) (t : Int32 × Int32 × Int32) (μ : zMem), i + j = fB F → oX F μ → (∀ k, k < 6 → μ.1 63 k = ftone F k + offW F (dh / 100) (hro dh) 0 k) → (μ = μ0) → (a < i) → (n = t.1) → (t = zfold (chi F s dh a) (a + 1) (i - (a + 1)) t0) → zW g O_purePairs d 20 [some (.ref 4), some (.int s), some (.int n), some (.int (nI a)), some (.int (nI i))] [] μ (Q) := by
  intro j
  induction j with
  | zero =>
    intro i n t μ hi ho hp hv0 hv1 hv2 hv3
    have hbd := ho.b
    have h12 := ho.v12
    have h6 := ho.b6
    have hi : fB F = i := by omega
    subst hi
    refine zb O_purePairs_s20 rfl ?_
    refine z_cge O_purePairs_d29 (tgt := 69) rfl (fun h29 => ?_) (fun h29 => absurd (show μ.1 2 7 ≤ nI (fB F) by first | exact Int32.le_refl _ | (rw [hbd]; exact Int32.le_refl _)) h29)
    refine zb O_purePairs_s69 rfl ?_
    rw [nI_1]
    exact hQ n t μ _ ho hp hv0 hv2 hv3
  | succ j ih =>
    intro i n t μ hi ho hp hv0 hv1 hv2 hv3
    have hbd := ho.b
    have h12 := ho.v12
    have h6 := ho.b6
    have hilt : i < fB F := by omega
    have ei : (nI i).toNatClampNeg = i := nI_clamp (by omega)
    have hai : a < i := hv1
    have hst : zfold (chi F s dh a) (a + 1) (i + 1 - (a + 1)) t0 = chi F s dh a i t := by
      rw [show i + 1 - (a + 1) = (i - (a + 1)) + 1 by omega, zfold_s, ← hv3, show a + 1 + (i - (a + 1)) = i by omega]
    refine zb O_purePairs_s20 rfl ?_
    refine z_cge O_purePairs_d29 (tgt := 69) rfl (fun h29 => absurd h29 (show ¬ μ.1 2 7 ≤ nI i by first | exact nI_ge hilt (by omega) | (rw [hbd]; exact nI_ge hilt (by omega)))) (fun h29 => ?_)
    refine zb O_purePairs_s32 rfl ?_
    refine zcallS O_purePairs_d37 k9_67 (by omega) (x_isPairOf _ _ _) rfl rfl (Nat.le_of_ble_eq_true rfl) ?_
    rintro _ μx ⟨rfl, hx⟩
    rw [hx]
    clear hx μx
    refine z_eq O_purePairs_d40 (tgt := 57) rfl (fun h40 => ?_) (fun h40 => ?_)
    · refine zb O_purePairs_s57 rfl ?_
      refine zcallN O_purePairs_d58 k9_40 (by omega) (x_bit _) rfl rfl (Nat.le_of_ble_eq_true rfl) ?_
      rintro _ μx ⟨rfl, hx⟩
      rw [hx]
      clear hx μx
      refine zb O_purePairs_s61 rfl ?_
      rw [nI_1]
      refine ih (i + 1) _ (chi F s dh a i t) _ (by omega) ho hp hv0 (by omega) ?_ hst.symm
      rw [hv2]
      first
        | (rw [chi_out (show ¬ (hasB s (nI a) ∧ hasB s (nI i)) from zB_eq0.mp h40)]
           exact Int32.add_zero _)
        | (have hpr : hasB s (nI a) ∧ hasB s (nI i) := zB_ne0.mp h40
           unfold chi
           rw [if_neg (fun z => z hpr)]
           refine congrArg (fun x => t.1 + x) ?_
           first
             | exact zB_cong (iff_of_true (by decide) h50)
             | exact zB_cong (iff_of_false (by decide) h50))
    · refine zb O_purePairs_s43 rfl ?_
      refine zcallV O_purePairs_d47 k9_71 (by omega) (x_beatsOf hF ht (by omega) ha hilt hai hp ho) rfl rfl rfl (Nat.le_of_ble_eq_true rfl) ?_
      rintro _ μx ⟨rfl, hx⟩
      rw [hx]
      clear hx μx
      refine z_ne O_purePairs_d50 (tgt := 57) rfl (fun h50 => ?_) (fun h50 => ?_)
      · refine zb O_purePairs_s57 rfl ?_
        refine zcallN O_purePairs_d58 k9_40 (by omega) (x_bit _) rfl rfl (Nat.le_of_ble_eq_true rfl) ?_
        rintro _ μx ⟨rfl, hx⟩
        rw [hx]
        clear hx μx
        refine zb O_purePairs_s61 rfl ?_
        rw [nI_1]
        refine ih (i + 1) _ (chi F s dh a i t) _ (by omega) ho hp hv0 (by omega) ?_ hst.symm
        rw [hv2]
        first
          | (rw [chi_out (show ¬ (hasB s (nI a) ∧ hasB s (nI i)) from zB_eq0.mp h40)]
             exact Int32.add_zero _)
          | (have hpr : hasB s (nI a) ∧ hasB s (nI i) := zB_ne0.mp h40
             unfold chi
             rw [if_neg (fun z => z hpr)]
             refine congrArg (fun x => t.1 + x) ?_
             first
               | exact zB_cong (iff_of_true (by decide) h50)
               | exact zB_cong (iff_of_false (by decide) h50))
      · refine zb O_purePairs_s53 rfl ?_
        refine zcallN O_purePairs_d58 k9_40 (by omega) (x_bit _) rfl rfl (Nat.le_of_ble_eq_true rfl) ?_
        rintro _ μx ⟨rfl, hx⟩
        rw [hx]
        clear hx μx
        refine zb O_purePairs_s61 rfl ?_
        rw [nI_1]
        refine ih (i + 1) _ (chi F s dh a i t) _ (by omega) ho hp hv0 (by omega) ?_ hst.symm
        rw [hv2]
        first
          | (rw [chi_out (show ¬ (hasB s (nI a) ∧ hasB s (nI i)) from zB_eq0.mp h40)]
             exact Int32.add_zero _)
          | (have hpr : hasB s (nI a) ∧ hasB s (nI i) := zB_ne0.mp h40
             unfold chi
             rw [if_neg (fun z => z hpr)]
             refine congrArg (fun x => t.1 + x) ?_
             first
               | exact zB_cong (iff_of_true (by decide) h50)
               | exact zB_cong (iff_of_false (by decide) h50))

set_option maxRecDepth 100000 in
set_option maxHeartbeats 4000000 in
theorem w_O_pure {g : zG} {d : Nat} {F : zF} {μ0 : zMem} {s dh : Int32} (hF : okF F) (ht : tim dh) (hd : 2 ≤ d)  : ∀ (j i : Nat) (n : Int32) (t : Int32 × Int32 × Int32) (x4 : Option Value) (μ : zMem), i + j = fB F → oX F μ → (∀ k, k < 6 → μ.1 63 k = ftone F k + offW F (dh / 100) (hro dh) 0 k) → (μ = μ0) → (n = t.1) → (t = zfold (chiA F s dh) 0 i (0, -2, 0)) → zW g O_purePairs d 4 [some (.ref 4), some (.int s), some (.int n), some (.int (nI i)), x4] [] μ (fun r μ' => r = some (.int (chiS F s dh).1) ∧ μ' = μ0) := by
  intro j
  induction j with
  | zero =>
    intro i n t x4 μ hi ho hp hv0 hv1 hv2
    have hbd := ho.b
    have h12 := ho.v12
    have h6 := ho.b6
    have hi : fB F = i := by omega
    subst hi
    refine zb O_purePairs_s4 rfl ?_
    refine z_cge O_purePairs_d12 (tgt := 75) rfl (fun h12 => ?_) (fun h12 => absurd (show μ.1 2 7 ≤ nI (fB F) by first | exact Int32.le_refl _ | (rw [hbd]; exact Int32.le_refl _)) h12)
    refine zb O_purePairs_s75 rfl ?_
    refine z_ret O_purePairs_d76 rfl ?_
    exact ⟨by rw [hv1, hv2]; rfl, hv0⟩
  | succ j ih =>
    intro i n t x4 μ hi ho hp hv0 hv1 hv2
    have hbd := ho.b
    have h12 := ho.v12
    have h6 := ho.b6
    have hilt : i < fB F := by omega
    have ei : (nI i).toNatClampNeg = i := nI_clamp (by omega)
    refine zb O_purePairs_s4 rfl ?_
    refine z_cge O_purePairs_d12 (tgt := 75) rfl (fun h12 => absurd h12 (show ¬ μ.1 2 7 ≤ nI i by first | exact nI_ge hilt (by omega) | (rw [hbd]; exact nI_ge hilt (by omega)))) (fun h12 => ?_)
    refine zb O_purePairs_s15 rfl ?_
    rw [nI_1]
    exact w_O_pure_in hF ht hd hilt (t0 := t) (fun n1 t1 μ1 y4 ho1 hp1 e1 e2 e3 => ih (i + 1) n1 t1 y4 μ1 (by omega) ho1 hp1 e1 e2 (by rw [zf0, ← hv2]; exact e3)) (fB F - (i + 1)) (i + 1) n t μ (by omega) ho hp hv0 (by omega) hv1 (by rw [Nat.sub_self]; rfl)

set_option maxRecDepth 100000 in
set_option maxHeartbeats 4000000 in
theorem x_purePairs {g : zG} {d : Nat} {F : zF} {μ : zMem} {s dh : Int32} (hF : okF F) (ht : tim dh) (hd : 2 ≤ d) (hp : (∀ k, k < 6 → μ.1 63 k = ftone F k + offW F (dh / 100) (hro dh) 0 k)) (ho : oX F μ) : zM g d O_purePairs [.ref 4, .int s] μ (fun r μ' => r = some (.int (chiS F s dh).1) ∧ μ' = μ) := by
  refine zM_of (by decide +kernel) rfl rfl (Nat.le_of_ble_eq_true rfl) rfl ?_
  refine zb O_purePairs_s0 rfl ?_
  exact w_O_pure (μ0 := μ) hF ht hd (fB F) 0 0 (0, -2, 0) _ μ (by omega) ho hp rfl rfl rfl

set_option maxRecDepth 100000 in
set_option maxHeartbeats 4000000 in
theorem w_O_harsh_in {g : zG} {d : Nat} {F : zF} {μ0 : zMem} {s dh : Int32} (hF : okF F) (ht : tim dh) (hd : 2 ≤ d) {a : Nat} (ha : a < fB F) {t0 : Int32 × Int32 × Int32} {Q : Option Value → zMem → Prop} (hQ : ∀ (n m : Int32) (t : Int32 × Int32 × Int32) (μ : zMem) (x5 : Option Value), oX F μ → (∀ k, k < 6 → μ.1 63 k = ftone F k + offW F (dh / 100) (hro dh) 0 k) → μ = μ0 → n = t.2.1 → ((t.2.1 = -2 ∧ m = -1) ∨ (¬ t.2.1 = -2 ∧ m = t.2.2)) → t = chiA F s dh a t0 → zW g O_harshestPair d 8 [some (.ref 4), some (.int s), some (.int n), some (.int m), some (.int (nI (a + 1))), x5] [] μ Q) : ∀ (j i : Nat) (n : Int32) (m : Int32) (t : Int32 × Int32 × Int32) (μ : zMem), i + j = fB F → oX F μ → (∀ k, k < 6 → μ.1 63 k = ftone F k + offW F (dh / 100) (hro dh) 0 k) → (μ = μ0) → (a < i) → (n = t.2.1) → ((t.2.1 = -2 ∧ m = -1) ∨ (¬ t.2.1 = -2 ∧ m = t.2.2)) → (t = zfold (chi F s dh a) (a + 1) (i - (a + 1)) t0) → zW g O_harshestPair d 26 [some (.ref 4), some (.int s), some (.int n), some (.int m), some (.int (nI a)), some (.int (nI i))] [] μ (Q) := by
  intro j
  induction j with
  | zero =>
    intro i n m t μ hi ho hp hv0 hv1 hv2 hv3 hv4
    have hbd := ho.b
    have h12 := ho.v12
    have h6 := ho.b6
    have hV := ho.v12
    have hi : fB F = i := by omega
    subst hi
    refine zb O_harshestPair_s26 rfl ?_
    refine z_cge O_harshestPair_d35 (tgt := 85) rfl (fun h35 => ?_) (fun h35 => absurd (show μ.1 2 7 ≤ nI (fB F) by first | exact Int32.le_refl _ | (rw [hbd]; exact Int32.le_refl _)) h35)
    refine zb O_harshestPair_s85 rfl ?_
    rw [nI_1]
    exact hQ n m t μ _ ho hp hv0 hv2 hv3 hv4
  | succ j ih =>
    intro i n m t μ hi ho hp hv0 hv1 hv2 hv3 hv4
    have hbd := ho.b
    have h12 := ho.v12
    have h6 := ho.b6
    have hV := ho.v12
    have hilt : i < fB F := by omega
    have ei : (nI i).toNatClampNeg = i := nI_clamp (by omega)
    have hai : a < i := hv1
    have hst : zfold (chi F s dh a) (a + 1) (i + 1 - (a + 1)) t0 = chi F s dh a i t := by
      rw [show i + 1 - (a + 1) = (i - (a + 1)) + 1 by omega, zfold_s, ← hv4, show a + 1 + (i - (a + 1)) = i by omega]
    have hnn := beat_nn hF ht ha hilt hai h6 hV
    have h10 : ¬ ((10 : Int32) * nI a + nI i = -2) := fun z => by
      have e : (10 : Int32) * nI a + nI i = nI (10 * a + i) := by rw [show (10 : Int32) = nI 10 from rfl, pk_mul, nI_add]
      rw [e] at z
      exact absurd (show (nI (10 * a + i)).toInt = (-2 : Int32).toInt by rw [z]) (by rw [nI_toInt (by omega), show (-2 : Int32).toInt = -2 from rfl]; omega)
    refine zb O_harshestPair_s26 rfl ?_
    refine z_cge O_harshestPair_d35 (tgt := 85) rfl (fun h35 => absurd h35 (show ¬ μ.1 2 7 ≤ nI i by first | exact nI_ge hilt (by omega) | (rw [hbd]; exact nI_ge hilt (by omega)))) (fun h35 => ?_)
    refine zb O_harshestPair_s38 rfl ?_
    refine zcallS O_harshestPair_d43 k9_67 (by omega) (x_isPairOf _ _ _) rfl rfl (Nat.le_of_ble_eq_true rfl) ?_
    rintro _ μx ⟨rfl, hx⟩
    rw [hx]
    clear hx μx
    refine z_eq O_harshestPair_d46 (tgt := 79) rfl (fun h46 => ?_) (fun h46 => ?_)
    · refine zb O_harshestPair_s79 rfl ?_
      rw [nI_1]
      first
        | (have hpr : hasB s (nI a) ∧ hasB s (nI i) := zB_ne0.mp h46
           have e : chi F s dh a i t = (t.1 + zB (sBeat F (nI a) (nI i) dh = 0), 10 * nI a + nI i, sBeat F (nI a) (nI i) dh) := by
             refine chi_new hpr.1 hpr.2 ?_
             rcases hv3 with w | w
             · exact Or.inl w.1
             · exact Or.inr (by rw [← w.2]; exact Int32.not_le.mp h58)
           refine ih (i + 1) _ _ (chi F s dh a i t) _ (by omega) ho hp hv0 (by omega) ?_ ?_ hst.symm
           · rw [e]
           · rw [e]; exact Or.inr ⟨h10, rfl⟩)
        | (have hpr : hasB s (nI a) ∧ hasB s (nI i) := zB_ne0.mp h46
           rcases hv3 with w | w
           · rw [w.2] at h58
             exact absurd (Int32.le_trans hnn h58) (by decide)
           · have e : chi F s dh a i t = (t.1 + zB (sBeat F (nI a) (nI i) dh = 0), t.2.1, t.2.2) := chi_old hpr.1 hpr.2 w.1 (by rw [← w.2]; exact Int32.not_lt.mpr h58)
             refine ih (i + 1) _ _ (chi F s dh a i t) _ (by omega) ho hp hv0 (by omega) ?_ ?_ hst.symm
             · rw [e]; exact hv2
             · rw [e]; exact Or.inr w)
        | (have e := chi_out (F := F) (dh := dh) (t := t) (show ¬ (hasB s (nI a) ∧ hasB s (nI i)) from zB_eq0.mp h46)
           refine ih (i + 1) _ _ (chi F s dh a i t) _ (by omega) ho hp hv0 (by omega) ?_ ?_ hst.symm
           · rw [e]; exact hv2
           · rw [e]; exact hv3)
    · refine zb O_harshestPair_s49 rfl ?_
      refine zcallV O_harshestPair_d54 k9_71 (by omega) (x_beatsOf hF ht (by omega) ha hilt hai hp ho) rfl rfl rfl (Nat.le_of_ble_eq_true rfl) ?_
      rintro _ μx ⟨rfl, hx⟩
      rw [hx]
      clear hx μx
      refine zb O_harshestPair_s57 rfl ?_
      refine z_cle O_harshestPair_d58 (tgt := 79) rfl (fun h58 => ?_) (fun h58 => ?_)
      · refine zb O_harshestPair_s79 rfl ?_
        rw [nI_1]
        first
          | (have hpr : hasB s (nI a) ∧ hasB s (nI i) := zB_ne0.mp h46
             have e : chi F s dh a i t = (t.1 + zB (sBeat F (nI a) (nI i) dh = 0), 10 * nI a + nI i, sBeat F (nI a) (nI i) dh) := by
               refine chi_new hpr.1 hpr.2 ?_
               rcases hv3 with w | w
               · exact Or.inl w.1
               · exact Or.inr (by rw [← w.2]; exact Int32.not_le.mp h58)
             refine ih (i + 1) _ _ (chi F s dh a i t) _ (by omega) ho hp hv0 (by omega) ?_ ?_ hst.symm
             · rw [e]
             · rw [e]; exact Or.inr ⟨h10, rfl⟩)
          | (have hpr : hasB s (nI a) ∧ hasB s (nI i) := zB_ne0.mp h46
             rcases hv3 with w | w
             · rw [w.2] at h58
               exact absurd (Int32.le_trans hnn h58) (by decide)
             · have e : chi F s dh a i t = (t.1 + zB (sBeat F (nI a) (nI i) dh = 0), t.2.1, t.2.2) := chi_old hpr.1 hpr.2 w.1 (by rw [← w.2]; exact Int32.not_lt.mpr h58)
               refine ih (i + 1) _ _ (chi F s dh a i t) _ (by omega) ho hp hv0 (by omega) ?_ ?_ hst.symm
               · rw [e]; exact hv2
               · rw [e]; exact Or.inr w)
          | (have e := chi_out (F := F) (dh := dh) (t := t) (show ¬ (hasB s (nI a) ∧ hasB s (nI i)) from zB_eq0.mp h46)
             refine ih (i + 1) _ _ (chi F s dh a i t) _ (by omega) ho hp hv0 (by omega) ?_ ?_ hst.symm
             · rw [e]; exact hv2
             · rw [e]; exact hv3)
      · refine zb O_harshestPair_s61 rfl ?_
        refine zcallV O_harshestPair_d66 k9_71 (by omega) (x_beatsOf hF ht (by omega) ha hilt hai hp ho) rfl rfl rfl (Nat.le_of_ble_eq_true rfl) ?_
        rintro _ μx ⟨rfl, hx⟩
        rw [hx]
        clear hx μx
        refine zb O_harshestPair_s69 rfl ?_
        rw [nI_1]
        first
          | (have hpr : hasB s (nI a) ∧ hasB s (nI i) := zB_ne0.mp h46
             have e : chi F s dh a i t = (t.1 + zB (sBeat F (nI a) (nI i) dh = 0), 10 * nI a + nI i, sBeat F (nI a) (nI i) dh) := by
               refine chi_new hpr.1 hpr.2 ?_
               rcases hv3 with w | w
               · exact Or.inl w.1
               · exact Or.inr (by rw [← w.2]; exact Int32.not_le.mp h58)
             refine ih (i + 1) _ _ (chi F s dh a i t) _ (by omega) ho hp hv0 (by omega) ?_ ?_ hst.symm
             · rw [e]
             · rw [e]; exact Or.inr ⟨h10, rfl⟩)
          | (have hpr : hasB s (nI a) ∧ hasB s (nI i) := zB_ne0.mp h46
             rcases hv3 with w | w
             · rw [w.2] at h58
               exact absurd (Int32.le_trans hnn h58) (by decide)
             · have e : chi F s dh a i t = (t.1 + zB (sBeat F (nI a) (nI i) dh = 0), t.2.1, t.2.2) := chi_old hpr.1 hpr.2 w.1 (by rw [← w.2]; exact Int32.not_lt.mpr h58)
               refine ih (i + 1) _ _ (chi F s dh a i t) _ (by omega) ho hp hv0 (by omega) ?_ ?_ hst.symm
               · rw [e]; exact hv2
               · rw [e]; exact Or.inr w)
          | (have e := chi_out (F := F) (dh := dh) (t := t) (show ¬ (hasB s (nI a) ∧ hasB s (nI i)) from zB_eq0.mp h46)
             refine ih (i + 1) _ _ (chi F s dh a i t) _ (by omega) ho hp hv0 (by omega) ?_ ?_ hst.symm
             · rw [e]; exact hv2
             · rw [e]; exact hv3)

set_option maxRecDepth 100000 in
set_option maxHeartbeats 4000000 in
theorem w_O_harsh {g : zG} {d : Nat} {F : zF} {μ0 : zMem} {s dh : Int32} (hF : okF F) (ht : tim dh) (hd : 2 ≤ d)  : ∀ (j i : Nat) (n : Int32) (m : Int32) (t : Int32 × Int32 × Int32) (x5 : Option Value) (μ : zMem), i + j = fB F → oX F μ → (∀ k, k < 6 → μ.1 63 k = ftone F k + offW F (dh / 100) (hro dh) 0 k) → (μ = μ0) → (n = t.2.1) → ((t.2.1 = -2 ∧ m = -1) ∨ (¬ t.2.1 = -2 ∧ m = t.2.2)) → (t = zfold (chiA F s dh) 0 i (0, -2, 0)) → zW g O_harshestPair d 8 [some (.ref 4), some (.int s), some (.int n), some (.int m), some (.int (nI i)), x5] [] μ (fun r μ' => r = some (.int (chiS F s dh).2.1) ∧ μ' = μ0) := by
  intro j
  induction j with
  | zero =>
    intro i n m t x5 μ hi ho hp hv0 hv1 hv2 hv3
    have hbd := ho.b
    have h12 := ho.v12
    have h6 := ho.b6
    have hi : fB F = i := by omega
    subst hi
    refine zb O_harshestPair_s8 rfl ?_
    refine z_cge O_harshestPair_d17 (tgt := 91) rfl (fun h17 => ?_) (fun h17 => absurd (show μ.1 2 7 ≤ nI (fB F) by first | exact Int32.le_refl _ | (rw [hbd]; exact Int32.le_refl _)) h17)
    refine zb O_harshestPair_s91 rfl ?_
    refine z_ret O_harshestPair_d92 rfl ?_
    exact ⟨by rw [hv1, hv3]; rfl, hv0⟩
  | succ j ih =>
    intro i n m t x5 μ hi ho hp hv0 hv1 hv2 hv3
    have hbd := ho.b
    have h12 := ho.v12
    have h6 := ho.b6
    have hilt : i < fB F := by omega
    have ei : (nI i).toNatClampNeg = i := nI_clamp (by omega)
    refine zb O_harshestPair_s8 rfl ?_
    refine z_cge O_harshestPair_d17 (tgt := 91) rfl (fun h17 => absurd h17 (show ¬ μ.1 2 7 ≤ nI i by first | exact nI_ge hilt (by omega) | (rw [hbd]; exact nI_ge hilt (by omega)))) (fun h17 => ?_)
    refine zb O_harshestPair_s20 rfl ?_
    rw [nI_1]
    exact w_O_harsh_in hF ht hd hilt (t0 := t) (fun n1 m1 t1 μ1 y5 ho1 hp1 e1 e2 e3 e4 => ih (i + 1) n1 m1 t1 y5 μ1 (by omega) ho1 hp1 e1 e2 e3 (by rw [zf0, ← hv3]; exact e4)) (fB F - (i + 1)) (i + 1) n m t μ (by omega) ho hp hv0 (by omega) hv1 hv2 (by rw [Nat.sub_self]; rfl)

set_option maxRecDepth 100000 in
set_option maxHeartbeats 4000000 in
theorem x_harshest {g : zG} {d : Nat} {F : zF} {μ : zMem} {s dh : Int32} (hF : okF F) (ht : tim dh) (hd : 2 ≤ d) (hp : (∀ k, k < 6 → μ.1 63 k = ftone F k + offW F (dh / 100) (hro dh) 0 k)) (ho : oX F μ) : zM g d O_harshestPair [.ref 4, .int s] μ (fun r μ' => r = some (.int (chiS F s dh).2.1) ∧ μ' = μ) := by
  refine zM_of (by decide +kernel) rfl rfl (Nat.le_of_ble_eq_true rfl) rfl ?_
  refine zb O_harshestPair_s0 rfl ?_
  exact w_O_harsh (μ0 := μ) hF ht hd (fB F) 0 _ _ (0, -2, 0) _ μ (by omega) ho hp rfl rfl (Or.inl ⟨rfl, rfl⟩) rfl

set_option maxRecDepth 100000 in
set_option maxHeartbeats 4000000 in
theorem w_O_first {g : zG} {d : Nat} {F : zF} {μ0 : zMem} {b h : Int32} {D : Nat} {r0 : Int32} (hF : okF F) (hd : 6 ≤ d) : ∀ (j i : Nat) (μ : zMem), i + j = 999 → oX F μ → zq sX μ0 μ → (zfind (fun k => offs F b (nI k) h = 0) i (999 - i) = r0) → zW g O_firstPureDay d 3 [some (.ref 4), some (.int b), some (.int (nI D)), some (.int h), some (.int (nI i))] [] μ (fun r μ' => r = some (.int (r0)) ∧ zq sX μ0 μ') := by
  intro j
  induction j with
  | zero =>
    intro i  μ hi ho hz hv0
    have hi : 999 = i := by omega
    subst hi
    refine zb O_firstPureDay_s3 rfl ?_
    refine z_cgt O_firstPureDay_d8 (tgt := 34) rfl (fun h8 => ?_) (fun h8 => absurd (show (998 : Int32) < nI 999 by decide) h8)
    refine zb O_firstPureDay_s34 rfl ?_
    refine z_ret O_firstPureDay_d36 rfl ?_
    exact ⟨by rw [← hv0]; rfl, hz⟩
  | succ j ih =>
    intro i  μ hi ho hz hv0
    have hilt : i < 999 := by omega
    have ei : (nI i).toNatClampNeg = i := nI_clamp (by omega)
    rw [show 999 - i = (999 - (i + 1)) + 1 by omega] at hv0
    simp only [zfind] at hv0
    refine zb O_firstPureDay_s3 rfl ?_
    refine z_cgt O_firstPureDay_d8 (tgt := 34) rfl (fun h8 => absurd h8 (show ¬ (998 : Int32) < nI i from nI_nlt (a := 998) (by omega) (by omega))) (fun h8 => ?_)
    refine zb O_firstPureDay_s11 rfl ?_
    refine zcallV O_firstPureDay_d19 k9_74 (by omega) (x_offOf hF (by omega) ho) rfl rfl rfl (Nat.le_of_ble_eq_true rfl) ?_
    rintro _ μ1 ⟨rfl, hz1⟩
    replace hz := hz.tr hz1
    replace ho := ho.q hz1
    clear hz1
    refine z_ne O_firstPureDay_d22 (tgt := 28) rfl (fun h22 => ?_) (fun h22 => ?_)
    · refine zb O_firstPureDay_s28 rfl ?_
      rw [nI_1]
      exact ih (i + 1) _ (by omega) ho hz (by rw [if_neg h22] at hv0; exact hv0)
    · refine zb O_firstPureDay_s25 rfl ?_
      refine z_ret O_firstPureDay_d27 rfl ?_
      rw [if_pos h22] at hv0
      exact ⟨by rw [hv0], hz⟩

set_option maxRecDepth 100000 in
set_option maxHeartbeats 4000000 in
theorem x_firstPure {g : zG} {d : Nat} {F : zF} {μ : zMem} {b h : Int32} {D : Nat} (hD : D ≤ 998) (hF : okF F) (hd : 6 ≤ d) (ho : oX F μ) : zM g d O_firstPureDay [.ref 4, .int b, .int (nI D), .int h] μ (fun r μ' => r = some (.int (zfind (fun k => offs F b (nI k) h = 0) D (999 - D))) ∧ zq sX μ μ') := by
  refine zM_of (by decide +kernel) rfl rfl (Nat.le_of_ble_eq_true rfl) rfl ?_
  have hz : zq sX μ μ := zq.rf
  have h12 := ho.v12
  have h6 := ho.b6
  refine zb O_firstPureDay_s0 rfl ?_
  exact w_O_first hF hd (999 - D) D μ (by omega) ho hz rfl

set_option maxRecDepth 100000 in
set_option maxHeartbeats 4000000 in
theorem w_O_daysOff {g : zG} {d : Nat} {F : zF} {μ0 : zMem} {b h n : Int32} {D L : Nat} (hF : okF F) (hd : 6 ≤ d) (hL : L ≤ 998) (hDL : D ≤ L + 1) : ∀ (j i : Nat) (acc : Int32) (μ : zMem), i + j = L + 1 → oX F μ → zq sX μ0 μ → (D ≤ i) → (acc = zsum (fun k => zB (¬ offs F b (nI (D + k)) h = 0)) (i - D)) → zW g O_daysOff d 20 [some (.ref 4), some (.int b), some (.int (nI D)), some (.int h), some (.int n), some (.int (nI L)), some (.int acc), some (.int (nI i))] [] μ (fun r μ' => r = some (.int (zsum (fun k => zB (¬ offs F b (nI (D + k)) h = 0)) (L + 1 - D))) ∧ zq sX μ0 μ') := by
  intro j
  induction j with
  | zero =>
    intro i acc μ hi ho hz hv0 hv1
    have hi : L + 1 = i := by omega
    subst hi
    refine zb O_daysOff_s20 rfl ?_
    refine z_cgt O_daysOff_d24 (tgt := 60) rfl (fun h24 => ?_) (fun h24 => absurd (show nI L < nI (L + 1) from nI_lt (by omega) (by omega)) h24)
    refine zb O_daysOff_s60 rfl ?_
    refine z_ret O_daysOff_d62 rfl ?_
    exact ⟨by rw [hv1], hz⟩
  | succ j ih =>
    intro i acc μ hi ho hz hv0 hv1
    have hilt : i < L + 1 := by omega
    have ei : (nI i).toNatClampNeg = i := nI_clamp (by omega)
    refine zb O_daysOff_s20 rfl ?_
    refine z_cgt O_daysOff_d24 (tgt := 60) rfl (fun h24 => absurd h24 (show ¬ nI L < nI i from nI_nlt (by omega) (by omega))) (fun h24 => ?_)
    refine zb O_daysOff_s27 rfl ?_
    refine zcallV O_daysOff_d37 k9_74 (by omega) (x_offOf hF (by omega) ho) rfl rfl rfl (Nat.le_of_ble_eq_true rfl) ?_
    rintro _ μ1 ⟨rfl, hz1⟩
    replace hz := hz.tr hz1
    replace ho := ho.q hz1
    clear hz1
    refine z_eq O_daysOff_d40 (tgt := 47) rfl (fun h40 => ?_) (fun h40 => ?_)
    · refine zb O_daysOff_s47 rfl ?_
      refine zcallN O_daysOff_d48 k9_40 (by omega) (x_bit _) rfl rfl (Nat.le_of_ble_eq_true rfl) ?_
      rintro _ μx ⟨rfl, hx⟩
      rw [hx]
      clear hx μx
      refine zb O_daysOff_s51 rfl ?_
      rw [nI_1]
      refine ih (i + 1) _ _ (by omega) ho hz (by omega) ?_
      rw [show i + 1 - D = (i - D) + 1 by omega, zsum_s, ← hv1, show D + (i - D) = i by omega]
      congr 1
      first | exact zB_cong (iff_of_true (by decide) h40) | exact zB_cong (iff_of_false (by decide) (fun z => z h40))
    · refine zb O_daysOff_s43 rfl ?_
      refine zcallN O_daysOff_d48 k9_40 (by omega) (x_bit _) rfl rfl (Nat.le_of_ble_eq_true rfl) ?_
      rintro _ μx ⟨rfl, hx⟩
      rw [hx]
      clear hx μx
      refine zb O_daysOff_s51 rfl ?_
      rw [nI_1]
      refine ih (i + 1) _ _ (by omega) ho hz (by omega) ?_
      rw [show i + 1 - D = (i - D) + 1 by omega, zsum_s, ← hv1, show D + (i - D) = i by omega]
      congr 1
      first | exact zB_cong (iff_of_true (by decide) h40) | exact zB_cong (iff_of_false (by decide) (fun z => z h40))

set_option maxRecDepth 100000 in
set_option maxHeartbeats 4000000 in
theorem x_daysOff {g : zG} {d : Nat} {F : zF} {μ : zMem} {b h : Int32} {D N : Nat} (hD : D ≤ 998) (hN : N ≤ 999) (hN0 : 1 ≤ N) (hF : okF F) (hd : 6 ≤ d) (ho : oX F μ) : zM g d O_daysOff [.ref 4, .int b, .int (nI D), .int h, .int (nI N)] μ (fun r μ' => r = some (.int (zsum (fun k => zB (¬ offs F b (nI (D + k)) h = 0)) (min N (999 - D)))) ∧ zq sX μ μ') := by
  refine zM_of (by decide +kernel) rfl rfl (Nat.le_of_ble_eq_true rfl) rfl ?_
  have hz : zq sX μ μ := zq.rf
  have h12 := ho.v12
  have h6 := ho.b6
  refine zb O_daysOff_s0 rfl ?_
  refine zmin O_daysOff_d9 k9_60 (by omega) (Nat.le_of_ble_eq_true rfl) ?_
  refine zb O_daysOff_s12 rfl ?_
  have e : nI D + nI N - 1 = nI (D + N - 1) := by rw [nI_add, show (1 : Int32) = nI 1 from rfl, pk_sub (by omega)]
  rw [e]
  by_cases q : 998 < D + N - 1
  · rw [if_pos (show (998 : Int32) < nI (D + N - 1) from nI_lt (a := 998) q (by omega)), show min N (999 - D) = 998 + 1 - D by omega]
    exact w_O_daysOff hF hd (L := 998) (by omega) (by omega) (998 + 1 - D) D 0 μ (by omega) ho hz (Nat.le_refl _) (by rw [Nat.sub_self]; rfl)
  · rw [if_neg (show ¬ (998 : Int32) < nI (D + N - 1) from nI_nlt (a := 998) (by omega) (by omega)), show min N (999 - D) = D + N - 1 + 1 - D by omega]
    exact w_O_daysOff hF hd (L := D + N - 1) (by omega) (by omega) (D + N - 1 + 1 - D) D 0 μ (by omega) ho hz (Nat.le_refl _) (by rw [Nat.sub_self]; rfl)
