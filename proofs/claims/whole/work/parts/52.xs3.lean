/-! the class: changes, mend, undo, redo, of, feed, deeds -/
theorem cpy_dr1 (f : Nat → Int32) : va_cpy f f (1 : Int32).toNatClampNeg (0 : Int32).toNatClampNeg (39 : Int32).toNatClampNeg = dr1 f := by
  funext k
  rw [show (1 : Int32).toNatClampNeg = 1 from rfl, show (0 : Int32).toNatClampNeg = 0 from rfl, show (39 : Int32).toNatClampNeg = 39 from rfl]
  unfold dr1
  by_cases h : k < 39
  · rw [if_pos h, pk_cpy_in (Nat.zero_le _) (by omega)]
    congr 1
    omega
  · rw [if_neg h, pk_cpy_out (Or.inr (by omega))]
theorem zpA_row {μ : zMem} {c : Nat} {r : Nat → Int32} : (zpA μ c r).1 c = r := by simp [zpA, zuA]
theorem zpA_ne {μ : zMem} {c c' : Nat} {r : Nat → Int32} (h : c' ≠ c) : (zpA μ c r).1 c' = μ.1 c' := by simp [zpA, zuA, h]

set_option maxRecDepth 100000 in
set_option maxHeartbeats 4000000 in
theorem xs_forget {g : zG} {d : Nat} {S : zS} {μ : zMem} (hd : 1 ≤ d) (hS : xS S μ) (h40 : (cC S).1.1 = 40) : zM g d H_forgetFirst [.ref 8] μ (fun r μ' => r = none ∧ xS (sC S (chDrop (cC S))) μ' ∧ onlyX μ μ') := by
  refine zM_of (by decide +kernel) rfl rfl (Nat.le_of_ble_eq_true rfl) rfl ?_
  obtain ⟨ho, h2, hT, hC, hD, hI, hA, hH⟩ := hS
  have hS : xS S μ := ⟨ho, h2, hT, hC, hD, hI, hA, hH⟩
  have hb := ho.b
  have hv := ho.v
  have hB6 := ho.b6
  have hV12 := ho.v12
  have hz : zq sX μ μ := zq.rf
  have hC1 : xC (cC S) μ := hC
  refine zb H_forgetFirst_s0 rfl ?_
  refine zcpI H_forgetFirst_d12 k2_32 (by omega) (Nat.le_of_ble_eq_true rfl) rfl rfl (by decide) (by decide) (by decide) (by decide) (by decide) ?_
  refine zb H_forgetFirst_s15 rfl ?_
  refine zcpI H_forgetFirst_d27 k2_32 (by omega) (Nat.le_of_ble_eq_true rfl) rfl rfl (by decide) (by decide) (by decide) (by decide) (by decide) ?_
  refine zb H_forgetFirst_s30 rfl ?_
  refine zcpI H_forgetFirst_d42 k2_32 (by omega) (Nat.le_of_ble_eq_true rfl) rfl rfl (by decide) (by decide) (by decide) (by decide) (by decide) ?_
  refine zb H_forgetFirst_s45 rfl ?_
  refine zcpI H_forgetFirst_d57 k2_32 (by omega) (Nat.le_of_ble_eq_true rfl) rfl rfl (by decide) (by decide) (by decide) (by decide) (by decide) ?_
  refine zb H_forgetFirst_s60 rfl ?_
  refine z_retV H_forgetFirst_d66 rfl ?_
  simp (disch := decide) only [cpy_dr1, zpA_ne]
  have e : chDrop (cC S) = ((39, (cC S).1.2), dr1 (cC S).2.1, dr1 (cC S).2.2.1, dr1 (cC S).2.2.2.1, dr1 (cC S).2.2.2.2) := if_pos h40
  rw [e, hC1.2.1, hC1.2.2.1, hC1.2.2.2.1, hC1.2.2.2.2]
  have ho1 : oX S.1 (zpI (zpA (zpA (zpA (zpA μ 79 (dr1 (cC S).2.1)) 80 (dr1 (cC S).2.2.1)) 81 (dr1 (cC S).2.2.2.1)) 82 (dr1 (cC S).2.2.2.2)) 8 4 39) := ⟨ho.1, ho.2.1, ho.2.2⟩
  exact ⟨by first | rfl | trivial, ⟨ho1, h2, hT, ⟨⟨rfl, hC1.1.2.1, by have := hC1.1.2.2.1; show 39 ≤ (cC S).1.2; omega, hC1.1.2.2.2⟩, rfl, rfl, rfl, rfl⟩, hD, hI, hA, (by repeat (first | exact hH | refine xH.put (by decide) ?_ | refine xH.putA (by decide) ?_))⟩, (by repeat (first | exact onlyX.rf | refine onlyX.put rfl ?_ | refine onlyX.putA rfl ?_))⟩

theorem xS.push {S : zS} {μ : zMem} {n w p v : Int32} (h : xS S μ) (hm : (cC S).1.1 < 40) : xS (sC S (((cC S).1.1 + 1, (cC S).1.1 + 1), fu (cC S).2.1 (cC S).1.1 n, fu (cC S).2.2.1 (cC S).1.1 w, fu (cC S).2.2.2.1 (cC S).1.1 p, fu (cC S).2.2.2.2 (cC S).1.1 v)) (zpI (zpI (zpI (zpI (zpI (zpI μ 79 (cC S).1.1 n) 80 (cC S).1.1 w) 81 (cC S).1.1 p) 82 (cC S).1.1 v) 8 4 (nI ((cC S).1.1 + 1))) 8 5 (nI ((cC S).1.1 + 1))) := by
  obtain ⟨ho, h2, hT, hC, hD, hI, hA, hH⟩ := h
  have hC1 : xC (cC S) μ := hC
  obtain ⟨h3, h5, h6, h7, h8⟩ := hC1
  have ho1 : oX S.1 (zpI (zpI (zpI (zpI (zpI (zpI μ 79 (cC S).1.1 n) 80 (cC S).1.1 w) 81 (cC S).1.1 p) 82 (cC S).1.1 v) 8 4 (nI ((cC S).1.1 + 1))) 8 5 (nI ((cC S).1.1 + 1))) := ⟨ho.1, ho.2.1, ho.2.2⟩
  refine ⟨ho1, h2, hT, ⟨⟨rfl, rfl, Nat.le_refl _, hm⟩, ?_, ?_, ?_, ?_⟩, hD, hI, hA, (by repeat (first | exact hH | refine xH.put (by decide) ?_))⟩
  · show _ = fu (cC S).2.1 (cC S).1.1 n
    rw [← h5]; rfl
  · show _ = fu (cC S).2.2.1 (cC S).1.1 w
    rw [← h6]; rfl
  · show _ = fu (cC S).2.2.2.1 (cC S).1.1 p
    rw [← h7]; rfl
  · show _ = fu (cC S).2.2.2.2 (cC S).1.1 v
    rw [← h8]; rfl
theorem xS.made {S : zS} {μ : zMem} {m : Nat} (h : xS S μ) (hm : m ≤ (cC S).1.2) : xS (sC S (chMade (cC S) m)) (zpI μ 8 4 (nI m)) := by
  obtain ⟨ho, h2, hT, hC, hD, hI, hA, hH⟩ := h
  have hC1 : xC (cC S) μ := hC
  have ho1 : oX S.1 (zpI μ 8 4 (nI m)) := ⟨ho.1, ho.2.1, ho.2.2⟩
  exact ⟨ho1, h2, hT, ⟨⟨rfl, hC1.1.2.1, hm, hC1.1.2.2.2⟩, hC1.2⟩, hD, hI, hA, (by repeat (first | exact hH | refine xH.put (by decide) ?_))⟩
theorem wrS_sC (S : zS) (c : zCh) (n w x : Int32) : wrS (sC S c) n w x = sC (wrS S n w x) c := rfl

set_option maxRecDepth 100000 in
set_option maxHeartbeats 4000000 in
theorem xs_add {g : zG} {d : Nat} {S : zS} {μ : zMem} {n w p v : Int32} (hd : 2 ≤ d) (hS : xS S μ) : zM g d H_add [.ref 8, .int n, .int w, .int p, .int v] μ (fun r μ' => r = none ∧ xS (sC S (chAdd (cC S) n w p v)) μ' ∧ onlyX μ μ') := by
  refine zM_of (by decide +kernel) rfl rfl (Nat.le_of_ble_eq_true rfl) rfl ?_
  obtain ⟨ho, h2, hT, hC, hD, hI, hA, hH⟩ := hS
  have hS : xS S μ := ⟨ho, h2, hT, hC, hD, hI, hA, hH⟩
  have hb := ho.b
  have hv := ho.v
  have hB6 := ho.b6
  have hV12 := ho.v12
  have hz : zq sX μ μ := zq.rf
  have hC1 : xC (cC S) μ := hC
  have e84 : μ.1 8 4 = nI (cC S).1.1 := hC1.1.1
  refine zb H_add_s0 rfl ?_
  refine z_clt H_add_d6 (tgt := 13) rfl (fun h6 => ?_) (fun h6 => ?_)
  · first
      | (have hS1 : xS (sC S (chDrop (cC S))) μ := by
           have h40 : ¬ (cC S).1.1 = 40 := fun z => by
             rw [e84, z] at h6
             exact absurd h6 (by decide)
           rw [show chDrop (cC S) = cC S from if_neg h40]
           exact hS
         have hO1 : onlyX μ μ := onlyX.rf)
      | skip
    have hm40 := chDrop_lt hC1.1.2.2.1 hC1.1.2.2.2
    have e22 := hS1.2.2.2.1.1.1
    replace e22 : _ = nI (chDrop (cC S)).1.1 := e22
    have hvm : vp_in (nI (chDrop (cC S)).1.1) 40 := vp_in_nI hm40 (by omega)
    have em : (nI (chDrop (cC S)).1.1).toNatClampNeg = (chDrop (cC S)).1.1 := nI_clamp (by omega)
    have hS2 := hS1.push (n := n) (w := w) (p := p) (v := v) hm40
    replace hS2 : xS (sC S (chAdd (cC S) n w p v)) _ := hS2
    refine zb4 H_add_s13 rfl (by first | exact hvm | (rw [e22]; exact hvm) | (simp (disch := decide) only [zpI_ne, e22]; exact hvm)) (by first | exact hvm | (rw [e22]; exact hvm) | (simp (disch := decide) only [zpI_ne, e22]; exact hvm)) (by first | exact hvm | (rw [e22]; exact hvm) | (simp (disch := decide) only [zpI_ne, e22]; exact hvm)) (by first | exact hvm | (rw [e22]; exact hvm) | (simp (disch := decide) only [zpI_ne, e22]; exact hvm)) ?_
    refine z_retV H_add_d72 rfl ?_
    simp (disch := decide) only [zpI_ne, zpI_at, Nat.reduceEqDiff, reduceIte, e22, em, nI_1]
    exact ⟨by first | rfl | trivial, hS2, hO1.tr (by repeat (first | exact onlyX.rf | refine onlyX.put rfl ?_))⟩
  · have hm4 : (cC S).1.1 = 40 := by
      rw [e84] at h6
      have := (nI_leI (a := 40) (by omega) (by have := hC1.1.2.2; omega)).mp (Int32.not_lt.mp h6)
      have := hC1.1.2.2
      omega
    refine zb H_add_s9 rfl ?_
    refine zcallV H_add_d10 k2_26 (by omega) (xs_forget (by omega) hS hm4) rfl rfl rfl (Nat.le_of_ble_eq_true rfl) ?_
    rintro _ μ1 ⟨rfl, hS1, hO1⟩
    first
      | (have hS1 : xS (sC S (chDrop (cC S))) μ := by
           have h40 : ¬ (cC S).1.1 = 40 := fun z => by
             rw [e84, z] at h6
             exact absurd h6 (by decide)
           rw [show chDrop (cC S) = cC S from if_neg h40]
           exact hS
         have hO1 : onlyX μ μ := onlyX.rf)
      | skip
    have hm40 := chDrop_lt hC1.1.2.2.1 hC1.1.2.2.2
    have e22 := hS1.2.2.2.1.1.1
    replace e22 : _ = nI (chDrop (cC S)).1.1 := e22
    have hvm : vp_in (nI (chDrop (cC S)).1.1) 40 := vp_in_nI hm40 (by omega)
    have em : (nI (chDrop (cC S)).1.1).toNatClampNeg = (chDrop (cC S)).1.1 := nI_clamp (by omega)
    have hS2 := hS1.push (n := n) (w := w) (p := p) (v := v) hm40
    replace hS2 : xS (sC S (chAdd (cC S) n w p v)) _ := hS2
    refine zb4 H_add_s13 rfl (by first | exact hvm | (rw [e22]; exact hvm) | (simp (disch := decide) only [zpI_ne, e22]; exact hvm)) (by first | exact hvm | (rw [e22]; exact hvm) | (simp (disch := decide) only [zpI_ne, e22]; exact hvm)) (by first | exact hvm | (rw [e22]; exact hvm) | (simp (disch := decide) only [zpI_ne, e22]; exact hvm)) (by first | exact hvm | (rw [e22]; exact hvm) | (simp (disch := decide) only [zpI_ne, e22]; exact hvm)) ?_
    refine z_retV H_add_d72 rfl ?_
    simp (disch := decide) only [zpI_ne, zpI_at, Nat.reduceEqDiff, reduceIte, e22, em, nI_1]
    exact ⟨by first | rfl | trivial, hS2, hO1.tr (by repeat (first | exact onlyX.rf | refine onlyX.put rfl ?_))⟩

set_option maxRecDepth 100000 in
set_option maxHeartbeats 4000000 in
theorem xs_mend {g : zG} {d : Nat} {S : zS} {μ : zMem} {n w v : Int32} (hd : 3 ≤ d) (hS : xS S μ) : zM g d X_mend [.ref 1, .int n, .int w, .int v] μ (pO xS onlyX (opMend S n w v) μ) := by
  refine zM_of (by decide +kernel) rfl rfl (Nat.le_of_ble_eq_true rfl) rfl ?_
  obtain ⟨ho, h2, hT, hC, hD, hI, hA, hH⟩ := hS
  have hS : xS S μ := ⟨ho, h2, hT, hC, hD, hI, hA, hH⟩
  have hb := ho.b
  have hv := ho.v
  have hB6 := ho.b6
  have hV12 := ho.v12
  have hz : zq sX μ μ := zq.rf
  refine zb X_mend_s0 rfl ?_
  refine zcallV X_mend_d6 k10_109 (by omega) (x_hasNumber _ _ (by omega) ho) rfl rfl rfl (Nat.le_of_ble_eq_true rfl) ?_
  rintro _ μx ⟨rfl, hx⟩
  rw [hx]
  clear hx μx
  refine z_eq X_mend_d9 (tgt := 24) rfl (fun h9 => ?_) (fun h9 => ?_)
  · refine zb X_mend_s24 rfl ?_
    refine z_ret X_mend_d25 rfl ?_
    unfold opMend
    first
      | (rw [if_pos (fun z => (show ¬ isN S.1 n w from zB_eq0.mp h9) z.1)]; exact ⟨rfl, hS, onlyX.rf⟩)
      | (rw [if_pos (fun z => (show ¬ (leaW w ≤ v ∧ v ≤ mosW S.1 w) from zB_eq0.mp h21) z.2)]; exact ⟨rfl, hS, onlyX.rf⟩)
      | (rw [if_neg (fun z => z ⟨hN, zB_ne0.mp h21⟩)]
         first
           | (rw [if_pos h40]; exact ⟨by rw [h40], hS, onlyX.rf⟩)
           | (rw [if_neg h40]; exact ⟨rfl, hS2, hO1.tr hO2⟩))
  · have hN : isN S.1 n w := zB_ne0.mp h9
    refine zb X_mend_s12 rfl ?_
    refine zcallV X_mend_d18 k10_113 (by omega) (x_allows v (by omega) hN ho) rfl rfl rfl (Nat.le_of_ble_eq_true rfl) ?_
    rintro _ μx ⟨rfl, hx⟩
    rw [hx]
    clear hx μx
    refine z_ne X_mend_d21 (tgt := 26) rfl (fun h21 => ?_) (fun h21 => ?_)
    · refine zb X_mend_s26 rfl ?_
      refine zcallV X_mend_d32 k10_116 (by omega) (x_numberOf (fl := S.2.1.1) (by omega) hN h2.1 ho) rfl rfl rfl (Nat.le_of_ble_eq_true rfl) ?_
      rintro _ μx ⟨rfl, hx⟩
      rw [hx]
      clear hx μx
      refine zb X_mend_s35 rfl ?_
      refine z_ceq X_mend_d40 (tgt := 65) rfl (fun h40 => ?_) (fun h40 => ?_)
      · refine zb X_mend_s65 rfl ?_
        refine z_ret X_mend_d67 rfl ?_
        unfold opMend
        first
          | (rw [if_pos (fun z => (show ¬ isN S.1 n w from zB_eq0.mp h9) z.1)]; exact ⟨rfl, hS, onlyX.rf⟩)
          | (rw [if_pos (fun z => (show ¬ (leaW w ≤ v ∧ v ≤ mosW S.1 w) from zB_eq0.mp h21) z.2)]; exact ⟨rfl, hS, onlyX.rf⟩)
          | (rw [if_neg (fun z => z ⟨hN, zB_ne0.mp h21⟩)]
             first
               | (rw [if_pos h40]; exact ⟨by rw [h40], hS, onlyX.rf⟩)
               | (rw [if_neg h40]; exact ⟨rfl, hS2, hO1.tr hO2⟩))
      · refine zb X_mend_s43 rfl ?_
        refine zcallV X_mend_d50 k10_120 (by omega) (xs_set (by omega) hN hS) rfl rfl rfl (Nat.le_of_ble_eq_true rfl) ?_
        rintro _ μ1 ⟨rfl, hS1, hO1⟩
        refine zb X_mend_s53 rfl ?_
        refine zcallV X_mend_d62 k10_124 (by omega) (xs_add (by omega) hS1) rfl rfl rfl (Nat.le_of_ble_eq_true rfl) ?_
        rintro _ μ2 ⟨rfl, hS2, hO2⟩
        refine zb X_mend_s65 rfl ?_
        refine z_ret X_mend_d67 rfl ?_
        unfold opMend
        first
          | (rw [if_pos (fun z => (show ¬ isN S.1 n w from zB_eq0.mp h9) z.1)]; exact ⟨rfl, hS, onlyX.rf⟩)
          | (rw [if_pos (fun z => (show ¬ (leaW w ≤ v ∧ v ≤ mosW S.1 w) from zB_eq0.mp h21) z.2)]; exact ⟨rfl, hS, onlyX.rf⟩)
          | (rw [if_neg (fun z => z ⟨hN, zB_ne0.mp h21⟩)]
             first
               | (rw [if_pos h40]; exact ⟨by rw [h40], hS, onlyX.rf⟩)
               | (rw [if_neg h40]; exact ⟨rfl, hS2, hO1.tr hO2⟩))
    · refine zb X_mend_s24 rfl ?_
      refine z_ret X_mend_d25 rfl ?_
      unfold opMend
      first
        | (rw [if_pos (fun z => (show ¬ isN S.1 n w from zB_eq0.mp h9) z.1)]; exact ⟨rfl, hS, onlyX.rf⟩)
        | (rw [if_pos (fun z => (show ¬ (leaW w ≤ v ∧ v ≤ mosW S.1 w) from zB_eq0.mp h21) z.2)]; exact ⟨rfl, hS, onlyX.rf⟩)
        | (rw [if_neg (fun z => z ⟨hN, zB_ne0.mp h21⟩)]
           first
             | (rw [if_pos h40]; exact ⟨by rw [h40], hS, onlyX.rf⟩)
             | (rw [if_neg h40]; exact ⟨rfl, hS2, hO1.tr hO2⟩))

set_option maxRecDepth 100000 in
set_option maxHeartbeats 4000000 in
theorem xs_stepBack {g : zG} {d : Nat} {S : zS} {μ : zMem} (hd : 3 ≤ d) (hS : xS S μ) (hok : okC S) (h0 : ¬ (cC S).1.1 = 0) : zM g d H_stepBack [.ref 8, .ref 2] μ (fun r μ' => r = none ∧ xS (opUndo S).2 μ' ∧ onlyX μ μ') := by
  refine zM_of (by decide +kernel) rfl rfl (Nat.le_of_ble_eq_true rfl) rfl ?_
  obtain ⟨ho, h2, hT, hC, hD, hI, hA, hH⟩ := hS
  have hS : xS S μ := ⟨ho, h2, hT, hC, hD, hI, hA, hH⟩
  have hb := ho.b
  have hv := ho.v
  have hB6 := ho.b6
  have hV12 := ho.v12
  have hz : zq sX μ μ := zq.rf
  have hC1 : xC (cC S) μ := hC
  have e22 : μ.1 8 4 = nI (cC S).1.1 := hC1.1.1
  have e23 : μ.1 8 5 = nI (cC S).1.2 := hC1.1.2.1
  have hle := hC1.1.2.2
  have em : nI (cC S).1.1 - 1 = nI ((cC S).1.1 - 1) := by rw [show (1 : Int32) = nI 1 from rfl, pk_sub (by omega)]
  have hvm : vp_in (nI ((cC S).1.1 - 1)) 40 := vp_in_nI (by omega) (by omega)
  have ec : (nI ((cC S).1.1 - 1)).toNatClampNeg = (cC S).1.1 - 1 := nI_clamp (by omega)
  have hS2 := hS.made (m := (cC S).1.1 - 1) (by omega)
  have hk := hok ((cC S).1.1 - 1) (by omega)
  refine zb H_stepBack_s0 rfl ?_
  refine z_le H_stepBack_d4 (tgt := 48) rfl (fun h4 => absurd h4 (by rw [e22]; exact nI_nle (by omega) (by omega))) (fun h4 => ?_)
  refine zb3 H_stepBack_s7 rfl (by simp (disch := decide) only [zpI_ne, zpI_at, Nat.reduceEqDiff, reduceIte, e22, em]; exact hvm) (by simp (disch := decide) only [zpI_ne, zpI_at, Nat.reduceEqDiff, reduceIte, e22, em]; exact hvm) (by simp (disch := decide) only [zpI_ne, zpI_at, Nat.reduceEqDiff, reduceIte, e22, em]; exact hvm) ?_
  simp (disch := decide) only [zpI_ne, zpI_at, Nat.reduceEqDiff, reduceIte, e22, em, ec]
  rw [hC1.2.1, hC1.2.2.1, hC1.2.2.2.1]
  refine zcallV H_stepBack_d45 k2_38 (by omega) (xs_set (S := sC S (chMade (cC S) ((cC S).1.1 - 1))) (by omega) hk.1 hS2) rfl rfl rfl (Nat.le_of_ble_eq_true rfl) ?_
  rintro _ μ1 ⟨rfl, hS3, hO3⟩
  refine z_retV H_stepBack_d48 rfl ?_
  unfold opUndo
  rw [if_neg h0]
  exact ⟨rfl, hS3, (onlyX.put rfl onlyX.rf).tr hO3⟩

set_option maxRecDepth 100000 in
set_option maxHeartbeats 4000000 in
theorem xs_stepOn {g : zG} {d : Nat} {S : zS} {μ : zMem} (hd : 3 ≤ d) (hS : xS S μ) (hok : okC S) (h0 : ¬ (cC S).1.1 = (cC S).1.2) : zM g d H_stepOn [.ref 8, .ref 2] μ (fun r μ' => r = none ∧ xS (opRedo S).2 μ' ∧ onlyX μ μ') := by
  refine zM_of (by decide +kernel) rfl rfl (Nat.le_of_ble_eq_true rfl) rfl ?_
  obtain ⟨ho, h2, hT, hC, hD, hI, hA, hH⟩ := hS
  have hS : xS S μ := ⟨ho, h2, hT, hC, hD, hI, hA, hH⟩
  have hb := ho.b
  have hv := ho.v
  have hB6 := ho.b6
  have hV12 := ho.v12
  have hz : zq sX μ μ := zq.rf
  have hC1 : xC (cC S) μ := hC
  have e22 : μ.1 8 4 = nI (cC S).1.1 := hC1.1.1
  have e23 : μ.1 8 5 = nI (cC S).1.2 := hC1.1.2.1
  have hle := hC1.1.2.2
  have hvm : vp_in (μ.1 8 4) 40 := by rw [e22]; exact vp_in_nI (by omega) (by omega)
  have ec : (nI (cC S).1.1).toNatClampNeg = (cC S).1.1 := nI_clamp (by omega)
  have hk := hok (cC S).1.1 (by omega)
  refine zb H_stepOn_s0 rfl ?_
  refine z_cge H_stepOn_d8 (tgt := 52) rfl (fun h8 => absurd h8 (by rw [e22, e23]; exact nI_ge (by omega) (by omega))) (fun h8 => ?_)
  refine zb3 H_stepOn_s11 rfl hvm hvm hvm ?_
  rw [e22, ec, hC1.2.1, hC1.2.2.1, hC1.2.2.2.2]
  refine zcallV H_stepOn_d39 k2_38 (by omega) (xs_set (by omega) hk.1 hS) rfl rfl rfl (Nat.le_of_ble_eq_true rfl) ?_
  rintro _ μ1 ⟨rfl, hS3, hO3⟩
  have e3 : μ1.1 8 4 = nI (cC S).1.1 := hS3.2.2.2.1.1.1
  refine zb H_stepOn_s42 rfl ?_
  refine z_retV H_stepOn_d52 rfl ?_
  unfold opRedo
  rw [if_neg h0, e3, nI_1]
  exact ⟨rfl, hS3.made (m := (cC S).1.1 + 1) (show (cC S).1.1 + 1 ≤ (cC S).1.2 by omega), hO3.tr (onlyX.put rfl onlyX.rf)⟩

set_option maxRecDepth 100000 in
set_option maxHeartbeats 4000000 in
theorem xs_undo {g : zG} {d : Nat} {S : zS} {μ : zMem} (hd : 4 ≤ d) (hS : xS S μ) (hok : okC S) : zM g d X_undo [.ref 1] μ (pO xS onlyX (opUndo S) μ) := by
  refine zM_of (by decide +kernel) rfl rfl (Nat.le_of_ble_eq_true rfl) rfl ?_
  obtain ⟨ho, h2, hT, hC, hD, hI, hA, hH⟩ := hS
  have hS : xS S μ := ⟨ho, h2, hT, hC, hD, hI, hA, hH⟩
  have hb := ho.b
  have hv := ho.v
  have hB6 := ho.b6
  have hV12 := ho.v12
  have hz : zq sX μ μ := zq.rf
  have hC1 : xC (cC S) μ := hC
  have e22 : μ.1 8 4 = nI (cC S).1.1 := hC1.1.1
  have e23 : μ.1 8 5 = nI (cC S).1.2 := hC1.1.2.1
  have hle := hC1.1.2.2
  refine zb X_undo_s0 rfl ?_
  refine z_ne X_undo_d7 (tgt := 13) rfl (fun h7 => ?_) (fun h7 => ?_)
  · have h0 : ¬ (cC S).1.1 = 0 := fun z => h7 (by rw [e22, z]; rfl)
    refine zb X_undo_s13 rfl ?_
    refine zcallV X_undo_d21 k10_304 (by omega) (xs_stepBack (by omega) hS hok h0) rfl rfl rfl (Nat.le_of_ble_eq_true rfl) ?_
    rintro _ μ1 ⟨rfl, hS1, hO1⟩
    refine zb X_undo_s24 rfl ?_
    refine z_ret X_undo_d31 rfl ?_
    first
      | (have z0 : (cC S).1.1 = 0 := (nI_eq (b := 0) (by omega) (by omega)).mp (e22.symm.trans h7)
         unfold opUndo
         rw [if_pos z0]; exact ⟨rfl, hS, onlyX.rf⟩)
      | (refine ⟨?_, hS1, hO1⟩
         have e : (opUndo S).1 = nI ((cC S).1.1 - 1) := by unfold opUndo; rw [if_neg h0]
         rw [e]
         have hu : (opUndo S).2 = wrS (sC S (chMade (cC S) ((cC S).1.1 - 1))) ((cC S).2.1 ((cC S).1.1 - 1)) ((cC S).2.2.1 ((cC S).1.1 - 1)) ((cC S).2.2.2.1 ((cC S).1.1 - 1)) := by unfold opUndo; rw [if_neg h0]
         rw [hu] at hS1
         have e3 : μ1.1 8 4 = nI ((cC S).1.1 - 1) := hS1.2.2.2.1.1.1
         exact congrArg (fun z => some (Value.int z)) e3)
  · refine zb X_undo_s10 rfl ?_
    refine z_ret X_undo_d12 rfl ?_
    first
      | (have z0 : (cC S).1.1 = 0 := (nI_eq (b := 0) (by omega) (by omega)).mp (e22.symm.trans h7)
         unfold opUndo
         rw [if_pos z0]; exact ⟨rfl, hS, onlyX.rf⟩)
      | (refine ⟨?_, hS1, hO1⟩
         have e : (opUndo S).1 = nI ((cC S).1.1 - 1) := by unfold opUndo; rw [if_neg h0]
         rw [e]
         have hu : (opUndo S).2 = wrS (sC S (chMade (cC S) ((cC S).1.1 - 1))) ((cC S).2.1 ((cC S).1.1 - 1)) ((cC S).2.2.1 ((cC S).1.1 - 1)) ((cC S).2.2.2.1 ((cC S).1.1 - 1)) := by unfold opUndo; rw [if_neg h0]
         rw [hu] at hS1
         have e3 : μ1.1 8 4 = nI ((cC S).1.1 - 1) := hS1.2.2.2.1.1.1
         exact congrArg (fun z => some (Value.int z)) e3)

set_option maxRecDepth 100000 in
set_option maxHeartbeats 4000000 in
theorem xs_redo {g : zG} {d : Nat} {S : zS} {μ : zMem} (hd : 4 ≤ d) (hS : xS S μ) (hok : okC S) : zM g d X_redo [.ref 1] μ (pO xS onlyX (opRedo S) μ) := by
  refine zM_of (by decide +kernel) rfl rfl (Nat.le_of_ble_eq_true rfl) rfl ?_
  obtain ⟨ho, h2, hT, hC, hD, hI, hA, hH⟩ := hS
  have hS : xS S μ := ⟨ho, h2, hT, hC, hD, hI, hA, hH⟩
  have hb := ho.b
  have hv := ho.v
  have hB6 := ho.b6
  have hV12 := ho.v12
  have hz : zq sX μ μ := zq.rf
  have hC1 : xC (cC S) μ := hC
  have e22 : μ.1 8 4 = nI (cC S).1.1 := hC1.1.1
  have e23 : μ.1 8 5 = nI (cC S).1.2 := hC1.1.2.1
  have hle := hC1.1.2.2
  refine zb X_redo_s0 rfl ?_
  refine z_cne X_redo_d14 (tgt := 20) rfl (fun h14 => ?_) (fun h14 => ?_)
  · have h0 : ¬ (cC S).1.1 = (cC S).1.2 := fun z => h14 (by rw [e22, e23, z])
    refine zb X_redo_s20 rfl ?_
    refine zcallV X_redo_d28 k10_310 (by omega) (xs_stepOn (by omega) hS hok h0) rfl rfl rfl (Nat.le_of_ble_eq_true rfl) ?_
    rintro _ μ1 ⟨rfl, hS1, hO1⟩
    refine zb X_redo_s31 rfl ?_
    refine z_ret X_redo_d46 rfl ?_
    first
      | (have z0 : (cC S).1.1 = (cC S).1.2 := (nI_eq (by omega) (by omega)).mp (e22.symm.trans (h14.trans e23))
         unfold opRedo
         rw [if_pos z0]; exact ⟨rfl, hS, onlyX.rf⟩)
      | (refine ⟨?_, hS1, hO1⟩
         have e : (opRedo S).1 = nI ((cC S).1.2 - ((cC S).1.1 + 1)) := by unfold opRedo; rw [if_neg h0]
         rw [e]
         have hu : (opRedo S).2 = wrS (sC S (chMade (cC S) ((cC S).1.1 + 1))) ((cC S).2.1 (cC S).1.1) ((cC S).2.2.1 (cC S).1.1) ((cC S).2.2.2.2 (cC S).1.1) := by unfold opRedo; rw [if_neg h0]
         rw [hu] at hS1
         have e3 : μ1.1 8 4 = nI ((cC S).1.1 + 1) := hS1.2.2.2.1.1.1
         have e4 : μ1.1 8 5 = nI (cC S).1.2 := hS1.2.2.2.1.1.2.1
         rw [e3, e4, pk_sub (by omega)])
  · refine zb X_redo_s17 rfl ?_
    refine z_ret X_redo_d19 rfl ?_
    first
      | (have z0 : (cC S).1.1 = (cC S).1.2 := (nI_eq (by omega) (by omega)).mp (e22.symm.trans (h14.trans e23))
         unfold opRedo
         rw [if_pos z0]; exact ⟨rfl, hS, onlyX.rf⟩)
      | (refine ⟨?_, hS1, hO1⟩
         have e : (opRedo S).1 = nI ((cC S).1.2 - ((cC S).1.1 + 1)) := by unfold opRedo; rw [if_neg h0]
         rw [e]
         have hu : (opRedo S).2 = wrS (sC S (chMade (cC S) ((cC S).1.1 + 1))) ((cC S).2.1 (cC S).1.1) ((cC S).2.2.1 (cC S).1.1) ((cC S).2.2.2.2 (cC S).1.1) := by unfold opRedo; rw [if_neg h0]
         rw [hu] at hS1
         have e3 : μ1.1 8 4 = nI ((cC S).1.1 + 1) := hS1.2.2.2.1.1.1
         have e4 : μ1.1 8 5 = nI (cC S).1.2 := hS1.2.2.2.1.1.2.1
         rw [e3, e4, pk_sub (by omega)])

set_option maxRecDepth 100000 in
set_option maxHeartbeats 4000000 in
theorem xs_of {g : zG} {d : Nat} {S : zS} {μ : zMem} {n w : Int32} (hd : 3 ≤ d) (hS : xS S μ) : zM g d X_of [.ref 1, .int n, .int w] μ (pO xS onlyX ((opOf S n w, S)) μ) := by
  refine zM_of (by decide +kernel) rfl rfl (Nat.le_of_ble_eq_true rfl) rfl ?_
  obtain ⟨ho, h2, hT, hC, hD, hI, hA, hH⟩ := hS
  have hS : xS S μ := ⟨ho, h2, hT, hC, hD, hI, hA, hH⟩
  have hb := ho.b
  have hv := ho.v
  have hB6 := ho.b6
  have hV12 := ho.v12
  have hz : zq sX μ μ := zq.rf
  refine zb X_of_s0 rfl ?_
  refine z_cne X_of_d3 (tgt := 40) rfl (fun h3 => ?_) (fun h3 => ?_)
  · refine zb X_of_s40 rfl ?_
    refine z_cne X_of_d43 (tgt := 62) rfl (fun h43 => ?_) (fun h43 => ?_)
    · refine zb X_of_s62 rfl ?_
      refine zcallV X_of_d68 k10_109 (by omega) (x_hasNumber _ _ (by omega) ho) rfl rfl rfl (Nat.le_of_ble_eq_true rfl) ?_
      rintro _ μx ⟨rfl, hx⟩
      rw [hx]
      clear hx μx
      refine z_eq X_of_d71 (tgt := 86) rfl (fun h71 => ?_) (fun h71 => ?_)
      · refine zb X_of_s86 rfl ?_
        refine z_ret X_of_d87 rfl ?_
        refine ⟨?_, hS, onlyX.rf⟩
        unfold opOf
        first
          | (rw [if_pos (show w = 10 ∧ isV S.1 (nI q) from And.intro h3 g1), eq, ← h2.2]; exact congrArg (fun z => some (Value.int z)) (zB_cong zB_ne0))
          | (have hn : ¬ isV S.1 n := zB_eq0.mp h14
             have h10 : w = 10 := h3
             rw [if_neg (fun z => hn z.2), if_neg (fun z => by rw [h10] at z; exact absurd z.1 (by decide)), if_neg (fun z => by
               rw [h10] at z
               rcases z with z | z | z
               · exact absurd z.1.2 (by decide)
               · exact absurd z.1.2 (by decide)
               · exact absurd z.1 (by decide))])
          | (have h10 : ¬ w = 10 := h3
             rw [if_neg (fun z => h10 z.1)]
             first
               | (rw [if_pos (show w = 11 ∧ n = 0 from And.intro h43 h47)]; exact congrArg (fun z => some (Value.int z)) h2.2)
               | (rw [if_neg (show ¬ (w = 11 ∧ n = 0) from fun z => h47 z.2), if_neg (fun z => by
                    have h11 : w = 11 := h43
                    rw [h11] at z
                    rcases z with z | z | z
                    · exact absurd z.1.2 (by decide)
                    · exact absurd z.1.2 (by decide)
                    · exact absurd z.1 (by decide))])
               | (rw [if_neg (show ¬ (w = 11 ∧ n = 0) from fun z => h43 z.1)]
                  first
                    | rw [if_pos hN]
                    | rw [if_neg (show ¬ isN S.1 n w from zB_eq0.mp h71)]))
      · have hN : isN S.1 n w := zB_ne0.mp h71
        refine zb X_of_s74 rfl ?_
        refine zcallV X_of_d80 k10_116 (by omega) (x_numberOf (fl := S.2.1.1) (by omega) hN h2.1 ho) rfl rfl rfl (Nat.le_of_ble_eq_true rfl) ?_
        rintro _ μx ⟨rfl, hx⟩
        rw [hx]
        clear hx μx
        refine zb X_of_s83 rfl ?_
        refine z_ret X_of_d87 rfl ?_
        refine ⟨?_, hS, onlyX.rf⟩
        unfold opOf
        first
          | (rw [if_pos (show w = 10 ∧ isV S.1 (nI q) from And.intro h3 g1), eq, ← h2.2]; exact congrArg (fun z => some (Value.int z)) (zB_cong zB_ne0))
          | (have hn : ¬ isV S.1 n := zB_eq0.mp h14
             have h10 : w = 10 := h3
             rw [if_neg (fun z => hn z.2), if_neg (fun z => by rw [h10] at z; exact absurd z.1 (by decide)), if_neg (fun z => by
               rw [h10] at z
               rcases z with z | z | z
               · exact absurd z.1.2 (by decide)
               · exact absurd z.1.2 (by decide)
               · exact absurd z.1 (by decide))])
          | (have h10 : ¬ w = 10 := h3
             rw [if_neg (fun z => h10 z.1)]
             first
               | (rw [if_pos (show w = 11 ∧ n = 0 from And.intro h43 h47)]; exact congrArg (fun z => some (Value.int z)) h2.2)
               | (rw [if_neg (show ¬ (w = 11 ∧ n = 0) from fun z => h47 z.2), if_neg (fun z => by
                    have h11 : w = 11 := h43
                    rw [h11] at z
                    rcases z with z | z | z
                    · exact absurd z.1.2 (by decide)
                    · exact absurd z.1.2 (by decide)
                    · exact absurd z.1 (by decide))])
               | (rw [if_neg (show ¬ (w = 11 ∧ n = 0) from fun z => h43 z.1)]
                  first
                    | rw [if_pos hN]
                    | rw [if_neg (show ¬ isN S.1 n w from zB_eq0.mp h71)]))
    · refine zb X_of_s46 rfl ?_
      refine z_ne X_of_d47 (tgt := 60) rfl (fun h47 => ?_) (fun h47 => ?_)
      · refine zb X_of_s60 rfl ?_
        refine z_ret X_of_d61 rfl ?_
        refine ⟨?_, hS, onlyX.rf⟩
        unfold opOf
        first
          | (rw [if_pos (show w = 10 ∧ isV S.1 (nI q) from And.intro h3 g1), eq, ← h2.2]; exact congrArg (fun z => some (Value.int z)) (zB_cong zB_ne0))
          | (have hn : ¬ isV S.1 n := zB_eq0.mp h14
             have h10 : w = 10 := h3
             rw [if_neg (fun z => hn z.2), if_neg (fun z => by rw [h10] at z; exact absurd z.1 (by decide)), if_neg (fun z => by
               rw [h10] at z
               rcases z with z | z | z
               · exact absurd z.1.2 (by decide)
               · exact absurd z.1.2 (by decide)
               · exact absurd z.1 (by decide))])
          | (have h10 : ¬ w = 10 := h3
             rw [if_neg (fun z => h10 z.1)]
             first
               | (rw [if_pos (show w = 11 ∧ n = 0 from And.intro h43 h47)]; exact congrArg (fun z => some (Value.int z)) h2.2)
               | (rw [if_neg (show ¬ (w = 11 ∧ n = 0) from fun z => h47 z.2), if_neg (fun z => by
                    have h11 : w = 11 := h43
                    rw [h11] at z
                    rcases z with z | z | z
                    · exact absurd z.1.2 (by decide)
                    · exact absurd z.1.2 (by decide)
                    · exact absurd z.1 (by decide))])
               | (rw [if_neg (show ¬ (w = 11 ∧ n = 0) from fun z => h43 z.1)]
                  first
                    | rw [if_pos hN]
                    | rw [if_neg (show ¬ isN S.1 n w from zB_eq0.mp h71)]))
      · refine zb X_of_s50 rfl ?_
        refine z_ret X_of_d61 rfl ?_
        refine ⟨?_, hS, onlyX.rf⟩
        unfold opOf
        first
          | (rw [if_pos (show w = 10 ∧ isV S.1 (nI q) from And.intro h3 g1), eq, ← h2.2]; exact congrArg (fun z => some (Value.int z)) (zB_cong zB_ne0))
          | (have hn : ¬ isV S.1 n := zB_eq0.mp h14
             have h10 : w = 10 := h3
             rw [if_neg (fun z => hn z.2), if_neg (fun z => by rw [h10] at z; exact absurd z.1 (by decide)), if_neg (fun z => by
               rw [h10] at z
               rcases z with z | z | z
               · exact absurd z.1.2 (by decide)
               · exact absurd z.1.2 (by decide)
               · exact absurd z.1 (by decide))])
          | (have h10 : ¬ w = 10 := h3
             rw [if_neg (fun z => h10 z.1)]
             first
               | (rw [if_pos (show w = 11 ∧ n = 0 from And.intro h43 h47)]; exact congrArg (fun z => some (Value.int z)) h2.2)
               | (rw [if_neg (show ¬ (w = 11 ∧ n = 0) from fun z => h47 z.2), if_neg (fun z => by
                    have h11 : w = 11 := h43
                    rw [h11] at z
                    rcases z with z | z | z
                    · exact absurd z.1.2 (by decide)
                    · exact absurd z.1.2 (by decide)
                    · exact absurd z.1 (by decide))])
               | (rw [if_neg (show ¬ (w = 11 ∧ n = 0) from fun z => h43 z.1)]
                  first
                    | rw [if_pos hN]
                    | rw [if_neg (show ¬ isN S.1 n w from zB_eq0.mp h71)]))
  · refine zb X_of_s6 rfl ?_
    refine zcallV X_of_d11 k10_128 (by omega) (x_hasVow _ ho) rfl rfl rfl (Nat.le_of_ble_eq_true rfl) ?_
    rintro _ μx ⟨rfl, hx⟩
    rw [hx]
    clear hx μx
    refine z_eq X_of_d14 (tgt := 38) rfl (fun h14 => ?_) (fun h14 => ?_)
    · refine zb X_of_s38 rfl ?_
      refine z_ret X_of_d39 rfl ?_
      refine ⟨?_, hS, onlyX.rf⟩
      unfold opOf
      first
        | (rw [if_pos (show w = 10 ∧ isV S.1 (nI q) from And.intro h3 g1), eq, ← h2.2]; exact congrArg (fun z => some (Value.int z)) (zB_cong zB_ne0))
        | (have hn : ¬ isV S.1 n := zB_eq0.mp h14
           have h10 : w = 10 := h3
           rw [if_neg (fun z => hn z.2), if_neg (fun z => by rw [h10] at z; exact absurd z.1 (by decide)), if_neg (fun z => by
             rw [h10] at z
             rcases z with z | z | z
             · exact absurd z.1.2 (by decide)
             · exact absurd z.1.2 (by decide)
             · exact absurd z.1 (by decide))])
        | (have h10 : ¬ w = 10 := h3
           rw [if_neg (fun z => h10 z.1)]
           first
             | (rw [if_pos (show w = 11 ∧ n = 0 from And.intro h43 h47)]; exact congrArg (fun z => some (Value.int z)) h2.2)
             | (rw [if_neg (show ¬ (w = 11 ∧ n = 0) from fun z => h47 z.2), if_neg (fun z => by
                  have h11 : w = 11 := h43
                  rw [h11] at z
                  rcases z with z | z | z
                  · exact absurd z.1.2 (by decide)
                  · exact absurd z.1.2 (by decide)
                  · exact absurd z.1 (by decide))])
             | (rw [if_neg (show ¬ (w = 11 ∧ n = 0) from fun z => h43 z.1)]
                first
                  | rw [if_pos hN]
                  | rw [if_neg (show ¬ isN S.1 n w from zB_eq0.mp h71)]))
    · have g1 : isV S.1 n := zB_ne0.mp h14
      obtain ⟨q, hq, rfl, eq⟩ := zix g1.1 g1.2 (by omega)
      refine zb X_of_s17 rfl ?_
      refine zcallV X_of_d29 k10_134 (by omega) (x_isKept _ (by omega) ho) rfl rfl rfl (Nat.le_of_ble_eq_true rfl) ?_
      rintro _ μx ⟨rfl, hx⟩
      rw [hx]
      clear hx μx
      refine zcallS X_of_d32 k10_137 (by omega) (x_bit _) rfl rfl (Nat.le_of_ble_eq_true rfl) ?_
      rintro _ μx ⟨rfl, hx⟩
      rw [hx]
      clear hx μx
      refine zb X_of_s35 rfl ?_
      refine z_ret X_of_d39 rfl ?_
      refine ⟨?_, hS, onlyX.rf⟩
      unfold opOf
      first
        | (rw [if_pos (show w = 10 ∧ isV S.1 (nI q) from And.intro h3 g1), eq, ← h2.2]; exact congrArg (fun z => some (Value.int z)) (zB_cong zB_ne0))
        | (have hn : ¬ isV S.1 n := zB_eq0.mp h14
           have h10 : w = 10 := h3
           rw [if_neg (fun z => hn z.2), if_neg (fun z => by rw [h10] at z; exact absurd z.1 (by decide)), if_neg (fun z => by
             rw [h10] at z
             rcases z with z | z | z
             · exact absurd z.1.2 (by decide)
             · exact absurd z.1.2 (by decide)
             · exact absurd z.1 (by decide))])
        | (have h10 : ¬ w = 10 := h3
           rw [if_neg (fun z => h10 z.1)]
           first
             | (rw [if_pos (show w = 11 ∧ n = 0 from And.intro h43 h47)]; exact congrArg (fun z => some (Value.int z)) h2.2)
             | (rw [if_neg (show ¬ (w = 11 ∧ n = 0) from fun z => h47 z.2), if_neg (fun z => by
                  have h11 : w = 11 := h43
                  rw [h11] at z
                  rcases z with z | z | z
                  · exact absurd z.1.2 (by decide)
                  · exact absurd z.1.2 (by decide)
                  · exact absurd z.1 (by decide))])
             | (rw [if_neg (show ¬ (w = 11 ∧ n = 0) from fun z => h43 z.1)]
                first
                  | rw [if_pos hN]
                  | rw [if_neg (show ¬ isN S.1 n w from zB_eq0.mp h71)]))

set_option maxRecDepth 100000 in
set_option maxHeartbeats 4000000 in
theorem x_radd {g : zG} {d : Nat} {S : zS} {μ : zMem} {b : Int32} (hS : xS S μ) : zM g d R_add [.ref 3, .int b] μ (fun r μ' => (¬ (tT S).1 < 120 ∧ r = some (.int 0) ∧ μ' = μ) ∨ ((tT S).1 < 120 ∧ r = some (.int 1) ∧ xS (sTp S ((tT S).1 + 1, fu (tT S).2 (tT S).1 b)) μ' ∧ onlyX μ μ')) := by
  refine zM_of (by decide +kernel) rfl rfl (Nat.le_of_ble_eq_true rfl) rfl ?_
  obtain ⟨ho, h2, hT, hC, hD, hI, hA, hH⟩ := hS
  have hS : xS S μ := ⟨ho, h2, hT, hC, hD, hI, hA, hH⟩
  have hb := ho.b
  have hv := ho.v
  have hB6 := ho.b6
  have hV12 := ho.v12
  have hz : zq sX μ μ := zq.rf
  have eT : μ.1 3 1 = nI (tT S).1 := hT.1
  have hle : (tT S).1 ≤ 120 := hT.2.1
  have e61 : μ.1 61 = (tT S).2 := hT.2.2
  refine zb R_add_s0 rfl ?_
  refine z_clt R_add_d6 (tgt := 11) rfl (fun h6 => ?_) (fun h6 => ?_)
  · have hlt : (tT S).1 < 120 := by rw [eT] at h6; exact (nI_ltI (b := 120) (by omega) (by omega)).mp h6
    have hvm : vp_in (μ.1 3 1) 120 := by rw [eT]; exact vp_in_nI hlt (by omega)
    refine zb1 R_add_s11 rfl hvm ?_
    refine z_retZ R_add_d32 rfl (by first | exact Or.inl rfl | exact Or.inr rfl) ?_
    first
      | (simp (disch := decide) only [zpI_ne, zpI_at, Nat.reduceEqDiff, reduceIte, eT, nI_clamp (show (tT S).1 < 2 ^ 31 by omega), nI_1]
         have ho1 : oX S.1 (zpI (zpI μ 61 (tT S).1 b) 3 1 (nI ((tT S).1 + 1))) := ⟨ho.1, ho.2.1, ho.2.2⟩
         refine Or.inr ⟨hlt, by first | rfl | trivial, ⟨ho1, h2, ⟨rfl, ?_, ?_⟩, hC, hD, hI, hA, (by repeat (first | exact hH | refine xH.put (by decide) ?_))⟩, (by repeat (first | exact onlyX.rf | refine onlyX.put rfl ?_))⟩
         · show (tT S).1 + 1 ≤ 120
           omega
         · show _ = fu (tT S).2 (tT S).1 b
           rw [← e61]
           rfl)
      | (rw [eT] at h6
         exact Or.inl ⟨fun z => h6 (nI_lt (b := 120) z (by omega)), rfl, rfl⟩)
  · refine zb R_add_s9 rfl ?_
    refine z_retZ R_add_d10 rfl (by first | exact Or.inl rfl | exact Or.inr rfl) ?_
    first
      | (simp (disch := decide) only [zpI_ne, zpI_at, Nat.reduceEqDiff, reduceIte, eT, nI_clamp (show (tT S).1 < 2 ^ 31 by omega), nI_1]
         have ho1 : oX S.1 (zpI (zpI μ 61 (tT S).1 b) 3 1 (nI ((tT S).1 + 1))) := ⟨ho.1, ho.2.1, ho.2.2⟩
         refine Or.inr ⟨hlt, by first | rfl | trivial, ⟨ho1, h2, ⟨rfl, ?_, ?_⟩, hC, hD, hI, hA, (by repeat (first | exact hH | refine xH.put (by decide) ?_))⟩, (by repeat (first | exact onlyX.rf | refine onlyX.put rfl ?_))⟩
         · show (tT S).1 + 1 ≤ 120
           omega
         · show _ = fu (tT S).2 (tT S).1 b
           rw [← e61]
           rfl)
      | (rw [eT] at h6
         exact Or.inl ⟨fun z => h6 (nI_lt (b := 120) z (by omega)), rfl, rfl⟩)

set_option maxRecDepth 100000 in
set_option maxHeartbeats 4000000 in
theorem xs_feed {g : zG} {d : Nat} {S : zS} {μ : zMem} {b : Int32} (hd : 1 ≤ d) (hS : xS S μ) : zM g d X_feed [.ref 1, .int b] μ (pO xS onlyX (opFeed S b) μ) := by
  refine zM_of (by decide +kernel) rfl rfl (Nat.le_of_ble_eq_true rfl) rfl ?_
  obtain ⟨ho, h2, hT, hC, hD, hI, hA, hH⟩ := hS
  have hS : xS S μ := ⟨ho, h2, hT, hC, hD, hI, hA, hH⟩
  have hb := ho.b
  have hv := ho.v
  have hB6 := ho.b6
  have hV12 := ho.v12
  have hz : zq sX μ μ := zq.rf
  have hle : (tT S).1 ≤ 120 := hT.2.1
  refine zb X_feed_s0 rfl ?_
  refine z_lt X_feed_d1 (tgt := 11) rfl (fun h1 => ?_) (fun h1 => ?_)
  · refine zb X_feed_s11 rfl ?_
    refine z_ret X_feed_d12 rfl ?_
    unfold opFeed
    first
      | (rw [if_pos (fun z => absurd h1 (Int32.not_lt.mpr z.1))]; exact ⟨rfl, hS, onlyX.rf⟩)
      | (rw [if_neg (fun z => z ⟨Int32.not_lt.mp h1, h8⟩), if_neg (show ¬ (tT S).1 = 120 by omega)]
         exact ⟨congrArg (fun z => some (Value.int z)) hS1.2.2.1.1, hS1, hO1⟩)
      | (rw [if_pos (fun z => h8 z.2)]; exact ⟨rfl, hS, onlyX.rf⟩)
  · refine zb X_feed_s4 rfl ?_
    refine z_cle X_feed_d8 (tgt := 13) rfl (fun h8 => ?_) (fun h8 => ?_)
    · refine zb X_feed_s13 rfl ?_
      refine zcallV X_feed_d18 k10_141 (by omega) (x_radd hS) rfl rfl rfl (Nat.le_of_ble_eq_true rfl) ?_
      rintro _ μ1 (⟨hn, rfl, rfl⟩ | ⟨hlt, rfl, hS1, hO1⟩)
      · refine z_eq X_feed_d21 (tgt := 34) rfl (fun h21 => ?_) (fun h21 => absurd rfl h21)
        refine zb X_feed_s34 rfl ?_
        refine z_ret X_feed_d36 rfl ?_
        unfold opFeed
        rw [if_neg (fun z => z ⟨Int32.not_lt.mp h1, h8⟩), if_pos (show (tT S).1 = 120 by omega)]
        exact ⟨rfl, hS, onlyX.rf⟩
      refine z_eq X_feed_d21 (tgt := 34) rfl (fun h21 => absurd h21 (by decide)) (fun h21 => ?_)
      refine zb X_feed_s24 rfl ?_
      refine z_ret X_feed_d36 rfl ?_
      unfold opFeed
      first
        | (rw [if_pos (fun z => absurd h1 (Int32.not_lt.mpr z.1))]; exact ⟨rfl, hS, onlyX.rf⟩)
        | (rw [if_neg (fun z => z ⟨Int32.not_lt.mp h1, h8⟩), if_neg (show ¬ (tT S).1 = 120 by omega)]
           exact ⟨congrArg (fun z => some (Value.int z)) hS1.2.2.1.1, hS1, hO1⟩)
        | (rw [if_pos (fun z => h8 z.2)]; exact ⟨rfl, hS, onlyX.rf⟩)
    · refine zb X_feed_s11 rfl ?_
      refine z_ret X_feed_d12 rfl ?_
      unfold opFeed
      first
        | (rw [if_pos (fun z => absurd h1 (Int32.not_lt.mpr z.1))]; exact ⟨rfl, hS, onlyX.rf⟩)
        | (rw [if_neg (fun z => z ⟨Int32.not_lt.mp h1, h8⟩), if_neg (show ¬ (tT S).1 = 120 by omega)]
           exact ⟨congrArg (fun z => some (Value.int z)) hS1.2.2.1.1, hS1, hO1⟩)
        | (rw [if_pos (fun z => h8 z.2)]; exact ⟨rfl, hS, onlyX.rf⟩)
