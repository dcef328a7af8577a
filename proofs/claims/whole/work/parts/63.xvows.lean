/-! the class: vows from a row -/
theorem voL_s (c : Nat → Int32) (m k q came : Nat) (F : zF) : voL c m (k + 1) q came F = if m < q + 3 ∨ fV F = 12 then (came, F) else if isB F (c q) ∧ (1 ≤ c (q + 1) ∧ c (q + 1) ≤ 9) ∧ (0 ≤ c (q + 2) ∧ c (q + 2) ≤ 5) then voL c m k (q + 3) (came + 1) (fnV F (c q) (c (q + 1)) (c (q + 2))) else (came, F) := rfl
theorem xS_hc {S : zS} {μ : zMem} {s : Nat} (hS : xS S μ) (hs : s < 6) : ∀ t, t < 60 → (μ.2.1 (19 + s) t).toInt32 = hInt S s t := fun t ht => congrArg Int64.toInt32 ((hS.2.2.2.2.2.2.2 s hs).2 t ht)
theorem xS_hz {S : zS} {μ : zMem} {s : Nat} (hS : xS S μ) (hs : s < 6) (h2 : hHeld S s = 2) : μ.1 (13 + s) 3 = hSize S s := by
  have hH : xH (zH S) μ := hS.2.2.2.2.2.2.2
  rcases (hH s hs).1 with z | z | z
  · exact absurd (h2.symm.trans z.1) (by decide)
  · exact absurd (h2.symm.trans z.1) (by decide)
  · exact z.2.2.2
theorem voF_s (S : zS) (F : zF) (s : Nat) : hHeld (sF S F) s = hHeld S s ∧ hSize (sF S F) s = hSize S s ∧ hInt (sF S F) s = hInt S s := ⟨rfl, rfl, rfl⟩

set_option maxRecDepth 100000 in
set_option maxHeartbeats 4000000 in
theorem w_vowsF_0 {g : zG} {d : Nat} {S : zS} {μ0 : zMem} {m N a : Nat} {R : Nat × zF} (hd : 2 ≤ d) (h2s : hHeld S 0 = 2) (hm : m ≤ 60) (em : hSize S 0 = nI m) (hN : N ≤ 12) (ha : a < 2 ^ 31) : ∀ (j i : Nat) (F : zF) (x6 : Option Value) (x7 : Option Value) (x8 : Option Value) (x9 : Option Value) (x10 : Option Value) (x11 : Option Value) (μ : zMem), i + j = N → (xS (sF S F) μ) → (onlyX μ0 μ) → (voL (hInt S 0) m j (a + 3 * i) i F = R) → zW g X_vowsFrom d 6 [some (.ref 1), some (.ref 13), some (.int (nI a)), some (.int (nI N)), some (.int (nI i)), some (.int (nI i)), x6, x7, x8, x9, x10, x11] [] μ (pO xS onlyX (nI R.1, sF S R.2) μ0) := by
  intro j
  induction j with
  | zero =>
    intro i F x6 x7 x8 x9 x10 x11 μ hi  hv0 hv1 hv2
    have ho : oX F μ := hv0.1
    have hvv := ho.v
    have h12 := ho.v12
    have h6 := ho.b6
    have hsz : μ.1 13 3 = nI m := (xS_hz (S := sF S F) (s := 0) hv0 (by omega) h2s).trans em
    have hce : ∀ t, t < 60 → (μ.2.1 19 t).toInt32 = hInt S 0 t := fun t ht => xS_hc (S := sF S F) (s := 0) hv0 (by omega) t ht
    have hi : N = i := by omega
    subst hi
    refine zb X_vowsFrom_s6 rfl ?_
    refine z_cge X_vowsFrom_d9 (tgt := 142) rfl (fun h9 => ?_) (fun h9 => absurd (Int32.le_refl _) h9)
    refine zb X_vowsFrom_s142 rfl ?_
    refine z_ret X_vowsFrom_d144 rfl ?_
    rw [← hv2]
    exact ⟨rfl, hv0, hv1⟩
  | succ j ih =>
    intro i F x6 x7 x8 x9 x10 x11 μ hi  hv0 hv1 hv2
    have ho : oX F μ := hv0.1
    have hvv := ho.v
    have h12 := ho.v12
    have h6 := ho.b6
    have hsz : μ.1 13 3 = nI m := (xS_hz (S := sF S F) (s := 0) hv0 (by omega) h2s).trans em
    have hce : ∀ t, t < 60 → (μ.2.1 19 t).toInt32 = hInt S 0 t := fun t ht => xS_hc (S := sF S F) (s := 0) hv0 (by omega) t ht
    have hilt : i < N := by omega
    have ei : (nI i).toNatClampNeg = i := nI_clamp (by omega)
    rw [voL_s] at hv2
    have hpl : (nI a).toInt64 + 3 * (nI i).toInt64 = Int64.ofNat (a + 3 * i) := by
      rw [lI_of ha, lI_of (by omega), show (3 : Int64) = Int64.ofNat 3 from rfl, lI_mul, lI_add]
    have hszL : (nI m).toInt64 = Int64.ofNat m := lI_of (by omega)
    refine zb X_vowsFrom_s6 rfl ?_
    refine z_cge X_vowsFrom_d9 (tgt := 142) rfl (fun h9 => absurd h9 (show ¬ nI N ≤ nI i from nI_ge hilt (by omega))) (fun h9 => ?_)
    refine zb X_vowsFrom_s12 rfl ?_
    refine z_cge X_vowsFrom_d21 (tgt := 142) rfl (fun h21 => ?_) (fun h21 => ?_)
    · refine zb X_vowsFrom_s142 rfl ?_
      refine z_ret X_vowsFrom_d144 rfl ?_
      first
        | (have hV12 : fV F = 12 := by
             rw [hvv] at h21
             have := (nI_leI (a := 12) (by omega) (by omega)).mp h21
             omega
           rw [if_pos (show m < a + 3 * i + 3 ∨ fV F = 12 from Or.inr hV12)] at hv2
           rw [← hv2]
           exact ⟨rfl, hv0, hv1⟩)
        | (have hq : m < a + 3 * i + 3 := Nat.lt_of_not_le (fun z => h55 ((lg_cmp_le _ _).mpr ((lI_le (by omega) (by omega)).mpr z)))
           rw [if_pos (show m < a + 3 * i + 3 ∨ fV F = 12 from Or.inl hq)] at hv2
           rw [← hv2]
           exact ⟨rfl, hv0, hv1⟩)
        | (rw [if_neg (zB_eq0.mp h113)] at hv2
           rw [← hv2]
           exact ⟨rfl, hv0, hv1⟩)
    · have hV : fV F < 12 := by
        rw [hvv] at h21
        exact (nI_ltI (b := 12) (by omega) (by omega)).mp (Int32.not_le.mp h21)
      refine zb X_vowsFrom_s24 rfl ?_
      rw [show zlc 0 = (3 : Int64) from rfl, hpl]
      refine z_lt X_vowsFrom_d40 (tgt := 142) rfl (fun h40 => absurd ((lg_cmp_lt _ _).mp h40) (fun z => by have := (lI_lt (b := 0) (by omega) (by omega)).mp z; omega)) (fun h40 => ?_)
      refine zb X_vowsFrom_s43 rfl ?_
      rw [show zlc 0 = Int64.ofNat 3 from rfl, lI_add, hsz, hszL]
      refine z_le X_vowsFrom_d55 (tgt := 61) rfl (fun h55 => ?_) (fun h55 => ?_)
      · have hq3 : a + 3 * i + 3 ≤ m := (lI_le (by omega) (by omega)).mp ((lg_cmp_le _ _).mp h55)
        have eq0 : (Int64.ofNat (a + 3 * i)).toInt32 = nI (a + 3 * i) := lI_int (by omega)
        have c0 : (nI (a + 3 * i)).toNatClampNeg = a + 3 * i := nI_clamp (by omega)
        have c1 : (nI (a + 3 * i + 1)).toNatClampNeg = a + 3 * i + 1 := nI_clamp (by omega)
        have c2 : nI (a + 3 * i) + 2 = nI (a + 3 * i + 2) := by rw [show (2 : Int32) = nI 2 from rfl, nI_add]
        have c3 : (nI (a + 3 * i + 2)).toNatClampNeg = a + 3 * i + 2 := nI_clamp (by omega)
        have hp0 := hce (a + 3 * i) (by omega)
        have hp1 := hce (a + 3 * i + 1) (by omega)
        have hp2 := hce (a + 3 * i + 2) (by omega)
        have hv0i : vp_in (nI (a + 3 * i)) 60 := vp_in_nI (by omega) (by omega)
        have hv1i : vp_in (nI (a + 3 * i + 1)) 60 := vp_in_nI (by omega) (by omega)
        have hv2i : vp_in (nI (a + 3 * i + 2)) 60 := vp_in_nI (by omega) (by omega)
        rw [if_neg (show ¬ (m < a + 3 * i + 3 ∨ fV F = 12) from fun z => by omega)] at hv2
        refine zb3 X_vowsFrom_s61 rfl (by rw [eq0]; exact hv0i) (by rw [eq0, nI_1]; exact hv1i) (by rw [eq0, c2]; exact hv2i) ?_
        rw [eq0, nI_1, c2, c0, c1, c3, hp0, hp1, hp2]
        refine zcallV X_vowsFrom_d110 k10_82 (by omega) (x_isVow _ _ _ (by omega) ho) rfl rfl rfl (Nat.le_of_ble_eq_true rfl) ?_
        rintro _ μx ⟨rfl, hx⟩
        rw [hx]
        clear hx μx
        refine z_ne X_vowsFrom_d113 (tgt := 119) rfl (fun h113 => ?_) (fun h113 => ?_)
        · refine zb X_vowsFrom_s119 rfl ?_
          refine zcallV X_vowsFrom_d129 k10_89 (by omega) (xs_addVow (S := sF S F) (show fV F < 12 from hV) hv0) rfl rfl rfl (Nat.le_of_ble_eq_true rfl) ?_
          rintro _ μ1 ⟨rfl, hS1, hO1⟩
          refine zb X_vowsFrom_s132 rfl ?_
          rw [if_pos (zB_ne0.mp h113)] at hv2
          rw [nI_1]
          refine ih (i + 1) _ _ _ _ _ _ _ _ (by omega) hS1 (hv1.tr hO1) ?_
          exact hv2
        · refine zb X_vowsFrom_s116 rfl ?_
          refine z_ret X_vowsFrom_d144 rfl ?_
          first
            | (have hV12 : fV F = 12 := by
                 rw [hvv] at h21
                 have := (nI_leI (a := 12) (by omega) (by omega)).mp h21
                 omega
               rw [if_pos (show m < a + 3 * i + 3 ∨ fV F = 12 from Or.inr hV12)] at hv2
               rw [← hv2]
               exact ⟨rfl, hv0, hv1⟩)
            | (have hq : m < a + 3 * i + 3 := Nat.lt_of_not_le (fun z => h55 ((lg_cmp_le _ _).mpr ((lI_le (by omega) (by omega)).mpr z)))
               rw [if_pos (show m < a + 3 * i + 3 ∨ fV F = 12 from Or.inl hq)] at hv2
               rw [← hv2]
               exact ⟨rfl, hv0, hv1⟩)
            | (rw [if_neg (zB_eq0.mp h113)] at hv2
               rw [← hv2]
               exact ⟨rfl, hv0, hv1⟩)
      · refine zb X_vowsFrom_s58 rfl ?_
        refine z_ret X_vowsFrom_d144 rfl ?_
        first
          | (have hV12 : fV F = 12 := by
               rw [hvv] at h21
               have := (nI_leI (a := 12) (by omega) (by omega)).mp h21
               omega
             rw [if_pos (show m < a + 3 * i + 3 ∨ fV F = 12 from Or.inr hV12)] at hv2
             rw [← hv2]
             exact ⟨rfl, hv0, hv1⟩)
          | (have hq : m < a + 3 * i + 3 := Nat.lt_of_not_le (fun z => h55 ((lg_cmp_le _ _).mpr ((lI_le (by omega) (by omega)).mpr z)))
             rw [if_pos (show m < a + 3 * i + 3 ∨ fV F = 12 from Or.inl hq)] at hv2
             rw [← hv2]
             exact ⟨rfl, hv0, hv1⟩)
          | (rw [if_neg (zB_eq0.mp h113)] at hv2
             rw [← hv2]
             exact ⟨rfl, hv0, hv1⟩)

set_option maxRecDepth 100000 in
set_option maxHeartbeats 4000000 in
theorem xs_vowsF_0 {g : zG} {d : Nat} {S : zS} {μ : zMem} {m N : Nat} {i : Int32} (hd : 3 ≤ d) (hS : xS S μ) (h2s : hHeld S 0 = 2) (hm : m ≤ 60) (em : hSize S 0 = nI m) (h1N : 1 ≤ N) (hN : N ≤ 12) : zM g d X_vowsFrom [.ref 1, .ref 13, .int i, .int (nI N)] μ (pO xS onlyX (if i < 0 then ((0 : Int32), S) else (nI (voL (hInt S 0) m N i.toNatClampNeg 0 S.1).1, sF S (voL (hInt S 0) m N i.toNatClampNeg 0 S.1).2)) μ) := by
  refine zM_of (by decide +kernel) rfl rfl (Nat.le_of_ble_eq_true rfl) rfl ?_
  by_cases hi : i < 0
  · rw [if_pos hi]
    refine zb X_vowsFrom_s0 rfl ?_
    refine zb X_vowsFrom_s6 rfl ?_
    refine z_cge X_vowsFrom_d9 (tgt := 142) rfl (fun h9 => absurd h9 (nI_nle (n := N) (by omega) (by omega))) (fun h9 => ?_)
    refine zb X_vowsFrom_s12 rfl ?_
    refine z_cge X_vowsFrom_d21 (tgt := 142) rfl (fun h21 => ?_) (fun h21 => ?_)
    · refine zb X_vowsFrom_s142 rfl ?_
      refine z_ret X_vowsFrom_d144 rfl ?_
      exact ⟨rfl, hS, onlyX.rf⟩
    · refine zb X_vowsFrom_s24 rfl ?_
      refine z_lt X_vowsFrom_d40 (tgt := 142) rfl (fun h40 => ?_) (fun h40 => ?_)
      · refine zb X_vowsFrom_s142 rfl ?_
        refine z_ret X_vowsFrom_d144 rfl ?_
        exact ⟨rfl, hS, onlyX.rf⟩
      · refine absurd ((lg_cmp_lt _ _).mpr ?_) h40
        rw [show zlc 0 * (0 : Int32).toInt64 = 0 from by decide, Int64.add_zero, Int64.lt_iff_toInt_lt, Int32.toInt_toInt64]
        exact Int32.lt_iff_toInt_lt.mp hi
  rw [if_neg hi]
  obtain ⟨a, ha, rfl⟩ := nI_of hi
  rw [nI_clamp ha]
  refine zb X_vowsFrom_s0 rfl ?_
  exact w_vowsF_0 (by omega) h2s hm em hN ha N 0 S.1 _ _ _ _ _ _ μ (by omega) hS onlyX.rf rfl

set_option maxRecDepth 100000 in
set_option maxHeartbeats 4000000 in
theorem xs_vows_0 {g : zG} {d : Nat} {S : zS} {μ : zMem} {i n : Int32} (hd : 4 ≤ d) (hS : xS S μ) (hok : okH S) : zM g d X_vows [.ref 1, .int (nI 0), .int i, .int n] μ (pO xS onlyX (opVows S (nI 0) i n) μ) := by
  refine zM_of (by decide +kernel) rfl rfl (Nat.le_of_ble_eq_true rfl) rfl ?_
  obtain ⟨ho, h2, hT, hC, hD, hI, hA, hH⟩ := hS
  have hS : xS S μ := ⟨ho, h2, hT, hC, hD, hI, hA, hH⟩
  have hb := ho.b
  have hv := ho.v
  have hB6 := ho.b6
  have hV12 := ho.v12
  have hz : zq sX μ μ := zq.rf
  have xs := xsh (s := 0) hS hok (by omega)
  unfold opVows
  rw [show (nI 0).toNatClampNeg = 0 from rfl]
  refine zb X_vows_s0 rfl ?_
  refine zcallV X_vows_d2 k10_93 (by omega) (x_shelf_0 (by omega)) rfl rfl rfl (Nat.le_of_ble_eq_true rfl) ?_
  rintro _ μx ⟨rfl, hx⟩
  rw [hx]
  clear hx μx
  refine zb X_vows_s5 rfl ?_
  refine z_null X_vows_d9 ?_
  refine zb X_vows_s12 rfl ?_
  refine z_clt X_vows_d14 (tgt := 23) rfl (fun h14 => ?_) (fun h14 => ?_)
  · refine zb X_vows_s23 rfl ?_
    refine z_ret X_vows_d24 rfl ?_
    first
      | exact ⟨rfl, hS1, hO1⟩
      | (rw [if_pos (fun y => absurd h14 (Int32.not_lt.mpr y.2.1))]; exact ⟨rfl, hS, onlyX.rf⟩)
      | (rw [if_pos (fun y => h20 y.2.2)]; exact ⟨rfl, hS, onlyX.rf⟩)
      | (have g0 : bE 13 μ := zB_ne0.mp h30
         rw [if_neg (fun y => y ⟨⟨by decide, by decide⟩, Int32.not_lt.mp h14, h20⟩), if_pos (by
           rcases xs with z | z | z
           · exact z.1
           · exact absurd g0 z.2.1
           · exact absurd g0 z.2.1)]
         exact ⟨rfl, hS, onlyX.rf⟩)
      | (have g0 : ¬ bE 13 μ := zB_eq0.mp h30
         have g1 : ¬ (bR 13 μ ∧ μ.1 13 2 = 0) := zB_eq0.mp h41
         rw [if_neg (fun y => y ⟨⟨by decide, by decide⟩, Int32.not_lt.mp h14, h20⟩), if_neg (by
           rcases xs with z | z | z
           · exact absurd z.2.1 g0
           · rw [z.1]; decide
           · rw [z.1]; decide), if_pos (by
           rcases xs with z | z | z
           · exact absurd z.2.1 g0
           · intro y; rw [z.1] at y; exact absurd y.1 (by decide)
           · exact fun y => g1 ⟨z.2.2.1, z.2.2.2.1.trans y.2⟩)]
         exact ⟨rfl, hS, onlyX.rf⟩)
  · refine zb X_vows_s17 rfl ?_
    refine z_cle X_vows_d20 (tgt := 25) rfl (fun h20 => ?_) (fun h20 => ?_)
    · refine zb X_vows_s25 rfl ?_
      refine zcallV X_vows_d27 k10_97 (by omega) (x_isEmpty_0) rfl rfl rfl (Nat.le_of_ble_eq_true rfl) ?_
      rintro _ μx ⟨rfl, hx⟩
      rw [hx]
      clear hx μx
      refine z_eq X_vows_d30 (tgt := 35) rfl (fun h30 => ?_) (fun h30 => ?_)
      · refine zb X_vows_s35 rfl ?_
        refine zcallV X_vows_d38 k10_101 (by omega) (x_isRowOf_0 _ (by omega)) rfl rfl rfl (Nat.le_of_ble_eq_true rfl) ?_
        rintro _ μx ⟨rfl, hx⟩
        rw [hx]
        clear hx μx
        refine z_eq X_vows_d41 (tgt := 55) rfl (fun h41 => ?_) (fun h41 => ?_)
        · refine zb X_vows_s55 rfl ?_
          refine z_ret X_vows_d57 rfl ?_
          first
            | exact ⟨rfl, hS1, hO1⟩
            | (rw [if_pos (fun y => absurd h14 (Int32.not_lt.mpr y.2.1))]; exact ⟨rfl, hS, onlyX.rf⟩)
            | (rw [if_pos (fun y => h20 y.2.2)]; exact ⟨rfl, hS, onlyX.rf⟩)
            | (have g0 : bE 13 μ := zB_ne0.mp h30
               rw [if_neg (fun y => y ⟨⟨by decide, by decide⟩, Int32.not_lt.mp h14, h20⟩), if_pos (by
                 rcases xs with z | z | z
                 · exact z.1
                 · exact absurd g0 z.2.1
                 · exact absurd g0 z.2.1)]
               exact ⟨rfl, hS, onlyX.rf⟩)
            | (have g0 : ¬ bE 13 μ := zB_eq0.mp h30
               have g1 : ¬ (bR 13 μ ∧ μ.1 13 2 = 0) := zB_eq0.mp h41
               rw [if_neg (fun y => y ⟨⟨by decide, by decide⟩, Int32.not_lt.mp h14, h20⟩), if_neg (by
                 rcases xs with z | z | z
                 · exact absurd z.2.1 g0
                 · rw [z.1]; decide
                 · rw [z.1]; decide), if_pos (by
                 rcases xs with z | z | z
                 · exact absurd z.2.1 g0
                 · intro y; rw [z.1] at y; exact absurd y.1 (by decide)
                 · exact fun y => g1 ⟨z.2.2.1, z.2.2.2.1.trans y.2⟩)]
               exact ⟨rfl, hS, onlyX.rf⟩)
        · have g1 : bR 13 μ ∧ μ.1 13 2 = 0 := zB_ne0.mp h41
          have g0 : ¬ bE 13 μ := zB_eq0.mp h30
          have g2 : hHeld S 0 = 2 ∧ hSort S 0 = 0 := by
            rcases xs with z | z | z
            · exact absurd g1.1 z.2.2
            · exact absurd g1.1 z.2.2.1
            · exact And.intro z.1 (z.2.2.2.1.symm.trans g1.2)
          obtain ⟨m, hm, em⟩ : ∃ m, m ≤ 60 ∧ hSize S 0 = nI m := by
            rcases hok 0 (by omega) with z | z | z
            · rw [g2.1] at z; exact absurd z (by decide)
            · rw [g2.1] at z; exact absurd z.1 (by decide)
            · exact z.2.2.1
          obtain ⟨N, hN, rfl⟩ := nI_of2 (M := 12) (n := 12) rfl (Int32.not_lt.mpr (Int32.le_trans (by decide) (Int32.not_lt.mp h14))) h20
          have hN1 : 1 ≤ N := (nI_leI (a := 1) (by omega) (by omega)).mp (Int32.not_lt.mp h14)
          rw [if_neg (fun y => y ⟨⟨by decide, by decide⟩, Int32.not_lt.mp h14, h20⟩), if_neg (show ¬ hHeld S 0 = 0 by rw [g2.1]; decide), if_neg (fun y => y g2), em, nI_clamp (show N < 2 ^ 31 by omega), nI_clamp (show m < 2 ^ 31 by omega)]
          refine zb X_vows_s44 rfl ?_
          refine zcallV X_vows_d49 k10_105 (by omega) (xs_vowsF_0 (by omega) hS g2.1 hm em hN1 hN) rfl rfl rfl (Nat.le_of_ble_eq_true rfl) ?_
          rintro _ μ1 ⟨rfl, hS1, hO1⟩
          refine zb X_vows_s52 rfl ?_
          refine z_ret X_vows_d57 rfl ?_
          first
            | exact ⟨rfl, hS1, hO1⟩
            | (rw [if_pos (fun y => absurd h14 (Int32.not_lt.mpr y.2.1))]; exact ⟨rfl, hS, onlyX.rf⟩)
            | (rw [if_pos (fun y => h20 y.2.2)]; exact ⟨rfl, hS, onlyX.rf⟩)
            | (have g0 : bE 13 μ := zB_ne0.mp h30
               rw [if_neg (fun y => y ⟨⟨by decide, by decide⟩, Int32.not_lt.mp h14, h20⟩), if_pos (by
                 rcases xs with z | z | z
                 · exact z.1
                 · exact absurd g0 z.2.1
                 · exact absurd g0 z.2.1)]
               exact ⟨rfl, hS, onlyX.rf⟩)
            | (have g0 : ¬ bE 13 μ := zB_eq0.mp h30
               have g1 : ¬ (bR 13 μ ∧ μ.1 13 2 = 0) := zB_eq0.mp h41
               rw [if_neg (fun y => y ⟨⟨by decide, by decide⟩, Int32.not_lt.mp h14, h20⟩), if_neg (by
                 rcases xs with z | z | z
                 · exact absurd z.2.1 g0
                 · rw [z.1]; decide
                 · rw [z.1]; decide), if_pos (by
                 rcases xs with z | z | z
                 · exact absurd z.2.1 g0
                 · intro y; rw [z.1] at y; exact absurd y.1 (by decide)
                 · exact fun y => g1 ⟨z.2.2.1, z.2.2.2.1.trans y.2⟩)]
               exact ⟨rfl, hS, onlyX.rf⟩)
      · refine zb X_vows_s33 rfl ?_
        refine z_ret X_vows_d34 rfl ?_
        first
          | exact ⟨rfl, hS1, hO1⟩
          | (rw [if_pos (fun y => absurd h14 (Int32.not_lt.mpr y.2.1))]; exact ⟨rfl, hS, onlyX.rf⟩)
          | (rw [if_pos (fun y => h20 y.2.2)]; exact ⟨rfl, hS, onlyX.rf⟩)
          | (have g0 : bE 13 μ := zB_ne0.mp h30
             rw [if_neg (fun y => y ⟨⟨by decide, by decide⟩, Int32.not_lt.mp h14, h20⟩), if_pos (by
               rcases xs with z | z | z
               · exact z.1
               · exact absurd g0 z.2.1
               · exact absurd g0 z.2.1)]
             exact ⟨rfl, hS, onlyX.rf⟩)
          | (have g0 : ¬ bE 13 μ := zB_eq0.mp h30
             have g1 : ¬ (bR 13 μ ∧ μ.1 13 2 = 0) := zB_eq0.mp h41
             rw [if_neg (fun y => y ⟨⟨by decide, by decide⟩, Int32.not_lt.mp h14, h20⟩), if_neg (by
               rcases xs with z | z | z
               · exact absurd z.2.1 g0
               · rw [z.1]; decide
               · rw [z.1]; decide), if_pos (by
               rcases xs with z | z | z
               · exact absurd z.2.1 g0
               · intro y; rw [z.1] at y; exact absurd y.1 (by decide)
               · exact fun y => g1 ⟨z.2.2.1, z.2.2.2.1.trans y.2⟩)]
             exact ⟨rfl, hS, onlyX.rf⟩)
    · refine zb X_vows_s23 rfl ?_
      refine z_ret X_vows_d24 rfl ?_
      first
        | exact ⟨rfl, hS1, hO1⟩
        | (rw [if_pos (fun y => absurd h14 (Int32.not_lt.mpr y.2.1))]; exact ⟨rfl, hS, onlyX.rf⟩)
        | (rw [if_pos (fun y => h20 y.2.2)]; exact ⟨rfl, hS, onlyX.rf⟩)
        | (have g0 : bE 13 μ := zB_ne0.mp h30
           rw [if_neg (fun y => y ⟨⟨by decide, by decide⟩, Int32.not_lt.mp h14, h20⟩), if_pos (by
             rcases xs with z | z | z
             · exact z.1
             · exact absurd g0 z.2.1
             · exact absurd g0 z.2.1)]
           exact ⟨rfl, hS, onlyX.rf⟩)
        | (have g0 : ¬ bE 13 μ := zB_eq0.mp h30
           have g1 : ¬ (bR 13 μ ∧ μ.1 13 2 = 0) := zB_eq0.mp h41
           rw [if_neg (fun y => y ⟨⟨by decide, by decide⟩, Int32.not_lt.mp h14, h20⟩), if_neg (by
             rcases xs with z | z | z
             · exact absurd z.2.1 g0
             · rw [z.1]; decide
             · rw [z.1]; decide), if_pos (by
             rcases xs with z | z | z
             · exact absurd z.2.1 g0
             · intro y; rw [z.1] at y; exact absurd y.1 (by decide)
             · exact fun y => g1 ⟨z.2.2.1, z.2.2.2.1.trans y.2⟩)]
           exact ⟨rfl, hS, onlyX.rf⟩)

set_option maxRecDepth 100000 in
set_option maxHeartbeats 4000000 in
theorem w_vowsF_1 {g : zG} {d : Nat} {S : zS} {μ0 : zMem} {m N a : Nat} {R : Nat × zF} (hd : 2 ≤ d) (h2s : hHeld S 1 = 2) (hm : m ≤ 60) (em : hSize S 1 = nI m) (hN : N ≤ 12) (ha : a < 2 ^ 31) : ∀ (j i : Nat) (F : zF) (x6 : Option Value) (x7 : Option Value) (x8 : Option Value) (x9 : Option Value) (x10 : Option Value) (x11 : Option Value) (μ : zMem), i + j = N → (xS (sF S F) μ) → (onlyX μ0 μ) → (voL (hInt S 1) m j (a + 3 * i) i F = R) → zW g X_vowsFrom d 6 [some (.ref 1), some (.ref 14), some (.int (nI a)), some (.int (nI N)), some (.int (nI i)), some (.int (nI i)), x6, x7, x8, x9, x10, x11] [] μ (pO xS onlyX (nI R.1, sF S R.2) μ0) := by
  intro j
  induction j with
  | zero =>
    intro i F x6 x7 x8 x9 x10 x11 μ hi  hv0 hv1 hv2
    have ho : oX F μ := hv0.1
    have hvv := ho.v
    have h12 := ho.v12
    have h6 := ho.b6
    have hsz : μ.1 14 3 = nI m := (xS_hz (S := sF S F) (s := 1) hv0 (by omega) h2s).trans em
    have hce : ∀ t, t < 60 → (μ.2.1 20 t).toInt32 = hInt S 1 t := fun t ht => xS_hc (S := sF S F) (s := 1) hv0 (by omega) t ht
    have hi : N = i := by omega
    subst hi
    refine zb X_vowsFrom_s6 rfl ?_
    refine z_cge X_vowsFrom_d9 (tgt := 142) rfl (fun h9 => ?_) (fun h9 => absurd (Int32.le_refl _) h9)
    refine zb X_vowsFrom_s142 rfl ?_
    refine z_ret X_vowsFrom_d144 rfl ?_
    rw [← hv2]
    exact ⟨rfl, hv0, hv1⟩
  | succ j ih =>
    intro i F x6 x7 x8 x9 x10 x11 μ hi  hv0 hv1 hv2
    have ho : oX F μ := hv0.1
    have hvv := ho.v
    have h12 := ho.v12
    have h6 := ho.b6
    have hsz : μ.1 14 3 = nI m := (xS_hz (S := sF S F) (s := 1) hv0 (by omega) h2s).trans em
    have hce : ∀ t, t < 60 → (μ.2.1 20 t).toInt32 = hInt S 1 t := fun t ht => xS_hc (S := sF S F) (s := 1) hv0 (by omega) t ht
    have hilt : i < N := by omega
    have ei : (nI i).toNatClampNeg = i := nI_clamp (by omega)
    rw [voL_s] at hv2
    have hpl : (nI a).toInt64 + 3 * (nI i).toInt64 = Int64.ofNat (a + 3 * i) := by
      rw [lI_of ha, lI_of (by omega), show (3 : Int64) = Int64.ofNat 3 from rfl, lI_mul, lI_add]
    have hszL : (nI m).toInt64 = Int64.ofNat m := lI_of (by omega)
    refine zb X_vowsFrom_s6 rfl ?_
    refine z_cge X_vowsFrom_d9 (tgt := 142) rfl (fun h9 => absurd h9 (show ¬ nI N ≤ nI i from nI_ge hilt (by omega))) (fun h9 => ?_)
    refine zb X_vowsFrom_s12 rfl ?_
    refine z_cge X_vowsFrom_d21 (tgt := 142) rfl (fun h21 => ?_) (fun h21 => ?_)
    · refine zb X_vowsFrom_s142 rfl ?_
      refine z_ret X_vowsFrom_d144 rfl ?_
      first
        | (have hV12 : fV F = 12 := by
             rw [hvv] at h21
             have := (nI_leI (a := 12) (by omega) (by omega)).mp h21
             omega
           rw [if_pos (show m < a + 3 * i + 3 ∨ fV F = 12 from Or.inr hV12)] at hv2
           rw [← hv2]
           exact ⟨rfl, hv0, hv1⟩)
        | (have hq : m < a + 3 * i + 3 := Nat.lt_of_not_le (fun z => h55 ((lg_cmp_le _ _).mpr ((lI_le (by omega) (by omega)).mpr z)))
           rw [if_pos (show m < a + 3 * i + 3 ∨ fV F = 12 from Or.inl hq)] at hv2
           rw [← hv2]
           exact ⟨rfl, hv0, hv1⟩)
        | (rw [if_neg (zB_eq0.mp h113)] at hv2
           rw [← hv2]
           exact ⟨rfl, hv0, hv1⟩)
    · have hV : fV F < 12 := by
        rw [hvv] at h21
        exact (nI_ltI (b := 12) (by omega) (by omega)).mp (Int32.not_le.mp h21)
      refine zb X_vowsFrom_s24 rfl ?_
      rw [show zlc 0 = (3 : Int64) from rfl, hpl]
      refine z_lt X_vowsFrom_d40 (tgt := 142) rfl (fun h40 => absurd ((lg_cmp_lt _ _).mp h40) (fun z => by have := (lI_lt (b := 0) (by omega) (by omega)).mp z; omega)) (fun h40 => ?_)
      refine zb X_vowsFrom_s43 rfl ?_
      rw [show zlc 0 = Int64.ofNat 3 from rfl, lI_add, hsz, hszL]
      refine z_le X_vowsFrom_d55 (tgt := 61) rfl (fun h55 => ?_) (fun h55 => ?_)
      · have hq3 : a + 3 * i + 3 ≤ m := (lI_le (by omega) (by omega)).mp ((lg_cmp_le _ _).mp h55)
        have eq0 : (Int64.ofNat (a + 3 * i)).toInt32 = nI (a + 3 * i) := lI_int (by omega)
        have c0 : (nI (a + 3 * i)).toNatClampNeg = a + 3 * i := nI_clamp (by omega)
        have c1 : (nI (a + 3 * i + 1)).toNatClampNeg = a + 3 * i + 1 := nI_clamp (by omega)
        have c2 : nI (a + 3 * i) + 2 = nI (a + 3 * i + 2) := by rw [show (2 : Int32) = nI 2 from rfl, nI_add]
        have c3 : (nI (a + 3 * i + 2)).toNatClampNeg = a + 3 * i + 2 := nI_clamp (by omega)
        have hp0 := hce (a + 3 * i) (by omega)
        have hp1 := hce (a + 3 * i + 1) (by omega)
        have hp2 := hce (a + 3 * i + 2) (by omega)
        have hv0i : vp_in (nI (a + 3 * i)) 60 := vp_in_nI (by omega) (by omega)
        have hv1i : vp_in (nI (a + 3 * i + 1)) 60 := vp_in_nI (by omega) (by omega)
        have hv2i : vp_in (nI (a + 3 * i + 2)) 60 := vp_in_nI (by omega) (by omega)
        rw [if_neg (show ¬ (m < a + 3 * i + 3 ∨ fV F = 12) from fun z => by omega)] at hv2
        refine zb3 X_vowsFrom_s61 rfl (by rw [eq0]; exact hv0i) (by rw [eq0, nI_1]; exact hv1i) (by rw [eq0, c2]; exact hv2i) ?_
        rw [eq0, nI_1, c2, c0, c1, c3, hp0, hp1, hp2]
        refine zcallV X_vowsFrom_d110 k10_82 (by omega) (x_isVow _ _ _ (by omega) ho) rfl rfl rfl (Nat.le_of_ble_eq_true rfl) ?_
        rintro _ μx ⟨rfl, hx⟩
        rw [hx]
        clear hx μx
        refine z_ne X_vowsFrom_d113 (tgt := 119) rfl (fun h113 => ?_) (fun h113 => ?_)
        · refine zb X_vowsFrom_s119 rfl ?_
          refine zcallV X_vowsFrom_d129 k10_89 (by omega) (xs_addVow (S := sF S F) (show fV F < 12 from hV) hv0) rfl rfl rfl (Nat.le_of_ble_eq_true rfl) ?_
          rintro _ μ1 ⟨rfl, hS1, hO1⟩
          refine zb X_vowsFrom_s132 rfl ?_
          rw [if_pos (zB_ne0.mp h113)] at hv2
          rw [nI_1]
          refine ih (i + 1) _ _ _ _ _ _ _ _ (by omega) hS1 (hv1.tr hO1) ?_
          exact hv2
        · refine zb X_vowsFrom_s116 rfl ?_
          refine z_ret X_vowsFrom_d144 rfl ?_
          first
            | (have hV12 : fV F = 12 := by
                 rw [hvv] at h21
                 have := (nI_leI (a := 12) (by omega) (by omega)).mp h21
                 omega
               rw [if_pos (show m < a + 3 * i + 3 ∨ fV F = 12 from Or.inr hV12)] at hv2
               rw [← hv2]
               exact ⟨rfl, hv0, hv1⟩)
            | (have hq : m < a + 3 * i + 3 := Nat.lt_of_not_le (fun z => h55 ((lg_cmp_le _ _).mpr ((lI_le (by omega) (by omega)).mpr z)))
               rw [if_pos (show m < a + 3 * i + 3 ∨ fV F = 12 from Or.inl hq)] at hv2
               rw [← hv2]
               exact ⟨rfl, hv0, hv1⟩)
            | (rw [if_neg (zB_eq0.mp h113)] at hv2
               rw [← hv2]
               exact ⟨rfl, hv0, hv1⟩)
      · refine zb X_vowsFrom_s58 rfl ?_
        refine z_ret X_vowsFrom_d144 rfl ?_
        first
          | (have hV12 : fV F = 12 := by
               rw [hvv] at h21
               have := (nI_leI (a := 12) (by omega) (by omega)).mp h21
               omega
             rw [if_pos (show m < a + 3 * i + 3 ∨ fV F = 12 from Or.inr hV12)] at hv2
             rw [← hv2]
             exact ⟨rfl, hv0, hv1⟩)
          | (have hq : m < a + 3 * i + 3 := Nat.lt_of_not_le (fun z => h55 ((lg_cmp_le _ _).mpr ((lI_le (by omega) (by omega)).mpr z)))
             rw [if_pos (show m < a + 3 * i + 3 ∨ fV F = 12 from Or.inl hq)] at hv2
             rw [← hv2]
             exact ⟨rfl, hv0, hv1⟩)
          | (rw [if_neg (zB_eq0.mp h113)] at hv2
             rw [← hv2]
             exact ⟨rfl, hv0, hv1⟩)

set_option maxRecDepth 100000 in
set_option maxHeartbeats 4000000 in
theorem xs_vowsF_1 {g : zG} {d : Nat} {S : zS} {μ : zMem} {m N : Nat} {i : Int32} (hd : 3 ≤ d) (hS : xS S μ) (h2s : hHeld S 1 = 2) (hm : m ≤ 60) (em : hSize S 1 = nI m) (h1N : 1 ≤ N) (hN : N ≤ 12) : zM g d X_vowsFrom [.ref 1, .ref 14, .int i, .int (nI N)] μ (pO xS onlyX (if i < 0 then ((0 : Int32), S) else (nI (voL (hInt S 1) m N i.toNatClampNeg 0 S.1).1, sF S (voL (hInt S 1) m N i.toNatClampNeg 0 S.1).2)) μ) := by
  refine zM_of (by decide +kernel) rfl rfl (Nat.le_of_ble_eq_true rfl) rfl ?_
  by_cases hi : i < 0
  · rw [if_pos hi]
    refine zb X_vowsFrom_s0 rfl ?_
    refine zb X_vowsFrom_s6 rfl ?_
    refine z_cge X_vowsFrom_d9 (tgt := 142) rfl (fun h9 => absurd h9 (nI_nle (n := N) (by omega) (by omega))) (fun h9 => ?_)
    refine zb X_vowsFrom_s12 rfl ?_
    refine z_cge X_vowsFrom_d21 (tgt := 142) rfl (fun h21 => ?_) (fun h21 => ?_)
    · refine zb X_vowsFrom_s142 rfl ?_
      refine z_ret X_vowsFrom_d144 rfl ?_
      exact ⟨rfl, hS, onlyX.rf⟩
    · refine zb X_vowsFrom_s24 rfl ?_
      refine z_lt X_vowsFrom_d40 (tgt := 142) rfl (fun h40 => ?_) (fun h40 => ?_)
      · refine zb X_vowsFrom_s142 rfl ?_
        refine z_ret X_vowsFrom_d144 rfl ?_
        exact ⟨rfl, hS, onlyX.rf⟩
      · refine absurd ((lg_cmp_lt _ _).mpr ?_) h40
        rw [show zlc 0 * (0 : Int32).toInt64 = 0 from by decide, Int64.add_zero, Int64.lt_iff_toInt_lt, Int32.toInt_toInt64]
        exact Int32.lt_iff_toInt_lt.mp hi
  rw [if_neg hi]
  obtain ⟨a, ha, rfl⟩ := nI_of hi
  rw [nI_clamp ha]
  refine zb X_vowsFrom_s0 rfl ?_
  exact w_vowsF_1 (by omega) h2s hm em hN ha N 0 S.1 _ _ _ _ _ _ μ (by omega) hS onlyX.rf rfl

set_option maxRecDepth 100000 in
set_option maxHeartbeats 4000000 in
theorem xs_vows_1 {g : zG} {d : Nat} {S : zS} {μ : zMem} {i n : Int32} (hd : 4 ≤ d) (hS : xS S μ) (hok : okH S) : zM g d X_vows [.ref 1, .int (nI 1), .int i, .int n] μ (pO xS onlyX (opVows S (nI 1) i n) μ) := by
  refine zM_of (by decide +kernel) rfl rfl (Nat.le_of_ble_eq_true rfl) rfl ?_
  obtain ⟨ho, h2, hT, hC, hD, hI, hA, hH⟩ := hS
  have hS : xS S μ := ⟨ho, h2, hT, hC, hD, hI, hA, hH⟩
  have hb := ho.b
  have hv := ho.v
  have hB6 := ho.b6
  have hV12 := ho.v12
  have hz : zq sX μ μ := zq.rf
  have xs := xsh (s := 1) hS hok (by omega)
  unfold opVows
  rw [show (nI 1).toNatClampNeg = 1 from rfl]
  refine zb X_vows_s0 rfl ?_
  refine zcallV X_vows_d2 k10_93 (by omega) (x_shelf_1 (by omega)) rfl rfl rfl (Nat.le_of_ble_eq_true rfl) ?_
  rintro _ μx ⟨rfl, hx⟩
  rw [hx]
  clear hx μx
  refine zb X_vows_s5 rfl ?_
  refine z_null X_vows_d9 ?_
  refine zb X_vows_s12 rfl ?_
  refine z_clt X_vows_d14 (tgt := 23) rfl (fun h14 => ?_) (fun h14 => ?_)
  · refine zb X_vows_s23 rfl ?_
    refine z_ret X_vows_d24 rfl ?_
    first
      | exact ⟨rfl, hS1, hO1⟩
      | (rw [if_pos (fun y => absurd h14 (Int32.not_lt.mpr y.2.1))]; exact ⟨rfl, hS, onlyX.rf⟩)
      | (rw [if_pos (fun y => h20 y.2.2)]; exact ⟨rfl, hS, onlyX.rf⟩)
      | (have g0 : bE 14 μ := zB_ne0.mp h30
         rw [if_neg (fun y => y ⟨⟨by decide, by decide⟩, Int32.not_lt.mp h14, h20⟩), if_pos (by
           rcases xs with z | z | z
           · exact z.1
           · exact absurd g0 z.2.1
           · exact absurd g0 z.2.1)]
         exact ⟨rfl, hS, onlyX.rf⟩)
      | (have g0 : ¬ bE 14 μ := zB_eq0.mp h30
         have g1 : ¬ (bR 14 μ ∧ μ.1 14 2 = 0) := zB_eq0.mp h41
         rw [if_neg (fun y => y ⟨⟨by decide, by decide⟩, Int32.not_lt.mp h14, h20⟩), if_neg (by
           rcases xs with z | z | z
           · exact absurd z.2.1 g0
           · rw [z.1]; decide
           · rw [z.1]; decide), if_pos (by
           rcases xs with z | z | z
           · exact absurd z.2.1 g0
           · intro y; rw [z.1] at y; exact absurd y.1 (by decide)
           · exact fun y => g1 ⟨z.2.2.1, z.2.2.2.1.trans y.2⟩)]
         exact ⟨rfl, hS, onlyX.rf⟩)
  · refine zb X_vows_s17 rfl ?_
    refine z_cle X_vows_d20 (tgt := 25) rfl (fun h20 => ?_) (fun h20 => ?_)
    · refine zb X_vows_s25 rfl ?_
      refine zcallV X_vows_d27 k10_97 (by omega) (x_isEmpty_1) rfl rfl rfl (Nat.le_of_ble_eq_true rfl) ?_
      rintro _ μx ⟨rfl, hx⟩
      rw [hx]
      clear hx μx
      refine z_eq X_vows_d30 (tgt := 35) rfl (fun h30 => ?_) (fun h30 => ?_)
      · refine zb X_vows_s35 rfl ?_
        refine zcallV X_vows_d38 k10_101 (by omega) (x_isRowOf_1 _ (by omega)) rfl rfl rfl (Nat.le_of_ble_eq_true rfl) ?_
        rintro _ μx ⟨rfl, hx⟩
        rw [hx]
        clear hx μx
        refine z_eq X_vows_d41 (tgt := 55) rfl (fun h41 => ?_) (fun h41 => ?_)
        · refine zb X_vows_s55 rfl ?_
          refine z_ret X_vows_d57 rfl ?_
          first
            | exact ⟨rfl, hS1, hO1⟩
            | (rw [if_pos (fun y => absurd h14 (Int32.not_lt.mpr y.2.1))]; exact ⟨rfl, hS, onlyX.rf⟩)
            | (rw [if_pos (fun y => h20 y.2.2)]; exact ⟨rfl, hS, onlyX.rf⟩)
            | (have g0 : bE 14 μ := zB_ne0.mp h30
               rw [if_neg (fun y => y ⟨⟨by decide, by decide⟩, Int32.not_lt.mp h14, h20⟩), if_pos (by
                 rcases xs with z | z | z
                 · exact z.1
                 · exact absurd g0 z.2.1
                 · exact absurd g0 z.2.1)]
               exact ⟨rfl, hS, onlyX.rf⟩)
            | (have g0 : ¬ bE 14 μ := zB_eq0.mp h30
               have g1 : ¬ (bR 14 μ ∧ μ.1 14 2 = 0) := zB_eq0.mp h41
               rw [if_neg (fun y => y ⟨⟨by decide, by decide⟩, Int32.not_lt.mp h14, h20⟩), if_neg (by
                 rcases xs with z | z | z
                 · exact absurd z.2.1 g0
                 · rw [z.1]; decide
                 · rw [z.1]; decide), if_pos (by
                 rcases xs with z | z | z
                 · exact absurd z.2.1 g0
                 · intro y; rw [z.1] at y; exact absurd y.1 (by decide)
                 · exact fun y => g1 ⟨z.2.2.1, z.2.2.2.1.trans y.2⟩)]
               exact ⟨rfl, hS, onlyX.rf⟩)
        · have g1 : bR 14 μ ∧ μ.1 14 2 = 0 := zB_ne0.mp h41
          have g0 : ¬ bE 14 μ := zB_eq0.mp h30
          have g2 : hHeld S 1 = 2 ∧ hSort S 1 = 0 := by
            rcases xs with z | z | z
            · exact absurd g1.1 z.2.2
            · exact absurd g1.1 z.2.2.1
            · exact And.intro z.1 (z.2.2.2.1.symm.trans g1.2)
          obtain ⟨m, hm, em⟩ : ∃ m, m ≤ 60 ∧ hSize S 1 = nI m := by
            rcases hok 1 (by omega) with z | z | z
            · rw [g2.1] at z; exact absurd z (by decide)
            · rw [g2.1] at z; exact absurd z.1 (by decide)
            · exact z.2.2.1
          obtain ⟨N, hN, rfl⟩ := nI_of2 (M := 12) (n := 12) rfl (Int32.not_lt.mpr (Int32.le_trans (by decide) (Int32.not_lt.mp h14))) h20
          have hN1 : 1 ≤ N := (nI_leI (a := 1) (by omega) (by omega)).mp (Int32.not_lt.mp h14)
          rw [if_neg (fun y => y ⟨⟨by decide, by decide⟩, Int32.not_lt.mp h14, h20⟩), if_neg (show ¬ hHeld S 1 = 0 by rw [g2.1]; decide), if_neg (fun y => y g2), em, nI_clamp (show N < 2 ^ 31 by omega), nI_clamp (show m < 2 ^ 31 by omega)]
          refine zb X_vows_s44 rfl ?_
          refine zcallV X_vows_d49 k10_105 (by omega) (xs_vowsF_1 (by omega) hS g2.1 hm em hN1 hN) rfl rfl rfl (Nat.le_of_ble_eq_true rfl) ?_
          rintro _ μ1 ⟨rfl, hS1, hO1⟩
          refine zb X_vows_s52 rfl ?_
          refine z_ret X_vows_d57 rfl ?_
          first
            | exact ⟨rfl, hS1, hO1⟩
            | (rw [if_pos (fun y => absurd h14 (Int32.not_lt.mpr y.2.1))]; exact ⟨rfl, hS, onlyX.rf⟩)
            | (rw [if_pos (fun y => h20 y.2.2)]; exact ⟨rfl, hS, onlyX.rf⟩)
            | (have g0 : bE 14 μ := zB_ne0.mp h30
               rw [if_neg (fun y => y ⟨⟨by decide, by decide⟩, Int32.not_lt.mp h14, h20⟩), if_pos (by
                 rcases xs with z | z | z
                 · exact z.1
                 · exact absurd g0 z.2.1
                 · exact absurd g0 z.2.1)]
               exact ⟨rfl, hS, onlyX.rf⟩)
            | (have g0 : ¬ bE 14 μ := zB_eq0.mp h30
               have g1 : ¬ (bR 14 μ ∧ μ.1 14 2 = 0) := zB_eq0.mp h41
               rw [if_neg (fun y => y ⟨⟨by decide, by decide⟩, Int32.not_lt.mp h14, h20⟩), if_neg (by
                 rcases xs with z | z | z
                 · exact absurd z.2.1 g0
                 · rw [z.1]; decide
                 · rw [z.1]; decide), if_pos (by
                 rcases xs with z | z | z
                 · exact absurd z.2.1 g0
                 · intro y; rw [z.1] at y; exact absurd y.1 (by decide)
                 · exact fun y => g1 ⟨z.2.2.1, z.2.2.2.1.trans y.2⟩)]
               exact ⟨rfl, hS, onlyX.rf⟩)
      · refine zb X_vows_s33 rfl ?_
        refine z_ret X_vows_d34 rfl ?_
        first
          | exact ⟨rfl, hS1, hO1⟩
          | (rw [if_pos (fun y => absurd h14 (Int32.not_lt.mpr y.2.1))]; exact ⟨rfl, hS, onlyX.rf⟩)
          | (rw [if_pos (fun y => h20 y.2.2)]; exact ⟨rfl, hS, onlyX.rf⟩)
          | (have g0 : bE 14 μ := zB_ne0.mp h30
             rw [if_neg (fun y => y ⟨⟨by decide, by decide⟩, Int32.not_lt.mp h14, h20⟩), if_pos (by
               rcases xs with z | z | z
               · exact z.1
               · exact absurd g0 z.2.1
               · exact absurd g0 z.2.1)]
             exact ⟨rfl, hS, onlyX.rf⟩)
          | (have g0 : ¬ bE 14 μ := zB_eq0.mp h30
             have g1 : ¬ (bR 14 μ ∧ μ.1 14 2 = 0) := zB_eq0.mp h41
             rw [if_neg (fun y => y ⟨⟨by decide, by decide⟩, Int32.not_lt.mp h14, h20⟩), if_neg (by
               rcases xs with z | z | z
               · exact absurd z.2.1 g0
               · rw [z.1]; decide
               · rw [z.1]; decide), if_pos (by
               rcases xs with z | z | z
               · exact absurd z.2.1 g0
               · intro y; rw [z.1] at y; exact absurd y.1 (by decide)
               · exact fun y => g1 ⟨z.2.2.1, z.2.2.2.1.trans y.2⟩)]
             exact ⟨rfl, hS, onlyX.rf⟩)
    · refine zb X_vows_s23 rfl ?_
      refine z_ret X_vows_d24 rfl ?_
      first
        | exact ⟨rfl, hS1, hO1⟩
        | (rw [if_pos (fun y => absurd h14 (Int32.not_lt.mpr y.2.1))]; exact ⟨rfl, hS, onlyX.rf⟩)
        | (rw [if_pos (fun y => h20 y.2.2)]; exact ⟨rfl, hS, onlyX.rf⟩)
        | (have g0 : bE 14 μ := zB_ne0.mp h30
           rw [if_neg (fun y => y ⟨⟨by decide, by decide⟩, Int32.not_lt.mp h14, h20⟩), if_pos (by
             rcases xs with z | z | z
             · exact z.1
             · exact absurd g0 z.2.1
             · exact absurd g0 z.2.1)]
           exact ⟨rfl, hS, onlyX.rf⟩)
        | (have g0 : ¬ bE 14 μ := zB_eq0.mp h30
           have g1 : ¬ (bR 14 μ ∧ μ.1 14 2 = 0) := zB_eq0.mp h41
           rw [if_neg (fun y => y ⟨⟨by decide, by decide⟩, Int32.not_lt.mp h14, h20⟩), if_neg (by
             rcases xs with z | z | z
             · exact absurd z.2.1 g0
             · rw [z.1]; decide
             · rw [z.1]; decide), if_pos (by
             rcases xs with z | z | z
             · exact absurd z.2.1 g0
             · intro y; rw [z.1] at y; exact absurd y.1 (by decide)
             · exact fun y => g1 ⟨z.2.2.1, z.2.2.2.1.trans y.2⟩)]
           exact ⟨rfl, hS, onlyX.rf⟩)

set_option maxRecDepth 100000 in
set_option maxHeartbeats 4000000 in
theorem w_vowsF_2 {g : zG} {d : Nat} {S : zS} {μ0 : zMem} {m N a : Nat} {R : Nat × zF} (hd : 2 ≤ d) (h2s : hHeld S 2 = 2) (hm : m ≤ 60) (em : hSize S 2 = nI m) (hN : N ≤ 12) (ha : a < 2 ^ 31) : ∀ (j i : Nat) (F : zF) (x6 : Option Value) (x7 : Option Value) (x8 : Option Value) (x9 : Option Value) (x10 : Option Value) (x11 : Option Value) (μ : zMem), i + j = N → (xS (sF S F) μ) → (onlyX μ0 μ) → (voL (hInt S 2) m j (a + 3 * i) i F = R) → zW g X_vowsFrom d 6 [some (.ref 1), some (.ref 15), some (.int (nI a)), some (.int (nI N)), some (.int (nI i)), some (.int (nI i)), x6, x7, x8, x9, x10, x11] [] μ (pO xS onlyX (nI R.1, sF S R.2) μ0) := by
  intro j
  induction j with
  | zero =>
    intro i F x6 x7 x8 x9 x10 x11 μ hi  hv0 hv1 hv2
    have ho : oX F μ := hv0.1
    have hvv := ho.v
    have h12 := ho.v12
    have h6 := ho.b6
    have hsz : μ.1 15 3 = nI m := (xS_hz (S := sF S F) (s := 2) hv0 (by omega) h2s).trans em
    have hce : ∀ t, t < 60 → (μ.2.1 21 t).toInt32 = hInt S 2 t := fun t ht => xS_hc (S := sF S F) (s := 2) hv0 (by omega) t ht
    have hi : N = i := by omega
    subst hi
    refine zb X_vowsFrom_s6 rfl ?_
    refine z_cge X_vowsFrom_d9 (tgt := 142) rfl (fun h9 => ?_) (fun h9 => absurd (Int32.le_refl _) h9)
    refine zb X_vowsFrom_s142 rfl ?_
    refine z_ret X_vowsFrom_d144 rfl ?_
    rw [← hv2]
    exact ⟨rfl, hv0, hv1⟩
  | succ j ih =>
    intro i F x6 x7 x8 x9 x10 x11 μ hi  hv0 hv1 hv2
    have ho : oX F μ := hv0.1
    have hvv := ho.v
    have h12 := ho.v12
    have h6 := ho.b6
    have hsz : μ.1 15 3 = nI m := (xS_hz (S := sF S F) (s := 2) hv0 (by omega) h2s).trans em
    have hce : ∀ t, t < 60 → (μ.2.1 21 t).toInt32 = hInt S 2 t := fun t ht => xS_hc (S := sF S F) (s := 2) hv0 (by omega) t ht
    have hilt : i < N := by omega
    have ei : (nI i).toNatClampNeg = i := nI_clamp (by omega)
    rw [voL_s] at hv2
    have hpl : (nI a).toInt64 + 3 * (nI i).toInt64 = Int64.ofNat (a + 3 * i) := by
      rw [lI_of ha, lI_of (by omega), show (3 : Int64) = Int64.ofNat 3 from rfl, lI_mul, lI_add]
    have hszL : (nI m).toInt64 = Int64.ofNat m := lI_of (by omega)
    refine zb X_vowsFrom_s6 rfl ?_
    refine z_cge X_vowsFrom_d9 (tgt := 142) rfl (fun h9 => absurd h9 (show ¬ nI N ≤ nI i from nI_ge hilt (by omega))) (fun h9 => ?_)
    refine zb X_vowsFrom_s12 rfl ?_
    refine z_cge X_vowsFrom_d21 (tgt := 142) rfl (fun h21 => ?_) (fun h21 => ?_)
    · refine zb X_vowsFrom_s142 rfl ?_
      refine z_ret X_vowsFrom_d144 rfl ?_
      first
        | (have hV12 : fV F = 12 := by
             rw [hvv] at h21
             have := (nI_leI (a := 12) (by omega) (by omega)).mp h21
             omega
           rw [if_pos (show m < a + 3 * i + 3 ∨ fV F = 12 from Or.inr hV12)] at hv2
           rw [← hv2]
           exact ⟨rfl, hv0, hv1⟩)
        | (have hq : m < a + 3 * i + 3 := Nat.lt_of_not_le (fun z => h55 ((lg_cmp_le _ _).mpr ((lI_le (by omega) (by omega)).mpr z)))
           rw [if_pos (show m < a + 3 * i + 3 ∨ fV F = 12 from Or.inl hq)] at hv2
           rw [← hv2]
           exact ⟨rfl, hv0, hv1⟩)
        | (rw [if_neg (zB_eq0.mp h113)] at hv2
           rw [← hv2]
           exact ⟨rfl, hv0, hv1⟩)
    · have hV : fV F < 12 := by
        rw [hvv] at h21
        exact (nI_ltI (b := 12) (by omega) (by omega)).mp (Int32.not_le.mp h21)
      refine zb X_vowsFrom_s24 rfl ?_
      rw [show zlc 0 = (3 : Int64) from rfl, hpl]
      refine z_lt X_vowsFrom_d40 (tgt := 142) rfl (fun h40 => absurd ((lg_cmp_lt _ _).mp h40) (fun z => by have := (lI_lt (b := 0) (by omega) (by omega)).mp z; omega)) (fun h40 => ?_)
      refine zb X_vowsFrom_s43 rfl ?_
      rw [show zlc 0 = Int64.ofNat 3 from rfl, lI_add, hsz, hszL]
      refine z_le X_vowsFrom_d55 (tgt := 61) rfl (fun h55 => ?_) (fun h55 => ?_)
      · have hq3 : a + 3 * i + 3 ≤ m := (lI_le (by omega) (by omega)).mp ((lg_cmp_le _ _).mp h55)
        have eq0 : (Int64.ofNat (a + 3 * i)).toInt32 = nI (a + 3 * i) := lI_int (by omega)
        have c0 : (nI (a + 3 * i)).toNatClampNeg = a + 3 * i := nI_clamp (by omega)
        have c1 : (nI (a + 3 * i + 1)).toNatClampNeg = a + 3 * i + 1 := nI_clamp (by omega)
        have c2 : nI (a + 3 * i) + 2 = nI (a + 3 * i + 2) := by rw [show (2 : Int32) = nI 2 from rfl, nI_add]
        have c3 : (nI (a + 3 * i + 2)).toNatClampNeg = a + 3 * i + 2 := nI_clamp (by omega)
        have hp0 := hce (a + 3 * i) (by omega)
        have hp1 := hce (a + 3 * i + 1) (by omega)
        have hp2 := hce (a + 3 * i + 2) (by omega)
        have hv0i : vp_in (nI (a + 3 * i)) 60 := vp_in_nI (by omega) (by omega)
        have hv1i : vp_in (nI (a + 3 * i + 1)) 60 := vp_in_nI (by omega) (by omega)
        have hv2i : vp_in (nI (a + 3 * i + 2)) 60 := vp_in_nI (by omega) (by omega)
        rw [if_neg (show ¬ (m < a + 3 * i + 3 ∨ fV F = 12) from fun z => by omega)] at hv2
        refine zb3 X_vowsFrom_s61 rfl (by rw [eq0]; exact hv0i) (by rw [eq0, nI_1]; exact hv1i) (by rw [eq0, c2]; exact hv2i) ?_
        rw [eq0, nI_1, c2, c0, c1, c3, hp0, hp1, hp2]
        refine zcallV X_vowsFrom_d110 k10_82 (by omega) (x_isVow _ _ _ (by omega) ho) rfl rfl rfl (Nat.le_of_ble_eq_true rfl) ?_
        rintro _ μx ⟨rfl, hx⟩
        rw [hx]
        clear hx μx
        refine z_ne X_vowsFrom_d113 (tgt := 119) rfl (fun h113 => ?_) (fun h113 => ?_)
        · refine zb X_vowsFrom_s119 rfl ?_
          refine zcallV X_vowsFrom_d129 k10_89 (by omega) (xs_addVow (S := sF S F) (show fV F < 12 from hV) hv0) rfl rfl rfl (Nat.le_of_ble_eq_true rfl) ?_
          rintro _ μ1 ⟨rfl, hS1, hO1⟩
          refine zb X_vowsFrom_s132 rfl ?_
          rw [if_pos (zB_ne0.mp h113)] at hv2
          rw [nI_1]
          refine ih (i + 1) _ _ _ _ _ _ _ _ (by omega) hS1 (hv1.tr hO1) ?_
          exact hv2
        · refine zb X_vowsFrom_s116 rfl ?_
          refine z_ret X_vowsFrom_d144 rfl ?_
          first
            | (have hV12 : fV F = 12 := by
                 rw [hvv] at h21
                 have := (nI_leI (a := 12) (by omega) (by omega)).mp h21
                 omega
               rw [if_pos (show m < a + 3 * i + 3 ∨ fV F = 12 from Or.inr hV12)] at hv2
               rw [← hv2]
               exact ⟨rfl, hv0, hv1⟩)
            | (have hq : m < a + 3 * i + 3 := Nat.lt_of_not_le (fun z => h55 ((lg_cmp_le _ _).mpr ((lI_le (by omega) (by omega)).mpr z)))
               rw [if_pos (show m < a + 3 * i + 3 ∨ fV F = 12 from Or.inl hq)] at hv2
               rw [← hv2]
               exact ⟨rfl, hv0, hv1⟩)
            | (rw [if_neg (zB_eq0.mp h113)] at hv2
               rw [← hv2]
               exact ⟨rfl, hv0, hv1⟩)
      · refine zb X_vowsFrom_s58 rfl ?_
        refine z_ret X_vowsFrom_d144 rfl ?_
        first
          | (have hV12 : fV F = 12 := by
               rw [hvv] at h21
               have := (nI_leI (a := 12) (by omega) (by omega)).mp h21
               omega
             rw [if_pos (show m < a + 3 * i + 3 ∨ fV F = 12 from Or.inr hV12)] at hv2
             rw [← hv2]
             exact ⟨rfl, hv0, hv1⟩)
          | (have hq : m < a + 3 * i + 3 := Nat.lt_of_not_le (fun z => h55 ((lg_cmp_le _ _).mpr ((lI_le (by omega) (by omega)).mpr z)))
             rw [if_pos (show m < a + 3 * i + 3 ∨ fV F = 12 from Or.inl hq)] at hv2
             rw [← hv2]
             exact ⟨rfl, hv0, hv1⟩)
          | (rw [if_neg (zB_eq0.mp h113)] at hv2
             rw [← hv2]
             exact ⟨rfl, hv0, hv1⟩)

set_option maxRecDepth 100000 in
set_option maxHeartbeats 4000000 in
theorem xs_vowsF_2 {g : zG} {d : Nat} {S : zS} {μ : zMem} {m N : Nat} {i : Int32} (hd : 3 ≤ d) (hS : xS S μ) (h2s : hHeld S 2 = 2) (hm : m ≤ 60) (em : hSize S 2 = nI m) (h1N : 1 ≤ N) (hN : N ≤ 12) : zM g d X_vowsFrom [.ref 1, .ref 15, .int i, .int (nI N)] μ (pO xS onlyX (if i < 0 then ((0 : Int32), S) else (nI (voL (hInt S 2) m N i.toNatClampNeg 0 S.1).1, sF S (voL (hInt S 2) m N i.toNatClampNeg 0 S.1).2)) μ) := by
  refine zM_of (by decide +kernel) rfl rfl (Nat.le_of_ble_eq_true rfl) rfl ?_
  by_cases hi : i < 0
  · rw [if_pos hi]
    refine zb X_vowsFrom_s0 rfl ?_
    refine zb X_vowsFrom_s6 rfl ?_
    refine z_cge X_vowsFrom_d9 (tgt := 142) rfl (fun h9 => absurd h9 (nI_nle (n := N) (by omega) (by omega))) (fun h9 => ?_)
    refine zb X_vowsFrom_s12 rfl ?_
    refine z_cge X_vowsFrom_d21 (tgt := 142) rfl (fun h21 => ?_) (fun h21 => ?_)
    · refine zb X_vowsFrom_s142 rfl ?_
      refine z_ret X_vowsFrom_d144 rfl ?_
      exact ⟨rfl, hS, onlyX.rf⟩
    · refine zb X_vowsFrom_s24 rfl ?_
      refine z_lt X_vowsFrom_d40 (tgt := 142) rfl (fun h40 => ?_) (fun h40 => ?_)
      · refine zb X_vowsFrom_s142 rfl ?_
        refine z_ret X_vowsFrom_d144 rfl ?_
        exact ⟨rfl, hS, onlyX.rf⟩
      · refine absurd ((lg_cmp_lt _ _).mpr ?_) h40
        rw [show zlc 0 * (0 : Int32).toInt64 = 0 from by decide, Int64.add_zero, Int64.lt_iff_toInt_lt, Int32.toInt_toInt64]
        exact Int32.lt_iff_toInt_lt.mp hi
  rw [if_neg hi]
  obtain ⟨a, ha, rfl⟩ := nI_of hi
  rw [nI_clamp ha]
  refine zb X_vowsFrom_s0 rfl ?_
  exact w_vowsF_2 (by omega) h2s hm em hN ha N 0 S.1 _ _ _ _ _ _ μ (by omega) hS onlyX.rf rfl

set_option maxRecDepth 100000 in
set_option maxHeartbeats 4000000 in
theorem xs_vows_2 {g : zG} {d : Nat} {S : zS} {μ : zMem} {i n : Int32} (hd : 4 ≤ d) (hS : xS S μ) (hok : okH S) : zM g d X_vows [.ref 1, .int (nI 2), .int i, .int n] μ (pO xS onlyX (opVows S (nI 2) i n) μ) := by
  refine zM_of (by decide +kernel) rfl rfl (Nat.le_of_ble_eq_true rfl) rfl ?_
  obtain ⟨ho, h2, hT, hC, hD, hI, hA, hH⟩ := hS
  have hS : xS S μ := ⟨ho, h2, hT, hC, hD, hI, hA, hH⟩
  have hb := ho.b
  have hv := ho.v
  have hB6 := ho.b6
  have hV12 := ho.v12
  have hz : zq sX μ μ := zq.rf
  have xs := xsh (s := 2) hS hok (by omega)
  unfold opVows
  rw [show (nI 2).toNatClampNeg = 2 from rfl]
  refine zb X_vows_s0 rfl ?_
  refine zcallV X_vows_d2 k10_93 (by omega) (x_shelf_2 (by omega)) rfl rfl rfl (Nat.le_of_ble_eq_true rfl) ?_
  rintro _ μx ⟨rfl, hx⟩
  rw [hx]
  clear hx μx
  refine zb X_vows_s5 rfl ?_
  refine z_null X_vows_d9 ?_
  refine zb X_vows_s12 rfl ?_
  refine z_clt X_vows_d14 (tgt := 23) rfl (fun h14 => ?_) (fun h14 => ?_)
  · refine zb X_vows_s23 rfl ?_
    refine z_ret X_vows_d24 rfl ?_
    first
      | exact ⟨rfl, hS1, hO1⟩
      | (rw [if_pos (fun y => absurd h14 (Int32.not_lt.mpr y.2.1))]; exact ⟨rfl, hS, onlyX.rf⟩)
      | (rw [if_pos (fun y => h20 y.2.2)]; exact ⟨rfl, hS, onlyX.rf⟩)
      | (have g0 : bE 15 μ := zB_ne0.mp h30
         rw [if_neg (fun y => y ⟨⟨by decide, by decide⟩, Int32.not_lt.mp h14, h20⟩), if_pos (by
           rcases xs with z | z | z
           · exact z.1
           · exact absurd g0 z.2.1
           · exact absurd g0 z.2.1)]
         exact ⟨rfl, hS, onlyX.rf⟩)
      | (have g0 : ¬ bE 15 μ := zB_eq0.mp h30
         have g1 : ¬ (bR 15 μ ∧ μ.1 15 2 = 0) := zB_eq0.mp h41
         rw [if_neg (fun y => y ⟨⟨by decide, by decide⟩, Int32.not_lt.mp h14, h20⟩), if_neg (by
           rcases xs with z | z | z
           · exact absurd z.2.1 g0
           · rw [z.1]; decide
           · rw [z.1]; decide), if_pos (by
           rcases xs with z | z | z
           · exact absurd z.2.1 g0
           · intro y; rw [z.1] at y; exact absurd y.1 (by decide)
           · exact fun y => g1 ⟨z.2.2.1, z.2.2.2.1.trans y.2⟩)]
         exact ⟨rfl, hS, onlyX.rf⟩)
  · refine zb X_vows_s17 rfl ?_
    refine z_cle X_vows_d20 (tgt := 25) rfl (fun h20 => ?_) (fun h20 => ?_)
    · refine zb X_vows_s25 rfl ?_
      refine zcallV X_vows_d27 k10_97 (by omega) (x_isEmpty_2) rfl rfl rfl (Nat.le_of_ble_eq_true rfl) ?_
      rintro _ μx ⟨rfl, hx⟩
      rw [hx]
      clear hx μx
      refine z_eq X_vows_d30 (tgt := 35) rfl (fun h30 => ?_) (fun h30 => ?_)
      · refine zb X_vows_s35 rfl ?_
        refine zcallV X_vows_d38 k10_101 (by omega) (x_isRowOf_2 _ (by omega)) rfl rfl rfl (Nat.le_of_ble_eq_true rfl) ?_
        rintro _ μx ⟨rfl, hx⟩
        rw [hx]
        clear hx μx
        refine z_eq X_vows_d41 (tgt := 55) rfl (fun h41 => ?_) (fun h41 => ?_)
        · refine zb X_vows_s55 rfl ?_
          refine z_ret X_vows_d57 rfl ?_
          first
            | exact ⟨rfl, hS1, hO1⟩
            | (rw [if_pos (fun y => absurd h14 (Int32.not_lt.mpr y.2.1))]; exact ⟨rfl, hS, onlyX.rf⟩)
            | (rw [if_pos (fun y => h20 y.2.2)]; exact ⟨rfl, hS, onlyX.rf⟩)
            | (have g0 : bE 15 μ := zB_ne0.mp h30
               rw [if_neg (fun y => y ⟨⟨by decide, by decide⟩, Int32.not_lt.mp h14, h20⟩), if_pos (by
                 rcases xs with z | z | z
                 · exact z.1
                 · exact absurd g0 z.2.1
                 · exact absurd g0 z.2.1)]
               exact ⟨rfl, hS, onlyX.rf⟩)
            | (have g0 : ¬ bE 15 μ := zB_eq0.mp h30
               have g1 : ¬ (bR 15 μ ∧ μ.1 15 2 = 0) := zB_eq0.mp h41
               rw [if_neg (fun y => y ⟨⟨by decide, by decide⟩, Int32.not_lt.mp h14, h20⟩), if_neg (by
                 rcases xs with z | z | z
                 · exact absurd z.2.1 g0
                 · rw [z.1]; decide
                 · rw [z.1]; decide), if_pos (by
                 rcases xs with z | z | z
                 · exact absurd z.2.1 g0
                 · intro y; rw [z.1] at y; exact absurd y.1 (by decide)
                 · exact fun y => g1 ⟨z.2.2.1, z.2.2.2.1.trans y.2⟩)]
               exact ⟨rfl, hS, onlyX.rf⟩)
        · have g1 : bR 15 μ ∧ μ.1 15 2 = 0 := zB_ne0.mp h41
          have g0 : ¬ bE 15 μ := zB_eq0.mp h30
          have g2 : hHeld S 2 = 2 ∧ hSort S 2 = 0 := by
            rcases xs with z | z | z
            · exact absurd g1.1 z.2.2
            · exact absurd g1.1 z.2.2.1
            · exact And.intro z.1 (z.2.2.2.1.symm.trans g1.2)
          obtain ⟨m, hm, em⟩ : ∃ m, m ≤ 60 ∧ hSize S 2 = nI m := by
            rcases hok 2 (by omega) with z | z | z
            · rw [g2.1] at z; exact absurd z (by decide)
            · rw [g2.1] at z; exact absurd z.1 (by decide)
            · exact z.2.2.1
          obtain ⟨N, hN, rfl⟩ := nI_of2 (M := 12) (n := 12) rfl (Int32.not_lt.mpr (Int32.le_trans (by decide) (Int32.not_lt.mp h14))) h20
          have hN1 : 1 ≤ N := (nI_leI (a := 1) (by omega) (by omega)).mp (Int32.not_lt.mp h14)
          rw [if_neg (fun y => y ⟨⟨by decide, by decide⟩, Int32.not_lt.mp h14, h20⟩), if_neg (show ¬ hHeld S 2 = 0 by rw [g2.1]; decide), if_neg (fun y => y g2), em, nI_clamp (show N < 2 ^ 31 by omega), nI_clamp (show m < 2 ^ 31 by omega)]
          refine zb X_vows_s44 rfl ?_
          refine zcallV X_vows_d49 k10_105 (by omega) (xs_vowsF_2 (by omega) hS g2.1 hm em hN1 hN) rfl rfl rfl (Nat.le_of_ble_eq_true rfl) ?_
          rintro _ μ1 ⟨rfl, hS1, hO1⟩
          refine zb X_vows_s52 rfl ?_
          refine z_ret X_vows_d57 rfl ?_
          first
            | exact ⟨rfl, hS1, hO1⟩
            | (rw [if_pos (fun y => absurd h14 (Int32.not_lt.mpr y.2.1))]; exact ⟨rfl, hS, onlyX.rf⟩)
            | (rw [if_pos (fun y => h20 y.2.2)]; exact ⟨rfl, hS, onlyX.rf⟩)
            | (have g0 : bE 15 μ := zB_ne0.mp h30
               rw [if_neg (fun y => y ⟨⟨by decide, by decide⟩, Int32.not_lt.mp h14, h20⟩), if_pos (by
                 rcases xs with z | z | z
                 · exact z.1
                 · exact absurd g0 z.2.1
                 · exact absurd g0 z.2.1)]
               exact ⟨rfl, hS, onlyX.rf⟩)
            | (have g0 : ¬ bE 15 μ := zB_eq0.mp h30
               have g1 : ¬ (bR 15 μ ∧ μ.1 15 2 = 0) := zB_eq0.mp h41
               rw [if_neg (fun y => y ⟨⟨by decide, by decide⟩, Int32.not_lt.mp h14, h20⟩), if_neg (by
                 rcases xs with z | z | z
                 · exact absurd z.2.1 g0
                 · rw [z.1]; decide
                 · rw [z.1]; decide), if_pos (by
                 rcases xs with z | z | z
                 · exact absurd z.2.1 g0
                 · intro y; rw [z.1] at y; exact absurd y.1 (by decide)
                 · exact fun y => g1 ⟨z.2.2.1, z.2.2.2.1.trans y.2⟩)]
               exact ⟨rfl, hS, onlyX.rf⟩)
      · refine zb X_vows_s33 rfl ?_
        refine z_ret X_vows_d34 rfl ?_
        first
          | exact ⟨rfl, hS1, hO1⟩
          | (rw [if_pos (fun y => absurd h14 (Int32.not_lt.mpr y.2.1))]; exact ⟨rfl, hS, onlyX.rf⟩)
          | (rw [if_pos (fun y => h20 y.2.2)]; exact ⟨rfl, hS, onlyX.rf⟩)
          | (have g0 : bE 15 μ := zB_ne0.mp h30
             rw [if_neg (fun y => y ⟨⟨by decide, by decide⟩, Int32.not_lt.mp h14, h20⟩), if_pos (by
               rcases xs with z | z | z
               · exact z.1
               · exact absurd g0 z.2.1
               · exact absurd g0 z.2.1)]
             exact ⟨rfl, hS, onlyX.rf⟩)
          | (have g0 : ¬ bE 15 μ := zB_eq0.mp h30
             have g1 : ¬ (bR 15 μ ∧ μ.1 15 2 = 0) := zB_eq0.mp h41
             rw [if_neg (fun y => y ⟨⟨by decide, by decide⟩, Int32.not_lt.mp h14, h20⟩), if_neg (by
               rcases xs with z | z | z
               · exact absurd z.2.1 g0
               · rw [z.1]; decide
               · rw [z.1]; decide), if_pos (by
               rcases xs with z | z | z
               · exact absurd z.2.1 g0
               · intro y; rw [z.1] at y; exact absurd y.1 (by decide)
               · exact fun y => g1 ⟨z.2.2.1, z.2.2.2.1.trans y.2⟩)]
             exact ⟨rfl, hS, onlyX.rf⟩)
    · refine zb X_vows_s23 rfl ?_
      refine z_ret X_vows_d24 rfl ?_
      first
        | exact ⟨rfl, hS1, hO1⟩
        | (rw [if_pos (fun y => absurd h14 (Int32.not_lt.mpr y.2.1))]; exact ⟨rfl, hS, onlyX.rf⟩)
        | (rw [if_pos (fun y => h20 y.2.2)]; exact ⟨rfl, hS, onlyX.rf⟩)
        | (have g0 : bE 15 μ := zB_ne0.mp h30
           rw [if_neg (fun y => y ⟨⟨by decide, by decide⟩, Int32.not_lt.mp h14, h20⟩), if_pos (by
             rcases xs with z | z | z
             · exact z.1
             · exact absurd g0 z.2.1
             · exact absurd g0 z.2.1)]
           exact ⟨rfl, hS, onlyX.rf⟩)
        | (have g0 : ¬ bE 15 μ := zB_eq0.mp h30
           have g1 : ¬ (bR 15 μ ∧ μ.1 15 2 = 0) := zB_eq0.mp h41
           rw [if_neg (fun y => y ⟨⟨by decide, by decide⟩, Int32.not_lt.mp h14, h20⟩), if_neg (by
             rcases xs with z | z | z
             · exact absurd z.2.1 g0
             · rw [z.1]; decide
             · rw [z.1]; decide), if_pos (by
             rcases xs with z | z | z
             · exact absurd z.2.1 g0
             · intro y; rw [z.1] at y; exact absurd y.1 (by decide)
             · exact fun y => g1 ⟨z.2.2.1, z.2.2.2.1.trans y.2⟩)]
           exact ⟨rfl, hS, onlyX.rf⟩)

set_option maxRecDepth 100000 in
set_option maxHeartbeats 4000000 in
theorem w_vowsF_3 {g : zG} {d : Nat} {S : zS} {μ0 : zMem} {m N a : Nat} {R : Nat × zF} (hd : 2 ≤ d) (h2s : hHeld S 3 = 2) (hm : m ≤ 60) (em : hSize S 3 = nI m) (hN : N ≤ 12) (ha : a < 2 ^ 31) : ∀ (j i : Nat) (F : zF) (x6 : Option Value) (x7 : Option Value) (x8 : Option Value) (x9 : Option Value) (x10 : Option Value) (x11 : Option Value) (μ : zMem), i + j = N → (xS (sF S F) μ) → (onlyX μ0 μ) → (voL (hInt S 3) m j (a + 3 * i) i F = R) → zW g X_vowsFrom d 6 [some (.ref 1), some (.ref 16), some (.int (nI a)), some (.int (nI N)), some (.int (nI i)), some (.int (nI i)), x6, x7, x8, x9, x10, x11] [] μ (pO xS onlyX (nI R.1, sF S R.2) μ0) := by
  intro j
  induction j with
  | zero =>
    intro i F x6 x7 x8 x9 x10 x11 μ hi  hv0 hv1 hv2
    have ho : oX F μ := hv0.1
    have hvv := ho.v
    have h12 := ho.v12
    have h6 := ho.b6
    have hsz : μ.1 16 3 = nI m := (xS_hz (S := sF S F) (s := 3) hv0 (by omega) h2s).trans em
    have hce : ∀ t, t < 60 → (μ.2.1 22 t).toInt32 = hInt S 3 t := fun t ht => xS_hc (S := sF S F) (s := 3) hv0 (by omega) t ht
    have hi : N = i := by omega
    subst hi
    refine zb X_vowsFrom_s6 rfl ?_
    refine z_cge X_vowsFrom_d9 (tgt := 142) rfl (fun h9 => ?_) (fun h9 => absurd (Int32.le_refl _) h9)
    refine zb X_vowsFrom_s142 rfl ?_
    refine z_ret X_vowsFrom_d144 rfl ?_
    rw [← hv2]
    exact ⟨rfl, hv0, hv1⟩
  | succ j ih =>
    intro i F x6 x7 x8 x9 x10 x11 μ hi  hv0 hv1 hv2
    have ho : oX F μ := hv0.1
    have hvv := ho.v
    have h12 := ho.v12
    have h6 := ho.b6
    have hsz : μ.1 16 3 = nI m := (xS_hz (S := sF S F) (s := 3) hv0 (by omega) h2s).trans em
    have hce : ∀ t, t < 60 → (μ.2.1 22 t).toInt32 = hInt S 3 t := fun t ht => xS_hc (S := sF S F) (s := 3) hv0 (by omega) t ht
    have hilt : i < N := by omega
    have ei : (nI i).toNatClampNeg = i := nI_clamp (by omega)
    rw [voL_s] at hv2
    have hpl : (nI a).toInt64 + 3 * (nI i).toInt64 = Int64.ofNat (a + 3 * i) := by
      rw [lI_of ha, lI_of (by omega), show (3 : Int64) = Int64.ofNat 3 from rfl, lI_mul, lI_add]
    have hszL : (nI m).toInt64 = Int64.ofNat m := lI_of (by omega)
    refine zb X_vowsFrom_s6 rfl ?_
    refine z_cge X_vowsFrom_d9 (tgt := 142) rfl (fun h9 => absurd h9 (show ¬ nI N ≤ nI i from nI_ge hilt (by omega))) (fun h9 => ?_)
    refine zb X_vowsFrom_s12 rfl ?_
    refine z_cge X_vowsFrom_d21 (tgt := 142) rfl (fun h21 => ?_) (fun h21 => ?_)
    · refine zb X_vowsFrom_s142 rfl ?_
      refine z_ret X_vowsFrom_d144 rfl ?_
      first
        | (have hV12 : fV F = 12 := by
             rw [hvv] at h21
             have := (nI_leI (a := 12) (by omega) (by omega)).mp h21
             omega
           rw [if_pos (show m < a + 3 * i + 3 ∨ fV F = 12 from Or.inr hV12)] at hv2
           rw [← hv2]
           exact ⟨rfl, hv0, hv1⟩)
        | (have hq : m < a + 3 * i + 3 := Nat.lt_of_not_le (fun z => h55 ((lg_cmp_le _ _).mpr ((lI_le (by omega) (by omega)).mpr z)))
           rw [if_pos (show m < a + 3 * i + 3 ∨ fV F = 12 from Or.inl hq)] at hv2
           rw [← hv2]
           exact ⟨rfl, hv0, hv1⟩)
        | (rw [if_neg (zB_eq0.mp h113)] at hv2
           rw [← hv2]
           exact ⟨rfl, hv0, hv1⟩)
    · have hV : fV F < 12 := by
        rw [hvv] at h21
        exact (nI_ltI (b := 12) (by omega) (by omega)).mp (Int32.not_le.mp h21)
      refine zb X_vowsFrom_s24 rfl ?_
      rw [show zlc 0 = (3 : Int64) from rfl, hpl]
      refine z_lt X_vowsFrom_d40 (tgt := 142) rfl (fun h40 => absurd ((lg_cmp_lt _ _).mp h40) (fun z => by have := (lI_lt (b := 0) (by omega) (by omega)).mp z; omega)) (fun h40 => ?_)
      refine zb X_vowsFrom_s43 rfl ?_
      rw [show zlc 0 = Int64.ofNat 3 from rfl, lI_add, hsz, hszL]
      refine z_le X_vowsFrom_d55 (tgt := 61) rfl (fun h55 => ?_) (fun h55 => ?_)
      · have hq3 : a + 3 * i + 3 ≤ m := (lI_le (by omega) (by omega)).mp ((lg_cmp_le _ _).mp h55)
        have eq0 : (Int64.ofNat (a + 3 * i)).toInt32 = nI (a + 3 * i) := lI_int (by omega)
        have c0 : (nI (a + 3 * i)).toNatClampNeg = a + 3 * i := nI_clamp (by omega)
        have c1 : (nI (a + 3 * i + 1)).toNatClampNeg = a + 3 * i + 1 := nI_clamp (by omega)
        have c2 : nI (a + 3 * i) + 2 = nI (a + 3 * i + 2) := by rw [show (2 : Int32) = nI 2 from rfl, nI_add]
        have c3 : (nI (a + 3 * i + 2)).toNatClampNeg = a + 3 * i + 2 := nI_clamp (by omega)
        have hp0 := hce (a + 3 * i) (by omega)
        have hp1 := hce (a + 3 * i + 1) (by omega)
        have hp2 := hce (a + 3 * i + 2) (by omega)
        have hv0i : vp_in (nI (a + 3 * i)) 60 := vp_in_nI (by omega) (by omega)
        have hv1i : vp_in (nI (a + 3 * i + 1)) 60 := vp_in_nI (by omega) (by omega)
        have hv2i : vp_in (nI (a + 3 * i + 2)) 60 := vp_in_nI (by omega) (by omega)
        rw [if_neg (show ¬ (m < a + 3 * i + 3 ∨ fV F = 12) from fun z => by omega)] at hv2
        refine zb3 X_vowsFrom_s61 rfl (by rw [eq0]; exact hv0i) (by rw [eq0, nI_1]; exact hv1i) (by rw [eq0, c2]; exact hv2i) ?_
        rw [eq0, nI_1, c2, c0, c1, c3, hp0, hp1, hp2]
        refine zcallV X_vowsFrom_d110 k10_82 (by omega) (x_isVow _ _ _ (by omega) ho) rfl rfl rfl (Nat.le_of_ble_eq_true rfl) ?_
        rintro _ μx ⟨rfl, hx⟩
        rw [hx]
        clear hx μx
        refine z_ne X_vowsFrom_d113 (tgt := 119) rfl (fun h113 => ?_) (fun h113 => ?_)
        · refine zb X_vowsFrom_s119 rfl ?_
          refine zcallV X_vowsFrom_d129 k10_89 (by omega) (xs_addVow (S := sF S F) (show fV F < 12 from hV) hv0) rfl rfl rfl (Nat.le_of_ble_eq_true rfl) ?_
          rintro _ μ1 ⟨rfl, hS1, hO1⟩
          refine zb X_vowsFrom_s132 rfl ?_
          rw [if_pos (zB_ne0.mp h113)] at hv2
          rw [nI_1]
          refine ih (i + 1) _ _ _ _ _ _ _ _ (by omega) hS1 (hv1.tr hO1) ?_
          exact hv2
        · refine zb X_vowsFrom_s116 rfl ?_
          refine z_ret X_vowsFrom_d144 rfl ?_
          first
            | (have hV12 : fV F = 12 := by
                 rw [hvv] at h21
                 have := (nI_leI (a := 12) (by omega) (by omega)).mp h21
                 omega
               rw [if_pos (show m < a + 3 * i + 3 ∨ fV F = 12 from Or.inr hV12)] at hv2
               rw [← hv2]
               exact ⟨rfl, hv0, hv1⟩)
            | (have hq : m < a + 3 * i + 3 := Nat.lt_of_not_le (fun z => h55 ((lg_cmp_le _ _).mpr ((lI_le (by omega) (by omega)).mpr z)))
               rw [if_pos (show m < a + 3 * i + 3 ∨ fV F = 12 from Or.inl hq)] at hv2
               rw [← hv2]
               exact ⟨rfl, hv0, hv1⟩)
            | (rw [if_neg (zB_eq0.mp h113)] at hv2
               rw [← hv2]
               exact ⟨rfl, hv0, hv1⟩)
      · refine zb X_vowsFrom_s58 rfl ?_
        refine z_ret X_vowsFrom_d144 rfl ?_
        first
          | (have hV12 : fV F = 12 := by
               rw [hvv] at h21
               have := (nI_leI (a := 12) (by omega) (by omega)).mp h21
               omega
             rw [if_pos (show m < a + 3 * i + 3 ∨ fV F = 12 from Or.inr hV12)] at hv2
             rw [← hv2]
             exact ⟨rfl, hv0, hv1⟩)
          | (have hq : m < a + 3 * i + 3 := Nat.lt_of_not_le (fun z => h55 ((lg_cmp_le _ _).mpr ((lI_le (by omega) (by omega)).mpr z)))
             rw [if_pos (show m < a + 3 * i + 3 ∨ fV F = 12 from Or.inl hq)] at hv2
             rw [← hv2]
             exact ⟨rfl, hv0, hv1⟩)
          | (rw [if_neg (zB_eq0.mp h113)] at hv2
             rw [← hv2]
             exact ⟨rfl, hv0, hv1⟩)

set_option maxRecDepth 100000 in
set_option maxHeartbeats 4000000 in
theorem xs_vowsF_3 {g : zG} {d : Nat} {S : zS} {μ : zMem} {m N : Nat} {i : Int32} (hd : 3 ≤ d) (hS : xS S μ) (h2s : hHeld S 3 = 2) (hm : m ≤ 60) (em : hSize S 3 = nI m) (h1N : 1 ≤ N) (hN : N ≤ 12) : zM g d X_vowsFrom [.ref 1, .ref 16, .int i, .int (nI N)] μ (pO xS onlyX (if i < 0 then ((0 : Int32), S) else (nI (voL (hInt S 3) m N i.toNatClampNeg 0 S.1).1, sF S (voL (hInt S 3) m N i.toNatClampNeg 0 S.1).2)) μ) := by
  refine zM_of (by decide +kernel) rfl rfl (Nat.le_of_ble_eq_true rfl) rfl ?_
  by_cases hi : i < 0
  · rw [if_pos hi]
    refine zb X_vowsFrom_s0 rfl ?_
    refine zb X_vowsFrom_s6 rfl ?_
    refine z_cge X_vowsFrom_d9 (tgt := 142) rfl (fun h9 => absurd h9 (nI_nle (n := N) (by omega) (by omega))) (fun h9 => ?_)
    refine zb X_vowsFrom_s12 rfl ?_
    refine z_cge X_vowsFrom_d21 (tgt := 142) rfl (fun h21 => ?_) (fun h21 => ?_)
    · refine zb X_vowsFrom_s142 rfl ?_
      refine z_ret X_vowsFrom_d144 rfl ?_
      exact ⟨rfl, hS, onlyX.rf⟩
    · refine zb X_vowsFrom_s24 rfl ?_
      refine z_lt X_vowsFrom_d40 (tgt := 142) rfl (fun h40 => ?_) (fun h40 => ?_)
      · refine zb X_vowsFrom_s142 rfl ?_
        refine z_ret X_vowsFrom_d144 rfl ?_
        exact ⟨rfl, hS, onlyX.rf⟩
      · refine absurd ((lg_cmp_lt _ _).mpr ?_) h40
        rw [show zlc 0 * (0 : Int32).toInt64 = 0 from by decide, Int64.add_zero, Int64.lt_iff_toInt_lt, Int32.toInt_toInt64]
        exact Int32.lt_iff_toInt_lt.mp hi
  rw [if_neg hi]
  obtain ⟨a, ha, rfl⟩ := nI_of hi
  rw [nI_clamp ha]
  refine zb X_vowsFrom_s0 rfl ?_
  exact w_vowsF_3 (by omega) h2s hm em hN ha N 0 S.1 _ _ _ _ _ _ μ (by omega) hS onlyX.rf rfl

set_option maxRecDepth 100000 in
set_option maxHeartbeats 4000000 in
theorem xs_vows_3 {g : zG} {d : Nat} {S : zS} {μ : zMem} {i n : Int32} (hd : 4 ≤ d) (hS : xS S μ) (hok : okH S) : zM g d X_vows [.ref 1, .int (nI 3), .int i, .int n] μ (pO xS onlyX (opVows S (nI 3) i n) μ) := by
  refine zM_of (by decide +kernel) rfl rfl (Nat.le_of_ble_eq_true rfl) rfl ?_
  obtain ⟨ho, h2, hT, hC, hD, hI, hA, hH⟩ := hS
  have hS : xS S μ := ⟨ho, h2, hT, hC, hD, hI, hA, hH⟩
  have hb := ho.b
  have hv := ho.v
  have hB6 := ho.b6
  have hV12 := ho.v12
  have hz : zq sX μ μ := zq.rf
  have xs := xsh (s := 3) hS hok (by omega)
  unfold opVows
  rw [show (nI 3).toNatClampNeg = 3 from rfl]
  refine zb X_vows_s0 rfl ?_
  refine zcallV X_vows_d2 k10_93 (by omega) (x_shelf_3 (by omega)) rfl rfl rfl (Nat.le_of_ble_eq_true rfl) ?_
  rintro _ μx ⟨rfl, hx⟩
  rw [hx]
  clear hx μx
  refine zb X_vows_s5 rfl ?_
  refine z_null X_vows_d9 ?_
  refine zb X_vows_s12 rfl ?_
  refine z_clt X_vows_d14 (tgt := 23) rfl (fun h14 => ?_) (fun h14 => ?_)
  · refine zb X_vows_s23 rfl ?_
    refine z_ret X_vows_d24 rfl ?_
    first
      | exact ⟨rfl, hS1, hO1⟩
      | (rw [if_pos (fun y => absurd h14 (Int32.not_lt.mpr y.2.1))]; exact ⟨rfl, hS, onlyX.rf⟩)
      | (rw [if_pos (fun y => h20 y.2.2)]; exact ⟨rfl, hS, onlyX.rf⟩)
      | (have g0 : bE 16 μ := zB_ne0.mp h30
         rw [if_neg (fun y => y ⟨⟨by decide, by decide⟩, Int32.not_lt.mp h14, h20⟩), if_pos (by
           rcases xs with z | z | z
           · exact z.1
           · exact absurd g0 z.2.1
           · exact absurd g0 z.2.1)]
         exact ⟨rfl, hS, onlyX.rf⟩)
      | (have g0 : ¬ bE 16 μ := zB_eq0.mp h30
         have g1 : ¬ (bR 16 μ ∧ μ.1 16 2 = 0) := zB_eq0.mp h41
         rw [if_neg (fun y => y ⟨⟨by decide, by decide⟩, Int32.not_lt.mp h14, h20⟩), if_neg (by
           rcases xs with z | z | z
           · exact absurd z.2.1 g0
           · rw [z.1]; decide
           · rw [z.1]; decide), if_pos (by
           rcases xs with z | z | z
           · exact absurd z.2.1 g0
           · intro y; rw [z.1] at y; exact absurd y.1 (by decide)
           · exact fun y => g1 ⟨z.2.2.1, z.2.2.2.1.trans y.2⟩)]
         exact ⟨rfl, hS, onlyX.rf⟩)
  · refine zb X_vows_s17 rfl ?_
    refine z_cle X_vows_d20 (tgt := 25) rfl (fun h20 => ?_) (fun h20 => ?_)
    · refine zb X_vows_s25 rfl ?_
      refine zcallV X_vows_d27 k10_97 (by omega) (x_isEmpty_3) rfl rfl rfl (Nat.le_of_ble_eq_true rfl) ?_
      rintro _ μx ⟨rfl, hx⟩
      rw [hx]
      clear hx μx
      refine z_eq X_vows_d30 (tgt := 35) rfl (fun h30 => ?_) (fun h30 => ?_)
      · refine zb X_vows_s35 rfl ?_
        refine zcallV X_vows_d38 k10_101 (by omega) (x_isRowOf_3 _ (by omega)) rfl rfl rfl (Nat.le_of_ble_eq_true rfl) ?_
        rintro _ μx ⟨rfl, hx⟩
        rw [hx]
        clear hx μx
        refine z_eq X_vows_d41 (tgt := 55) rfl (fun h41 => ?_) (fun h41 => ?_)
        · refine zb X_vows_s55 rfl ?_
          refine z_ret X_vows_d57 rfl ?_
          first
            | exact ⟨rfl, hS1, hO1⟩
            | (rw [if_pos (fun y => absurd h14 (Int32.not_lt.mpr y.2.1))]; exact ⟨rfl, hS, onlyX.rf⟩)
            | (rw [if_pos (fun y => h20 y.2.2)]; exact ⟨rfl, hS, onlyX.rf⟩)
            | (have g0 : bE 16 μ := zB_ne0.mp h30
               rw [if_neg (fun y => y ⟨⟨by decide, by decide⟩, Int32.not_lt.mp h14, h20⟩), if_pos (by
                 rcases xs with z | z | z
                 · exact z.1
                 · exact absurd g0 z.2.1
                 · exact absurd g0 z.2.1)]
               exact ⟨rfl, hS, onlyX.rf⟩)
            | (have g0 : ¬ bE 16 μ := zB_eq0.mp h30
               have g1 : ¬ (bR 16 μ ∧ μ.1 16 2 = 0) := zB_eq0.mp h41
               rw [if_neg (fun y => y ⟨⟨by decide, by decide⟩, Int32.not_lt.mp h14, h20⟩), if_neg (by
                 rcases xs with z | z | z
                 · exact absurd z.2.1 g0
                 · rw [z.1]; decide
                 · rw [z.1]; decide), if_pos (by
                 rcases xs with z | z | z
                 · exact absurd z.2.1 g0
                 · intro y; rw [z.1] at y; exact absurd y.1 (by decide)
                 · exact fun y => g1 ⟨z.2.2.1, z.2.2.2.1.trans y.2⟩)]
               exact ⟨rfl, hS, onlyX.rf⟩)
        · have g1 : bR 16 μ ∧ μ.1 16 2 = 0 := zB_ne0.mp h41
          have g0 : ¬ bE 16 μ := zB_eq0.mp h30
          have g2 : hHeld S 3 = 2 ∧ hSort S 3 = 0 := by
            rcases xs with z | z | z
            · exact absurd g1.1 z.2.2
            · exact absurd g1.1 z.2.2.1
            · exact And.intro z.1 (z.2.2.2.1.symm.trans g1.2)
          obtain ⟨m, hm, em⟩ : ∃ m, m ≤ 60 ∧ hSize S 3 = nI m := by
            rcases hok 3 (by omega) with z | z | z
            · rw [g2.1] at z; exact absurd z (by decide)
            · rw [g2.1] at z; exact absurd z.1 (by decide)
            · exact z.2.2.1
          obtain ⟨N, hN, rfl⟩ := nI_of2 (M := 12) (n := 12) rfl (Int32.not_lt.mpr (Int32.le_trans (by decide) (Int32.not_lt.mp h14))) h20
          have hN1 : 1 ≤ N := (nI_leI (a := 1) (by omega) (by omega)).mp (Int32.not_lt.mp h14)
          rw [if_neg (fun y => y ⟨⟨by decide, by decide⟩, Int32.not_lt.mp h14, h20⟩), if_neg (show ¬ hHeld S 3 = 0 by rw [g2.1]; decide), if_neg (fun y => y g2), em, nI_clamp (show N < 2 ^ 31 by omega), nI_clamp (show m < 2 ^ 31 by omega)]
          refine zb X_vows_s44 rfl ?_
          refine zcallV X_vows_d49 k10_105 (by omega) (xs_vowsF_3 (by omega) hS g2.1 hm em hN1 hN) rfl rfl rfl (Nat.le_of_ble_eq_true rfl) ?_
          rintro _ μ1 ⟨rfl, hS1, hO1⟩
          refine zb X_vows_s52 rfl ?_
          refine z_ret X_vows_d57 rfl ?_
          first
            | exact ⟨rfl, hS1, hO1⟩
            | (rw [if_pos (fun y => absurd h14 (Int32.not_lt.mpr y.2.1))]; exact ⟨rfl, hS, onlyX.rf⟩)
            | (rw [if_pos (fun y => h20 y.2.2)]; exact ⟨rfl, hS, onlyX.rf⟩)
            | (have g0 : bE 16 μ := zB_ne0.mp h30
               rw [if_neg (fun y => y ⟨⟨by decide, by decide⟩, Int32.not_lt.mp h14, h20⟩), if_pos (by
                 rcases xs with z | z | z
                 · exact z.1
                 · exact absurd g0 z.2.1
                 · exact absurd g0 z.2.1)]
               exact ⟨rfl, hS, onlyX.rf⟩)
            | (have g0 : ¬ bE 16 μ := zB_eq0.mp h30
               have g1 : ¬ (bR 16 μ ∧ μ.1 16 2 = 0) := zB_eq0.mp h41
               rw [if_neg (fun y => y ⟨⟨by decide, by decide⟩, Int32.not_lt.mp h14, h20⟩), if_neg (by
                 rcases xs with z | z | z
                 · exact absurd z.2.1 g0
                 · rw [z.1]; decide
                 · rw [z.1]; decide), if_pos (by
                 rcases xs with z | z | z
                 · exact absurd z.2.1 g0
                 · intro y; rw [z.1] at y; exact absurd y.1 (by decide)
                 · exact fun y => g1 ⟨z.2.2.1, z.2.2.2.1.trans y.2⟩)]
               exact ⟨rfl, hS, onlyX.rf⟩)
      · refine zb X_vows_s33 rfl ?_
        refine z_ret X_vows_d34 rfl ?_
        first
          | exact ⟨rfl, hS1, hO1⟩
          | (rw [if_pos (fun y => absurd h14 (Int32.not_lt.mpr y.2.1))]; exact ⟨rfl, hS, onlyX.rf⟩)
          | (rw [if_pos (fun y => h20 y.2.2)]; exact ⟨rfl, hS, onlyX.rf⟩)
          | (have g0 : bE 16 μ := zB_ne0.mp h30
             rw [if_neg (fun y => y ⟨⟨by decide, by decide⟩, Int32.not_lt.mp h14, h20⟩), if_pos (by
               rcases xs with z | z | z
               · exact z.1
               · exact absurd g0 z.2.1
               · exact absurd g0 z.2.1)]
             exact ⟨rfl, hS, onlyX.rf⟩)
          | (have g0 : ¬ bE 16 μ := zB_eq0.mp h30
             have g1 : ¬ (bR 16 μ ∧ μ.1 16 2 = 0) := zB_eq0.mp h41
             rw [if_neg (fun y => y ⟨⟨by decide, by decide⟩, Int32.not_lt.mp h14, h20⟩), if_neg (by
               rcases xs with z | z | z
               · exact absurd z.2.1 g0
               · rw [z.1]; decide
               · rw [z.1]; decide), if_pos (by
               rcases xs with z | z | z
               · exact absurd z.2.1 g0
               · intro y; rw [z.1] at y; exact absurd y.1 (by decide)
               · exact fun y => g1 ⟨z.2.2.1, z.2.2.2.1.trans y.2⟩)]
             exact ⟨rfl, hS, onlyX.rf⟩)
    · refine zb X_vows_s23 rfl ?_
      refine z_ret X_vows_d24 rfl ?_
      first
        | exact ⟨rfl, hS1, hO1⟩
        | (rw [if_pos (fun y => absurd h14 (Int32.not_lt.mpr y.2.1))]; exact ⟨rfl, hS, onlyX.rf⟩)
        | (rw [if_pos (fun y => h20 y.2.2)]; exact ⟨rfl, hS, onlyX.rf⟩)
        | (have g0 : bE 16 μ := zB_ne0.mp h30
           rw [if_neg (fun y => y ⟨⟨by decide, by decide⟩, Int32.not_lt.mp h14, h20⟩), if_pos (by
             rcases xs with z | z | z
             · exact z.1
             · exact absurd g0 z.2.1
             · exact absurd g0 z.2.1)]
           exact ⟨rfl, hS, onlyX.rf⟩)
        | (have g0 : ¬ bE 16 μ := zB_eq0.mp h30
           have g1 : ¬ (bR 16 μ ∧ μ.1 16 2 = 0) := zB_eq0.mp h41
           rw [if_neg (fun y => y ⟨⟨by decide, by decide⟩, Int32.not_lt.mp h14, h20⟩), if_neg (by
             rcases xs with z | z | z
             · exact absurd z.2.1 g0
             · rw [z.1]; decide
             · rw [z.1]; decide), if_pos (by
             rcases xs with z | z | z
             · exact absurd z.2.1 g0
             · intro y; rw [z.1] at y; exact absurd y.1 (by decide)
             · exact fun y => g1 ⟨z.2.2.1, z.2.2.2.1.trans y.2⟩)]
           exact ⟨rfl, hS, onlyX.rf⟩)

set_option maxRecDepth 100000 in
set_option maxHeartbeats 4000000 in
theorem w_vowsF_4 {g : zG} {d : Nat} {S : zS} {μ0 : zMem} {m N a : Nat} {R : Nat × zF} (hd : 2 ≤ d) (h2s : hHeld S 4 = 2) (hm : m ≤ 60) (em : hSize S 4 = nI m) (hN : N ≤ 12) (ha : a < 2 ^ 31) : ∀ (j i : Nat) (F : zF) (x6 : Option Value) (x7 : Option Value) (x8 : Option Value) (x9 : Option Value) (x10 : Option Value) (x11 : Option Value) (μ : zMem), i + j = N → (xS (sF S F) μ) → (onlyX μ0 μ) → (voL (hInt S 4) m j (a + 3 * i) i F = R) → zW g X_vowsFrom d 6 [some (.ref 1), some (.ref 17), some (.int (nI a)), some (.int (nI N)), some (.int (nI i)), some (.int (nI i)), x6, x7, x8, x9, x10, x11] [] μ (pO xS onlyX (nI R.1, sF S R.2) μ0) := by
  intro j
  induction j with
  | zero =>
    intro i F x6 x7 x8 x9 x10 x11 μ hi  hv0 hv1 hv2
    have ho : oX F μ := hv0.1
    have hvv := ho.v
    have h12 := ho.v12
    have h6 := ho.b6
    have hsz : μ.1 17 3 = nI m := (xS_hz (S := sF S F) (s := 4) hv0 (by omega) h2s).trans em
    have hce : ∀ t, t < 60 → (μ.2.1 23 t).toInt32 = hInt S 4 t := fun t ht => xS_hc (S := sF S F) (s := 4) hv0 (by omega) t ht
    have hi : N = i := by omega
    subst hi
    refine zb X_vowsFrom_s6 rfl ?_
    refine z_cge X_vowsFrom_d9 (tgt := 142) rfl (fun h9 => ?_) (fun h9 => absurd (Int32.le_refl _) h9)
    refine zb X_vowsFrom_s142 rfl ?_
    refine z_ret X_vowsFrom_d144 rfl ?_
    rw [← hv2]
    exact ⟨rfl, hv0, hv1⟩
  | succ j ih =>
    intro i F x6 x7 x8 x9 x10 x11 μ hi  hv0 hv1 hv2
    have ho : oX F μ := hv0.1
    have hvv := ho.v
    have h12 := ho.v12
    have h6 := ho.b6
    have hsz : μ.1 17 3 = nI m := (xS_hz (S := sF S F) (s := 4) hv0 (by omega) h2s).trans em
    have hce : ∀ t, t < 60 → (μ.2.1 23 t).toInt32 = hInt S 4 t := fun t ht => xS_hc (S := sF S F) (s := 4) hv0 (by omega) t ht
    have hilt : i < N := by omega
    have ei : (nI i).toNatClampNeg = i := nI_clamp (by omega)
    rw [voL_s] at hv2
    have hpl : (nI a).toInt64 + 3 * (nI i).toInt64 = Int64.ofNat (a + 3 * i) := by
      rw [lI_of ha, lI_of (by omega), show (3 : Int64) = Int64.ofNat 3 from rfl, lI_mul, lI_add]
    have hszL : (nI m).toInt64 = Int64.ofNat m := lI_of (by omega)
    refine zb X_vowsFrom_s6 rfl ?_
    refine z_cge X_vowsFrom_d9 (tgt := 142) rfl (fun h9 => absurd h9 (show ¬ nI N ≤ nI i from nI_ge hilt (by omega))) (fun h9 => ?_)
    refine zb X_vowsFrom_s12 rfl ?_
    refine z_cge X_vowsFrom_d21 (tgt := 142) rfl (fun h21 => ?_) (fun h21 => ?_)
    · refine zb X_vowsFrom_s142 rfl ?_
      refine z_ret X_vowsFrom_d144 rfl ?_
      first
        | (have hV12 : fV F = 12 := by
             rw [hvv] at h21
             have := (nI_leI (a := 12) (by omega) (by omega)).mp h21
             omega
           rw [if_pos (show m < a + 3 * i + 3 ∨ fV F = 12 from Or.inr hV12)] at hv2
           rw [← hv2]
           exact ⟨rfl, hv0, hv1⟩)
        | (have hq : m < a + 3 * i + 3 := Nat.lt_of_not_le (fun z => h55 ((lg_cmp_le _ _).mpr ((lI_le (by omega) (by omega)).mpr z)))
           rw [if_pos (show m < a + 3 * i + 3 ∨ fV F = 12 from Or.inl hq)] at hv2
           rw [← hv2]
           exact ⟨rfl, hv0, hv1⟩)
        | (rw [if_neg (zB_eq0.mp h113)] at hv2
           rw [← hv2]
           exact ⟨rfl, hv0, hv1⟩)
    · have hV : fV F < 12 := by
        rw [hvv] at h21
        exact (nI_ltI (b := 12) (by omega) (by omega)).mp (Int32.not_le.mp h21)
      refine zb X_vowsFrom_s24 rfl ?_
      rw [show zlc 0 = (3 : Int64) from rfl, hpl]
      refine z_lt X_vowsFrom_d40 (tgt := 142) rfl (fun h40 => absurd ((lg_cmp_lt _ _).mp h40) (fun z => by have := (lI_lt (b := 0) (by omega) (by omega)).mp z; omega)) (fun h40 => ?_)
      refine zb X_vowsFrom_s43 rfl ?_
      rw [show zlc 0 = Int64.ofNat 3 from rfl, lI_add, hsz, hszL]
      refine z_le X_vowsFrom_d55 (tgt := 61) rfl (fun h55 => ?_) (fun h55 => ?_)
      · have hq3 : a + 3 * i + 3 ≤ m := (lI_le (by omega) (by omega)).mp ((lg_cmp_le _ _).mp h55)
        have eq0 : (Int64.ofNat (a + 3 * i)).toInt32 = nI (a + 3 * i) := lI_int (by omega)
        have c0 : (nI (a + 3 * i)).toNatClampNeg = a + 3 * i := nI_clamp (by omega)
        have c1 : (nI (a + 3 * i + 1)).toNatClampNeg = a + 3 * i + 1 := nI_clamp (by omega)
        have c2 : nI (a + 3 * i) + 2 = nI (a + 3 * i + 2) := by rw [show (2 : Int32) = nI 2 from rfl, nI_add]
        have c3 : (nI (a + 3 * i + 2)).toNatClampNeg = a + 3 * i + 2 := nI_clamp (by omega)
        have hp0 := hce (a + 3 * i) (by omega)
        have hp1 := hce (a + 3 * i + 1) (by omega)
        have hp2 := hce (a + 3 * i + 2) (by omega)
        have hv0i : vp_in (nI (a + 3 * i)) 60 := vp_in_nI (by omega) (by omega)
        have hv1i : vp_in (nI (a + 3 * i + 1)) 60 := vp_in_nI (by omega) (by omega)
        have hv2i : vp_in (nI (a + 3 * i + 2)) 60 := vp_in_nI (by omega) (by omega)
        rw [if_neg (show ¬ (m < a + 3 * i + 3 ∨ fV F = 12) from fun z => by omega)] at hv2
        refine zb3 X_vowsFrom_s61 rfl (by rw [eq0]; exact hv0i) (by rw [eq0, nI_1]; exact hv1i) (by rw [eq0, c2]; exact hv2i) ?_
        rw [eq0, nI_1, c2, c0, c1, c3, hp0, hp1, hp2]
        refine zcallV X_vowsFrom_d110 k10_82 (by omega) (x_isVow _ _ _ (by omega) ho) rfl rfl rfl (Nat.le_of_ble_eq_true rfl) ?_
        rintro _ μx ⟨rfl, hx⟩
        rw [hx]
        clear hx μx
        refine z_ne X_vowsFrom_d113 (tgt := 119) rfl (fun h113 => ?_) (fun h113 => ?_)
        · refine zb X_vowsFrom_s119 rfl ?_
          refine zcallV X_vowsFrom_d129 k10_89 (by omega) (xs_addVow (S := sF S F) (show fV F < 12 from hV) hv0) rfl rfl rfl (Nat.le_of_ble_eq_true rfl) ?_
          rintro _ μ1 ⟨rfl, hS1, hO1⟩
          refine zb X_vowsFrom_s132 rfl ?_
          rw [if_pos (zB_ne0.mp h113)] at hv2
          rw [nI_1]
          refine ih (i + 1) _ _ _ _ _ _ _ _ (by omega) hS1 (hv1.tr hO1) ?_
          exact hv2
        · refine zb X_vowsFrom_s116 rfl ?_
          refine z_ret X_vowsFrom_d144 rfl ?_
          first
            | (have hV12 : fV F = 12 := by
                 rw [hvv] at h21
                 have := (nI_leI (a := 12) (by omega) (by omega)).mp h21
                 omega
               rw [if_pos (show m < a + 3 * i + 3 ∨ fV F = 12 from Or.inr hV12)] at hv2
               rw [← hv2]
               exact ⟨rfl, hv0, hv1⟩)
            | (have hq : m < a + 3 * i + 3 := Nat.lt_of_not_le (fun z => h55 ((lg_cmp_le _ _).mpr ((lI_le (by omega) (by omega)).mpr z)))
               rw [if_pos (show m < a + 3 * i + 3 ∨ fV F = 12 from Or.inl hq)] at hv2
               rw [← hv2]
               exact ⟨rfl, hv0, hv1⟩)
            | (rw [if_neg (zB_eq0.mp h113)] at hv2
               rw [← hv2]
               exact ⟨rfl, hv0, hv1⟩)
      · refine zb X_vowsFrom_s58 rfl ?_
        refine z_ret X_vowsFrom_d144 rfl ?_
        first
          | (have hV12 : fV F = 12 := by
               rw [hvv] at h21
               have := (nI_leI (a := 12) (by omega) (by omega)).mp h21
               omega
             rw [if_pos (show m < a + 3 * i + 3 ∨ fV F = 12 from Or.inr hV12)] at hv2
             rw [← hv2]
             exact ⟨rfl, hv0, hv1⟩)
          | (have hq : m < a + 3 * i + 3 := Nat.lt_of_not_le (fun z => h55 ((lg_cmp_le _ _).mpr ((lI_le (by omega) (by omega)).mpr z)))
             rw [if_pos (show m < a + 3 * i + 3 ∨ fV F = 12 from Or.inl hq)] at hv2
             rw [← hv2]
             exact ⟨rfl, hv0, hv1⟩)
          | (rw [if_neg (zB_eq0.mp h113)] at hv2
             rw [← hv2]
             exact ⟨rfl, hv0, hv1⟩)

set_option maxRecDepth 100000 in
set_option maxHeartbeats 4000000 in
theorem xs_vowsF_4 {g : zG} {d : Nat} {S : zS} {μ : zMem} {m N : Nat} {i : Int32} (hd : 3 ≤ d) (hS : xS S μ) (h2s : hHeld S 4 = 2) (hm : m ≤ 60) (em : hSize S 4 = nI m) (h1N : 1 ≤ N) (hN : N ≤ 12) : zM g d X_vowsFrom [.ref 1, .ref 17, .int i, .int (nI N)] μ (pO xS onlyX (if i < 0 then ((0 : Int32), S) else (nI (voL (hInt S 4) m N i.toNatClampNeg 0 S.1).1, sF S (voL (hInt S 4) m N i.toNatClampNeg 0 S.1).2)) μ) := by
  refine zM_of (by decide +kernel) rfl rfl (Nat.le_of_ble_eq_true rfl) rfl ?_
  by_cases hi : i < 0
  · rw [if_pos hi]
    refine zb X_vowsFrom_s0 rfl ?_
    refine zb X_vowsFrom_s6 rfl ?_
    refine z_cge X_vowsFrom_d9 (tgt := 142) rfl (fun h9 => absurd h9 (nI_nle (n := N) (by omega) (by omega))) (fun h9 => ?_)
    refine zb X_vowsFrom_s12 rfl ?_
    refine z_cge X_vowsFrom_d21 (tgt := 142) rfl (fun h21 => ?_) (fun h21 => ?_)
    · refine zb X_vowsFrom_s142 rfl ?_
      refine z_ret X_vowsFrom_d144 rfl ?_
      exact ⟨rfl, hS, onlyX.rf⟩
    · refine zb X_vowsFrom_s24 rfl ?_
      refine z_lt X_vowsFrom_d40 (tgt := 142) rfl (fun h40 => ?_) (fun h40 => ?_)
      · refine zb X_vowsFrom_s142 rfl ?_
        refine z_ret X_vowsFrom_d144 rfl ?_
        exact ⟨rfl, hS, onlyX.rf⟩
      · refine absurd ((lg_cmp_lt _ _).mpr ?_) h40
        rw [show zlc 0 * (0 : Int32).toInt64 = 0 from by decide, Int64.add_zero, Int64.lt_iff_toInt_lt, Int32.toInt_toInt64]
        exact Int32.lt_iff_toInt_lt.mp hi
  rw [if_neg hi]
  obtain ⟨a, ha, rfl⟩ := nI_of hi
  rw [nI_clamp ha]
  refine zb X_vowsFrom_s0 rfl ?_
  exact w_vowsF_4 (by omega) h2s hm em hN ha N 0 S.1 _ _ _ _ _ _ μ (by omega) hS onlyX.rf rfl

set_option maxRecDepth 100000 in
set_option maxHeartbeats 4000000 in
theorem xs_vows_4 {g : zG} {d : Nat} {S : zS} {μ : zMem} {i n : Int32} (hd : 4 ≤ d) (hS : xS S μ) (hok : okH S) : zM g d X_vows [.ref 1, .int (nI 4), .int i, .int n] μ (pO xS onlyX (opVows S (nI 4) i n) μ) := by
  refine zM_of (by decide +kernel) rfl rfl (Nat.le_of_ble_eq_true rfl) rfl ?_
  obtain ⟨ho, h2, hT, hC, hD, hI, hA, hH⟩ := hS
  have hS : xS S μ := ⟨ho, h2, hT, hC, hD, hI, hA, hH⟩
  have hb := ho.b
  have hv := ho.v
  have hB6 := ho.b6
  have hV12 := ho.v12
  have hz : zq sX μ μ := zq.rf
  have xs := xsh (s := 4) hS hok (by omega)
  unfold opVows
  rw [show (nI 4).toNatClampNeg = 4 from rfl]
  refine zb X_vows_s0 rfl ?_
  refine zcallV X_vows_d2 k10_93 (by omega) (x_shelf_4 (by omega)) rfl rfl rfl (Nat.le_of_ble_eq_true rfl) ?_
  rintro _ μx ⟨rfl, hx⟩
  rw [hx]
  clear hx μx
  refine zb X_vows_s5 rfl ?_
  refine z_null X_vows_d9 ?_
  refine zb X_vows_s12 rfl ?_
  refine z_clt X_vows_d14 (tgt := 23) rfl (fun h14 => ?_) (fun h14 => ?_)
  · refine zb X_vows_s23 rfl ?_
    refine z_ret X_vows_d24 rfl ?_
    first
      | exact ⟨rfl, hS1, hO1⟩
      | (rw [if_pos (fun y => absurd h14 (Int32.not_lt.mpr y.2.1))]; exact ⟨rfl, hS, onlyX.rf⟩)
      | (rw [if_pos (fun y => h20 y.2.2)]; exact ⟨rfl, hS, onlyX.rf⟩)
      | (have g0 : bE 17 μ := zB_ne0.mp h30
         rw [if_neg (fun y => y ⟨⟨by decide, by decide⟩, Int32.not_lt.mp h14, h20⟩), if_pos (by
           rcases xs with z | z | z
           · exact z.1
           · exact absurd g0 z.2.1
           · exact absurd g0 z.2.1)]
         exact ⟨rfl, hS, onlyX.rf⟩)
      | (have g0 : ¬ bE 17 μ := zB_eq0.mp h30
         have g1 : ¬ (bR 17 μ ∧ μ.1 17 2 = 0) := zB_eq0.mp h41
         rw [if_neg (fun y => y ⟨⟨by decide, by decide⟩, Int32.not_lt.mp h14, h20⟩), if_neg (by
           rcases xs with z | z | z
           · exact absurd z.2.1 g0
           · rw [z.1]; decide
           · rw [z.1]; decide), if_pos (by
           rcases xs with z | z | z
           · exact absurd z.2.1 g0
           · intro y; rw [z.1] at y; exact absurd y.1 (by decide)
           · exact fun y => g1 ⟨z.2.2.1, z.2.2.2.1.trans y.2⟩)]
         exact ⟨rfl, hS, onlyX.rf⟩)
  · refine zb X_vows_s17 rfl ?_
    refine z_cle X_vows_d20 (tgt := 25) rfl (fun h20 => ?_) (fun h20 => ?_)
    · refine zb X_vows_s25 rfl ?_
      refine zcallV X_vows_d27 k10_97 (by omega) (x_isEmpty_4) rfl rfl rfl (Nat.le_of_ble_eq_true rfl) ?_
      rintro _ μx ⟨rfl, hx⟩
      rw [hx]
      clear hx μx
      refine z_eq X_vows_d30 (tgt := 35) rfl (fun h30 => ?_) (fun h30 => ?_)
      · refine zb X_vows_s35 rfl ?_
        refine zcallV X_vows_d38 k10_101 (by omega) (x_isRowOf_4 _ (by omega)) rfl rfl rfl (Nat.le_of_ble_eq_true rfl) ?_
        rintro _ μx ⟨rfl, hx⟩
        rw [hx]
        clear hx μx
        refine z_eq X_vows_d41 (tgt := 55) rfl (fun h41 => ?_) (fun h41 => ?_)
        · refine zb X_vows_s55 rfl ?_
          refine z_ret X_vows_d57 rfl ?_
          first
            | exact ⟨rfl, hS1, hO1⟩
            | (rw [if_pos (fun y => absurd h14 (Int32.not_lt.mpr y.2.1))]; exact ⟨rfl, hS, onlyX.rf⟩)
            | (rw [if_pos (fun y => h20 y.2.2)]; exact ⟨rfl, hS, onlyX.rf⟩)
            | (have g0 : bE 17 μ := zB_ne0.mp h30
               rw [if_neg (fun y => y ⟨⟨by decide, by decide⟩, Int32.not_lt.mp h14, h20⟩), if_pos (by
                 rcases xs with z | z | z
                 · exact z.1
                 · exact absurd g0 z.2.1
                 · exact absurd g0 z.2.1)]
               exact ⟨rfl, hS, onlyX.rf⟩)
            | (have g0 : ¬ bE 17 μ := zB_eq0.mp h30
               have g1 : ¬ (bR 17 μ ∧ μ.1 17 2 = 0) := zB_eq0.mp h41
               rw [if_neg (fun y => y ⟨⟨by decide, by decide⟩, Int32.not_lt.mp h14, h20⟩), if_neg (by
                 rcases xs with z | z | z
                 · exact absurd z.2.1 g0
                 · rw [z.1]; decide
                 · rw [z.1]; decide), if_pos (by
                 rcases xs with z | z | z
                 · exact absurd z.2.1 g0
                 · intro y; rw [z.1] at y; exact absurd y.1 (by decide)
                 · exact fun y => g1 ⟨z.2.2.1, z.2.2.2.1.trans y.2⟩)]
               exact ⟨rfl, hS, onlyX.rf⟩)
        · have g1 : bR 17 μ ∧ μ.1 17 2 = 0 := zB_ne0.mp h41
          have g0 : ¬ bE 17 μ := zB_eq0.mp h30
          have g2 : hHeld S 4 = 2 ∧ hSort S 4 = 0 := by
            rcases xs with z | z | z
            · exact absurd g1.1 z.2.2
            · exact absurd g1.1 z.2.2.1
            · exact And.intro z.1 (z.2.2.2.1.symm.trans g1.2)
          obtain ⟨m, hm, em⟩ : ∃ m, m ≤ 60 ∧ hSize S 4 = nI m := by
            rcases hok 4 (by omega) with z | z | z
            · rw [g2.1] at z; exact absurd z (by decide)
            · rw [g2.1] at z; exact absurd z.1 (by decide)
            · exact z.2.2.1
          obtain ⟨N, hN, rfl⟩ := nI_of2 (M := 12) (n := 12) rfl (Int32.not_lt.mpr (Int32.le_trans (by decide) (Int32.not_lt.mp h14))) h20
          have hN1 : 1 ≤ N := (nI_leI (a := 1) (by omega) (by omega)).mp (Int32.not_lt.mp h14)
          rw [if_neg (fun y => y ⟨⟨by decide, by decide⟩, Int32.not_lt.mp h14, h20⟩), if_neg (show ¬ hHeld S 4 = 0 by rw [g2.1]; decide), if_neg (fun y => y g2), em, nI_clamp (show N < 2 ^ 31 by omega), nI_clamp (show m < 2 ^ 31 by omega)]
          refine zb X_vows_s44 rfl ?_
          refine zcallV X_vows_d49 k10_105 (by omega) (xs_vowsF_4 (by omega) hS g2.1 hm em hN1 hN) rfl rfl rfl (Nat.le_of_ble_eq_true rfl) ?_
          rintro _ μ1 ⟨rfl, hS1, hO1⟩
          refine zb X_vows_s52 rfl ?_
          refine z_ret X_vows_d57 rfl ?_
          first
            | exact ⟨rfl, hS1, hO1⟩
            | (rw [if_pos (fun y => absurd h14 (Int32.not_lt.mpr y.2.1))]; exact ⟨rfl, hS, onlyX.rf⟩)
            | (rw [if_pos (fun y => h20 y.2.2)]; exact ⟨rfl, hS, onlyX.rf⟩)
            | (have g0 : bE 17 μ := zB_ne0.mp h30
               rw [if_neg (fun y => y ⟨⟨by decide, by decide⟩, Int32.not_lt.mp h14, h20⟩), if_pos (by
                 rcases xs with z | z | z
                 · exact z.1
                 · exact absurd g0 z.2.1
                 · exact absurd g0 z.2.1)]
               exact ⟨rfl, hS, onlyX.rf⟩)
            | (have g0 : ¬ bE 17 μ := zB_eq0.mp h30
               have g1 : ¬ (bR 17 μ ∧ μ.1 17 2 = 0) := zB_eq0.mp h41
               rw [if_neg (fun y => y ⟨⟨by decide, by decide⟩, Int32.not_lt.mp h14, h20⟩), if_neg (by
                 rcases xs with z | z | z
                 · exact absurd z.2.1 g0
                 · rw [z.1]; decide
                 · rw [z.1]; decide), if_pos (by
                 rcases xs with z | z | z
                 · exact absurd z.2.1 g0
                 · intro y; rw [z.1] at y; exact absurd y.1 (by decide)
                 · exact fun y => g1 ⟨z.2.2.1, z.2.2.2.1.trans y.2⟩)]
               exact ⟨rfl, hS, onlyX.rf⟩)
      · refine zb X_vows_s33 rfl ?_
        refine z_ret X_vows_d34 rfl ?_
        first
          | exact ⟨rfl, hS1, hO1⟩
          | (rw [if_pos (fun y => absurd h14 (Int32.not_lt.mpr y.2.1))]; exact ⟨rfl, hS, onlyX.rf⟩)
          | (rw [if_pos (fun y => h20 y.2.2)]; exact ⟨rfl, hS, onlyX.rf⟩)
          | (have g0 : bE 17 μ := zB_ne0.mp h30
             rw [if_neg (fun y => y ⟨⟨by decide, by decide⟩, Int32.not_lt.mp h14, h20⟩), if_pos (by
               rcases xs with z | z | z
               · exact z.1
               · exact absurd g0 z.2.1
               · exact absurd g0 z.2.1)]
             exact ⟨rfl, hS, onlyX.rf⟩)
          | (have g0 : ¬ bE 17 μ := zB_eq0.mp h30
             have g1 : ¬ (bR 17 μ ∧ μ.1 17 2 = 0) := zB_eq0.mp h41
             rw [if_neg (fun y => y ⟨⟨by decide, by decide⟩, Int32.not_lt.mp h14, h20⟩), if_neg (by
               rcases xs with z | z | z
               · exact absurd z.2.1 g0
               · rw [z.1]; decide
               · rw [z.1]; decide), if_pos (by
               rcases xs with z | z | z
               · exact absurd z.2.1 g0
               · intro y; rw [z.1] at y; exact absurd y.1 (by decide)
               · exact fun y => g1 ⟨z.2.2.1, z.2.2.2.1.trans y.2⟩)]
             exact ⟨rfl, hS, onlyX.rf⟩)
    · refine zb X_vows_s23 rfl ?_
      refine z_ret X_vows_d24 rfl ?_
      first
        | exact ⟨rfl, hS1, hO1⟩
        | (rw [if_pos (fun y => absurd h14 (Int32.not_lt.mpr y.2.1))]; exact ⟨rfl, hS, onlyX.rf⟩)
        | (rw [if_pos (fun y => h20 y.2.2)]; exact ⟨rfl, hS, onlyX.rf⟩)
        | (have g0 : bE 17 μ := zB_ne0.mp h30
           rw [if_neg (fun y => y ⟨⟨by decide, by decide⟩, Int32.not_lt.mp h14, h20⟩), if_pos (by
             rcases xs with z | z | z
             · exact z.1
             · exact absurd g0 z.2.1
             · exact absurd g0 z.2.1)]
           exact ⟨rfl, hS, onlyX.rf⟩)
        | (have g0 : ¬ bE 17 μ := zB_eq0.mp h30
           have g1 : ¬ (bR 17 μ ∧ μ.1 17 2 = 0) := zB_eq0.mp h41
           rw [if_neg (fun y => y ⟨⟨by decide, by decide⟩, Int32.not_lt.mp h14, h20⟩), if_neg (by
             rcases xs with z | z | z
             · exact absurd z.2.1 g0
             · rw [z.1]; decide
             · rw [z.1]; decide), if_pos (by
             rcases xs with z | z | z
             · exact absurd z.2.1 g0
             · intro y; rw [z.1] at y; exact absurd y.1 (by decide)
             · exact fun y => g1 ⟨z.2.2.1, z.2.2.2.1.trans y.2⟩)]
           exact ⟨rfl, hS, onlyX.rf⟩)

set_option maxRecDepth 100000 in
set_option maxHeartbeats 4000000 in
theorem w_vowsF_5 {g : zG} {d : Nat} {S : zS} {μ0 : zMem} {m N a : Nat} {R : Nat × zF} (hd : 2 ≤ d) (h2s : hHeld S 5 = 2) (hm : m ≤ 60) (em : hSize S 5 = nI m) (hN : N ≤ 12) (ha : a < 2 ^ 31) : ∀ (j i : Nat) (F : zF) (x6 : Option Value) (x7 : Option Value) (x8 : Option Value) (x9 : Option Value) (x10 : Option Value) (x11 : Option Value) (μ : zMem), i + j = N → (xS (sF S F) μ) → (onlyX μ0 μ) → (voL (hInt S 5) m j (a + 3 * i) i F = R) → zW g X_vowsFrom d 6 [some (.ref 1), some (.ref 18), some (.int (nI a)), some (.int (nI N)), some (.int (nI i)), some (.int (nI i)), x6, x7, x8, x9, x10, x11] [] μ (pO xS onlyX (nI R.1, sF S R.2) μ0) := by
  intro j
  induction j with
  | zero =>
    intro i F x6 x7 x8 x9 x10 x11 μ hi  hv0 hv1 hv2
    have ho : oX F μ := hv0.1
    have hvv := ho.v
    have h12 := ho.v12
    have h6 := ho.b6
    have hsz : μ.1 18 3 = nI m := (xS_hz (S := sF S F) (s := 5) hv0 (by omega) h2s).trans em
    have hce : ∀ t, t < 60 → (μ.2.1 24 t).toInt32 = hInt S 5 t := fun t ht => xS_hc (S := sF S F) (s := 5) hv0 (by omega) t ht
    have hi : N = i := by omega
    subst hi
    refine zb X_vowsFrom_s6 rfl ?_
    refine z_cge X_vowsFrom_d9 (tgt := 142) rfl (fun h9 => ?_) (fun h9 => absurd (Int32.le_refl _) h9)
    refine zb X_vowsFrom_s142 rfl ?_
    refine z_ret X_vowsFrom_d144 rfl ?_
    rw [← hv2]
    exact ⟨rfl, hv0, hv1⟩
  | succ j ih =>
    intro i F x6 x7 x8 x9 x10 x11 μ hi  hv0 hv1 hv2
    have ho : oX F μ := hv0.1
    have hvv := ho.v
    have h12 := ho.v12
    have h6 := ho.b6
    have hsz : μ.1 18 3 = nI m := (xS_hz (S := sF S F) (s := 5) hv0 (by omega) h2s).trans em
    have hce : ∀ t, t < 60 → (μ.2.1 24 t).toInt32 = hInt S 5 t := fun t ht => xS_hc (S := sF S F) (s := 5) hv0 (by omega) t ht
    have hilt : i < N := by omega
    have ei : (nI i).toNatClampNeg = i := nI_clamp (by omega)
    rw [voL_s] at hv2
    have hpl : (nI a).toInt64 + 3 * (nI i).toInt64 = Int64.ofNat (a + 3 * i) := by
      rw [lI_of ha, lI_of (by omega), show (3 : Int64) = Int64.ofNat 3 from rfl, lI_mul, lI_add]
    have hszL : (nI m).toInt64 = Int64.ofNat m := lI_of (by omega)
    refine zb X_vowsFrom_s6 rfl ?_
    refine z_cge X_vowsFrom_d9 (tgt := 142) rfl (fun h9 => absurd h9 (show ¬ nI N ≤ nI i from nI_ge hilt (by omega))) (fun h9 => ?_)
    refine zb X_vowsFrom_s12 rfl ?_
    refine z_cge X_vowsFrom_d21 (tgt := 142) rfl (fun h21 => ?_) (fun h21 => ?_)
    · refine zb X_vowsFrom_s142 rfl ?_
      refine z_ret X_vowsFrom_d144 rfl ?_
      first
        | (have hV12 : fV F = 12 := by
             rw [hvv] at h21
             have := (nI_leI (a := 12) (by omega) (by omega)).mp h21
             omega
           rw [if_pos (show m < a + 3 * i + 3 ∨ fV F = 12 from Or.inr hV12)] at hv2
           rw [← hv2]
           exact ⟨rfl, hv0, hv1⟩)
        | (have hq : m < a + 3 * i + 3 := Nat.lt_of_not_le (fun z => h55 ((lg_cmp_le _ _).mpr ((lI_le (by omega) (by omega)).mpr z)))
           rw [if_pos (show m < a + 3 * i + 3 ∨ fV F = 12 from Or.inl hq)] at hv2
           rw [← hv2]
           exact ⟨rfl, hv0, hv1⟩)
        | (rw [if_neg (zB_eq0.mp h113)] at hv2
           rw [← hv2]
           exact ⟨rfl, hv0, hv1⟩)
    · have hV : fV F < 12 := by
        rw [hvv] at h21
        exact (nI_ltI (b := 12) (by omega) (by omega)).mp (Int32.not_le.mp h21)
      refine zb X_vowsFrom_s24 rfl ?_
      rw [show zlc 0 = (3 : Int64) from rfl, hpl]
      refine z_lt X_vowsFrom_d40 (tgt := 142) rfl (fun h40 => absurd ((lg_cmp_lt _ _).mp h40) (fun z => by have := (lI_lt (b := 0) (by omega) (by omega)).mp z; omega)) (fun h40 => ?_)
      refine zb X_vowsFrom_s43 rfl ?_
      rw [show zlc 0 = Int64.ofNat 3 from rfl, lI_add, hsz, hszL]
      refine z_le X_vowsFrom_d55 (tgt := 61) rfl (fun h55 => ?_) (fun h55 => ?_)
      · have hq3 : a + 3 * i + 3 ≤ m := (lI_le (by omega) (by omega)).mp ((lg_cmp_le _ _).mp h55)
        have eq0 : (Int64.ofNat (a + 3 * i)).toInt32 = nI (a + 3 * i) := lI_int (by omega)
        have c0 : (nI (a + 3 * i)).toNatClampNeg = a + 3 * i := nI_clamp (by omega)
        have c1 : (nI (a + 3 * i + 1)).toNatClampNeg = a + 3 * i + 1 := nI_clamp (by omega)
        have c2 : nI (a + 3 * i) + 2 = nI (a + 3 * i + 2) := by rw [show (2 : Int32) = nI 2 from rfl, nI_add]
        have c3 : (nI (a + 3 * i + 2)).toNatClampNeg = a + 3 * i + 2 := nI_clamp (by omega)
        have hp0 := hce (a + 3 * i) (by omega)
        have hp1 := hce (a + 3 * i + 1) (by omega)
        have hp2 := hce (a + 3 * i + 2) (by omega)
        have hv0i : vp_in (nI (a + 3 * i)) 60 := vp_in_nI (by omega) (by omega)
        have hv1i : vp_in (nI (a + 3 * i + 1)) 60 := vp_in_nI (by omega) (by omega)
        have hv2i : vp_in (nI (a + 3 * i + 2)) 60 := vp_in_nI (by omega) (by omega)
        rw [if_neg (show ¬ (m < a + 3 * i + 3 ∨ fV F = 12) from fun z => by omega)] at hv2
        refine zb3 X_vowsFrom_s61 rfl (by rw [eq0]; exact hv0i) (by rw [eq0, nI_1]; exact hv1i) (by rw [eq0, c2]; exact hv2i) ?_
        rw [eq0, nI_1, c2, c0, c1, c3, hp0, hp1, hp2]
        refine zcallV X_vowsFrom_d110 k10_82 (by omega) (x_isVow _ _ _ (by omega) ho) rfl rfl rfl (Nat.le_of_ble_eq_true rfl) ?_
        rintro _ μx ⟨rfl, hx⟩
        rw [hx]
        clear hx μx
        refine z_ne X_vowsFrom_d113 (tgt := 119) rfl (fun h113 => ?_) (fun h113 => ?_)
        · refine zb X_vowsFrom_s119 rfl ?_
          refine zcallV X_vowsFrom_d129 k10_89 (by omega) (xs_addVow (S := sF S F) (show fV F < 12 from hV) hv0) rfl rfl rfl (Nat.le_of_ble_eq_true rfl) ?_
          rintro _ μ1 ⟨rfl, hS1, hO1⟩
          refine zb X_vowsFrom_s132 rfl ?_
          rw [if_pos (zB_ne0.mp h113)] at hv2
          rw [nI_1]
          refine ih (i + 1) _ _ _ _ _ _ _ _ (by omega) hS1 (hv1.tr hO1) ?_
          exact hv2
        · refine zb X_vowsFrom_s116 rfl ?_
          refine z_ret X_vowsFrom_d144 rfl ?_
          first
            | (have hV12 : fV F = 12 := by
                 rw [hvv] at h21
                 have := (nI_leI (a := 12) (by omega) (by omega)).mp h21
                 omega
               rw [if_pos (show m < a + 3 * i + 3 ∨ fV F = 12 from Or.inr hV12)] at hv2
               rw [← hv2]
               exact ⟨rfl, hv0, hv1⟩)
            | (have hq : m < a + 3 * i + 3 := Nat.lt_of_not_le (fun z => h55 ((lg_cmp_le _ _).mpr ((lI_le (by omega) (by omega)).mpr z)))
               rw [if_pos (show m < a + 3 * i + 3 ∨ fV F = 12 from Or.inl hq)] at hv2
               rw [← hv2]
               exact ⟨rfl, hv0, hv1⟩)
            | (rw [if_neg (zB_eq0.mp h113)] at hv2
               rw [← hv2]
               exact ⟨rfl, hv0, hv1⟩)
      · refine zb X_vowsFrom_s58 rfl ?_
        refine z_ret X_vowsFrom_d144 rfl ?_
        first
          | (have hV12 : fV F = 12 := by
               rw [hvv] at h21
               have := (nI_leI (a := 12) (by omega) (by omega)).mp h21
               omega
             rw [if_pos (show m < a + 3 * i + 3 ∨ fV F = 12 from Or.inr hV12)] at hv2
             rw [← hv2]
             exact ⟨rfl, hv0, hv1⟩)
          | (have hq : m < a + 3 * i + 3 := Nat.lt_of_not_le (fun z => h55 ((lg_cmp_le _ _).mpr ((lI_le (by omega) (by omega)).mpr z)))
             rw [if_pos (show m < a + 3 * i + 3 ∨ fV F = 12 from Or.inl hq)] at hv2
             rw [← hv2]
             exact ⟨rfl, hv0, hv1⟩)
          | (rw [if_neg (zB_eq0.mp h113)] at hv2
             rw [← hv2]
             exact ⟨rfl, hv0, hv1⟩)

set_option maxRecDepth 100000 in
set_option maxHeartbeats 4000000 in
theorem xs_vowsF_5 {g : zG} {d : Nat} {S : zS} {μ : zMem} {m N : Nat} {i : Int32} (hd : 3 ≤ d) (hS : xS S μ) (h2s : hHeld S 5 = 2) (hm : m ≤ 60) (em : hSize S 5 = nI m) (h1N : 1 ≤ N) (hN : N ≤ 12) : zM g d X_vowsFrom [.ref 1, .ref 18, .int i, .int (nI N)] μ (pO xS onlyX (if i < 0 then ((0 : Int32), S) else (nI (voL (hInt S 5) m N i.toNatClampNeg 0 S.1).1, sF S (voL (hInt S 5) m N i.toNatClampNeg 0 S.1).2)) μ) := by
  refine zM_of (by decide +kernel) rfl rfl (Nat.le_of_ble_eq_true rfl) rfl ?_
  by_cases hi : i < 0
  · rw [if_pos hi]
    refine zb X_vowsFrom_s0 rfl ?_
    refine zb X_vowsFrom_s6 rfl ?_
    refine z_cge X_vowsFrom_d9 (tgt := 142) rfl (fun h9 => absurd h9 (nI_nle (n := N) (by omega) (by omega))) (fun h9 => ?_)
    refine zb X_vowsFrom_s12 rfl ?_
    refine z_cge X_vowsFrom_d21 (tgt := 142) rfl (fun h21 => ?_) (fun h21 => ?_)
    · refine zb X_vowsFrom_s142 rfl ?_
      refine z_ret X_vowsFrom_d144 rfl ?_
      exact ⟨rfl, hS, onlyX.rf⟩
    · refine zb X_vowsFrom_s24 rfl ?_
      refine z_lt X_vowsFrom_d40 (tgt := 142) rfl (fun h40 => ?_) (fun h40 => ?_)
      · refine zb X_vowsFrom_s142 rfl ?_
        refine z_ret X_vowsFrom_d144 rfl ?_
        exact ⟨rfl, hS, onlyX.rf⟩
      · refine absurd ((lg_cmp_lt _ _).mpr ?_) h40
        rw [show zlc 0 * (0 : Int32).toInt64 = 0 from by decide, Int64.add_zero, Int64.lt_iff_toInt_lt, Int32.toInt_toInt64]
        exact Int32.lt_iff_toInt_lt.mp hi
  rw [if_neg hi]
  obtain ⟨a, ha, rfl⟩ := nI_of hi
  rw [nI_clamp ha]
  refine zb X_vowsFrom_s0 rfl ?_
  exact w_vowsF_5 (by omega) h2s hm em hN ha N 0 S.1 _ _ _ _ _ _ μ (by omega) hS onlyX.rf rfl

set_option maxRecDepth 100000 in
set_option maxHeartbeats 4000000 in
theorem xs_vows_5 {g : zG} {d : Nat} {S : zS} {μ : zMem} {i n : Int32} (hd : 4 ≤ d) (hS : xS S μ) (hok : okH S) : zM g d X_vows [.ref 1, .int (nI 5), .int i, .int n] μ (pO xS onlyX (opVows S (nI 5) i n) μ) := by
  refine zM_of (by decide +kernel) rfl rfl (Nat.le_of_ble_eq_true rfl) rfl ?_
  obtain ⟨ho, h2, hT, hC, hD, hI, hA, hH⟩ := hS
  have hS : xS S μ := ⟨ho, h2, hT, hC, hD, hI, hA, hH⟩
  have hb := ho.b
  have hv := ho.v
  have hB6 := ho.b6
  have hV12 := ho.v12
  have hz : zq sX μ μ := zq.rf
  have xs := xsh (s := 5) hS hok (by omega)
  unfold opVows
  rw [show (nI 5).toNatClampNeg = 5 from rfl]
  refine zb X_vows_s0 rfl ?_
  refine zcallV X_vows_d2 k10_93 (by omega) (x_shelf_5 (by omega)) rfl rfl rfl (Nat.le_of_ble_eq_true rfl) ?_
  rintro _ μx ⟨rfl, hx⟩
  rw [hx]
  clear hx μx
  refine zb X_vows_s5 rfl ?_
  refine z_null X_vows_d9 ?_
  refine zb X_vows_s12 rfl ?_
  refine z_clt X_vows_d14 (tgt := 23) rfl (fun h14 => ?_) (fun h14 => ?_)
  · refine zb X_vows_s23 rfl ?_
    refine z_ret X_vows_d24 rfl ?_
    first
      | exact ⟨rfl, hS1, hO1⟩
      | (rw [if_pos (fun y => absurd h14 (Int32.not_lt.mpr y.2.1))]; exact ⟨rfl, hS, onlyX.rf⟩)
      | (rw [if_pos (fun y => h20 y.2.2)]; exact ⟨rfl, hS, onlyX.rf⟩)
      | (have g0 : bE 18 μ := zB_ne0.mp h30
         rw [if_neg (fun y => y ⟨⟨by decide, by decide⟩, Int32.not_lt.mp h14, h20⟩), if_pos (by
           rcases xs with z | z | z
           · exact z.1
           · exact absurd g0 z.2.1
           · exact absurd g0 z.2.1)]
         exact ⟨rfl, hS, onlyX.rf⟩)
      | (have g0 : ¬ bE 18 μ := zB_eq0.mp h30
         have g1 : ¬ (bR 18 μ ∧ μ.1 18 2 = 0) := zB_eq0.mp h41
         rw [if_neg (fun y => y ⟨⟨by decide, by decide⟩, Int32.not_lt.mp h14, h20⟩), if_neg (by
           rcases xs with z | z | z
           · exact absurd z.2.1 g0
           · rw [z.1]; decide
           · rw [z.1]; decide), if_pos (by
           rcases xs with z | z | z
           · exact absurd z.2.1 g0
           · intro y; rw [z.1] at y; exact absurd y.1 (by decide)
           · exact fun y => g1 ⟨z.2.2.1, z.2.2.2.1.trans y.2⟩)]
         exact ⟨rfl, hS, onlyX.rf⟩)
  · refine zb X_vows_s17 rfl ?_
    refine z_cle X_vows_d20 (tgt := 25) rfl (fun h20 => ?_) (fun h20 => ?_)
    · refine zb X_vows_s25 rfl ?_
      refine zcallV X_vows_d27 k10_97 (by omega) (x_isEmpty_5) rfl rfl rfl (Nat.le_of_ble_eq_true rfl) ?_
      rintro _ μx ⟨rfl, hx⟩
      rw [hx]
      clear hx μx
      refine z_eq X_vows_d30 (tgt := 35) rfl (fun h30 => ?_) (fun h30 => ?_)
      · refine zb X_vows_s35 rfl ?_
        refine zcallV X_vows_d38 k10_101 (by omega) (x_isRowOf_5 _ (by omega)) rfl rfl rfl (Nat.le_of_ble_eq_true rfl) ?_
        rintro _ μx ⟨rfl, hx⟩
        rw [hx]
        clear hx μx
        refine z_eq X_vows_d41 (tgt := 55) rfl (fun h41 => ?_) (fun h41 => ?_)
        · refine zb X_vows_s55 rfl ?_
          refine z_ret X_vows_d57 rfl ?_
          first
            | exact ⟨rfl, hS1, hO1⟩
            | (rw [if_pos (fun y => absurd h14 (Int32.not_lt.mpr y.2.1))]; exact ⟨rfl, hS, onlyX.rf⟩)
            | (rw [if_pos (fun y => h20 y.2.2)]; exact ⟨rfl, hS, onlyX.rf⟩)
            | (have g0 : bE 18 μ := zB_ne0.mp h30
               rw [if_neg (fun y => y ⟨⟨by decide, by decide⟩, Int32.not_lt.mp h14, h20⟩), if_pos (by
                 rcases xs with z | z | z
                 · exact z.1
                 · exact absurd g0 z.2.1
                 · exact absurd g0 z.2.1)]
               exact ⟨rfl, hS, onlyX.rf⟩)
            | (have g0 : ¬ bE 18 μ := zB_eq0.mp h30
               have g1 : ¬ (bR 18 μ ∧ μ.1 18 2 = 0) := zB_eq0.mp h41
               rw [if_neg (fun y => y ⟨⟨by decide, by decide⟩, Int32.not_lt.mp h14, h20⟩), if_neg (by
                 rcases xs with z | z | z
                 · exact absurd z.2.1 g0
                 · rw [z.1]; decide
                 · rw [z.1]; decide), if_pos (by
                 rcases xs with z | z | z
                 · exact absurd z.2.1 g0
                 · intro y; rw [z.1] at y; exact absurd y.1 (by decide)
                 · exact fun y => g1 ⟨z.2.2.1, z.2.2.2.1.trans y.2⟩)]
               exact ⟨rfl, hS, onlyX.rf⟩)
        · have g1 : bR 18 μ ∧ μ.1 18 2 = 0 := zB_ne0.mp h41
          have g0 : ¬ bE 18 μ := zB_eq0.mp h30
          have g2 : hHeld S 5 = 2 ∧ hSort S 5 = 0 := by
            rcases xs with z | z | z
            · exact absurd g1.1 z.2.2
            · exact absurd g1.1 z.2.2.1
            · exact And.intro z.1 (z.2.2.2.1.symm.trans g1.2)
          obtain ⟨m, hm, em⟩ : ∃ m, m ≤ 60 ∧ hSize S 5 = nI m := by
            rcases hok 5 (by omega) with z | z | z
            · rw [g2.1] at z; exact absurd z (by decide)
            · rw [g2.1] at z; exact absurd z.1 (by decide)
            · exact z.2.2.1
          obtain ⟨N, hN, rfl⟩ := nI_of2 (M := 12) (n := 12) rfl (Int32.not_lt.mpr (Int32.le_trans (by decide) (Int32.not_lt.mp h14))) h20
          have hN1 : 1 ≤ N := (nI_leI (a := 1) (by omega) (by omega)).mp (Int32.not_lt.mp h14)
          rw [if_neg (fun y => y ⟨⟨by decide, by decide⟩, Int32.not_lt.mp h14, h20⟩), if_neg (show ¬ hHeld S 5 = 0 by rw [g2.1]; decide), if_neg (fun y => y g2), em, nI_clamp (show N < 2 ^ 31 by omega), nI_clamp (show m < 2 ^ 31 by omega)]
          refine zb X_vows_s44 rfl ?_
          refine zcallV X_vows_d49 k10_105 (by omega) (xs_vowsF_5 (by omega) hS g2.1 hm em hN1 hN) rfl rfl rfl (Nat.le_of_ble_eq_true rfl) ?_
          rintro _ μ1 ⟨rfl, hS1, hO1⟩
          refine zb X_vows_s52 rfl ?_
          refine z_ret X_vows_d57 rfl ?_
          first
            | exact ⟨rfl, hS1, hO1⟩
            | (rw [if_pos (fun y => absurd h14 (Int32.not_lt.mpr y.2.1))]; exact ⟨rfl, hS, onlyX.rf⟩)
            | (rw [if_pos (fun y => h20 y.2.2)]; exact ⟨rfl, hS, onlyX.rf⟩)
            | (have g0 : bE 18 μ := zB_ne0.mp h30
               rw [if_neg (fun y => y ⟨⟨by decide, by decide⟩, Int32.not_lt.mp h14, h20⟩), if_pos (by
                 rcases xs with z | z | z
                 · exact z.1
                 · exact absurd g0 z.2.1
                 · exact absurd g0 z.2.1)]
               exact ⟨rfl, hS, onlyX.rf⟩)
            | (have g0 : ¬ bE 18 μ := zB_eq0.mp h30
               have g1 : ¬ (bR 18 μ ∧ μ.1 18 2 = 0) := zB_eq0.mp h41
               rw [if_neg (fun y => y ⟨⟨by decide, by decide⟩, Int32.not_lt.mp h14, h20⟩), if_neg (by
                 rcases xs with z | z | z
                 · exact absurd z.2.1 g0
                 · rw [z.1]; decide
                 · rw [z.1]; decide), if_pos (by
                 rcases xs with z | z | z
                 · exact absurd z.2.1 g0
                 · intro y; rw [z.1] at y; exact absurd y.1 (by decide)
                 · exact fun y => g1 ⟨z.2.2.1, z.2.2.2.1.trans y.2⟩)]
               exact ⟨rfl, hS, onlyX.rf⟩)
      · refine zb X_vows_s33 rfl ?_
        refine z_ret X_vows_d34 rfl ?_
        first
          | exact ⟨rfl, hS1, hO1⟩
          | (rw [if_pos (fun y => absurd h14 (Int32.not_lt.mpr y.2.1))]; exact ⟨rfl, hS, onlyX.rf⟩)
          | (rw [if_pos (fun y => h20 y.2.2)]; exact ⟨rfl, hS, onlyX.rf⟩)
          | (have g0 : bE 18 μ := zB_ne0.mp h30
             rw [if_neg (fun y => y ⟨⟨by decide, by decide⟩, Int32.not_lt.mp h14, h20⟩), if_pos (by
               rcases xs with z | z | z
               · exact z.1
               · exact absurd g0 z.2.1
               · exact absurd g0 z.2.1)]
             exact ⟨rfl, hS, onlyX.rf⟩)
          | (have g0 : ¬ bE 18 μ := zB_eq0.mp h30
             have g1 : ¬ (bR 18 μ ∧ μ.1 18 2 = 0) := zB_eq0.mp h41
             rw [if_neg (fun y => y ⟨⟨by decide, by decide⟩, Int32.not_lt.mp h14, h20⟩), if_neg (by
               rcases xs with z | z | z
               · exact absurd z.2.1 g0
               · rw [z.1]; decide
               · rw [z.1]; decide), if_pos (by
               rcases xs with z | z | z
               · exact absurd z.2.1 g0
               · intro y; rw [z.1] at y; exact absurd y.1 (by decide)
               · exact fun y => g1 ⟨z.2.2.1, z.2.2.2.1.trans y.2⟩)]
             exact ⟨rfl, hS, onlyX.rf⟩)
    · refine zb X_vows_s23 rfl ?_
      refine z_ret X_vows_d24 rfl ?_
      first
        | exact ⟨rfl, hS1, hO1⟩
        | (rw [if_pos (fun y => absurd h14 (Int32.not_lt.mpr y.2.1))]; exact ⟨rfl, hS, onlyX.rf⟩)
        | (rw [if_pos (fun y => h20 y.2.2)]; exact ⟨rfl, hS, onlyX.rf⟩)
        | (have g0 : bE 18 μ := zB_ne0.mp h30
           rw [if_neg (fun y => y ⟨⟨by decide, by decide⟩, Int32.not_lt.mp h14, h20⟩), if_pos (by
             rcases xs with z | z | z
             · exact z.1
             · exact absurd g0 z.2.1
             · exact absurd g0 z.2.1)]
           exact ⟨rfl, hS, onlyX.rf⟩)
        | (have g0 : ¬ bE 18 μ := zB_eq0.mp h30
           have g1 : ¬ (bR 18 μ ∧ μ.1 18 2 = 0) := zB_eq0.mp h41
           rw [if_neg (fun y => y ⟨⟨by decide, by decide⟩, Int32.not_lt.mp h14, h20⟩), if_neg (by
             rcases xs with z | z | z
             · exact absurd z.2.1 g0
             · rw [z.1]; decide
             · rw [z.1]; decide), if_pos (by
             rcases xs with z | z | z
             · exact absurd z.2.1 g0
             · intro y; rw [z.1] at y; exact absurd y.1 (by decide)
             · exact fun y => g1 ⟨z.2.2.1, z.2.2.2.1.trans y.2⟩)]
           exact ⟨rfl, hS, onlyX.rf⟩)

set_option maxRecDepth 100000 in
set_option maxHeartbeats 4000000 in
theorem xs_vows_o {g : zG} {d : Nat} {S : zS} {μ : zMem} {s i n : Int32} (hd : 2 ≤ d) (hS : xS S μ) (hs : ¬ (0 ≤ s ∧ s ≤ 5)) : zM g d X_vows [.ref 1, .int s, .int i, .int n] μ (pO xS onlyX (opVows S s i n) μ) := by
  refine zM_of (by decide +kernel) rfl rfl (Nat.le_of_ble_eq_true rfl) rfl ?_
  refine zb X_vows_s0 rfl ?_
  refine zcallV X_vows_d2 k10_93 (by omega) (x_shelf_out (by omega) hs) rfl rfl rfl (Nat.le_of_ble_eq_true rfl) ?_
  rintro _ μx ⟨rfl, hx⟩
  rw [hx]
  clear hx μx
  refine zb X_vows_s5 rfl ?_
  refine z_nullN X_vows_d9 (tgt := 23) rfl ?_
  refine zb X_vows_s23 rfl ?_
  refine z_ret X_vows_d24 rfl ?_
  unfold opVows
  rw [if_pos (fun z => hs (g6 z.1))]
  exact ⟨rfl, hS, onlyX.rf⟩

theorem xs_vows {g : zG} {d : Nat} {S : zS} {μ : zMem} {s i n : Int32} (hd : 4 ≤ d) (hS : xS S μ) (hok : okH S) : zM g d X_vows [.ref 1, .int s, .int i, .int n] μ (pO xS onlyX (opVows S s i n) μ) := by
  by_cases hs : 0 ≤ s ∧ s ≤ 5
  · rcases s5 hs with rfl | rfl | rfl | rfl | rfl | rfl
    · exact xs_vows_0 hd hS hok
    · exact xs_vows_1 hd hS hok
    · exact xs_vows_2 hd hS hok
    · exact xs_vows_3 hd hS hok
    · exact xs_vows_4 hd hS hok
    · exact xs_vows_5 hd hS hok
  · exact xs_vows_o (by omega) hS hs
