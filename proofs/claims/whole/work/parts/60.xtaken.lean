/-! the class: the kind told of what a shelf holds -/
theorem unF_n {f : Nat} {k : Int32} : unF f (-1) k = false := by
  cases f with
  | zero => rfl
  | succ f => exact if_pos (by decide)
theorem unF_t {f K : Nat} {k : Int32} (hK : K < 8) (h : nI K = k) : unF (f + 1) (nI K) k = true := by
  unfold unF
  rw [if_neg (nI_pos (by omega)), if_pos h]
theorem unF_s {f K : Nat} {k : Int32} (hK : K < 8) (h : ¬ nI K = k) : unF (f + 1) (nI K) k = unF f (aboI (nI K)) k := by
  conv => lhs; unfold unF
  rw [if_neg (nI_pos (by omega)), if_neg h]
theorem zABOVE_I {k : Nat} (h : k < 8) : zABOVE k = aboI (nI k) := by
  have : ∀ k : Fin 8, zABOVE k.1 = aboI (nI k.1) := by decide
  exact this ⟨k, h⟩

set_option maxRecDepth 100000 in
set_option maxHeartbeats 4000000 in
theorem w_under_n {g : zG} {d i f : Nat} {k : Int32} {b0 : Option Value} {μ : zMem} : zW g A_isUnder d 22 [some (.ref 9), b0, some (.int k), some (.int (-1)), some (.int (nI i))] [] μ (fun r μ' => r = some (.int (zB (unF f (-1) k = true))) ∧ μ' = μ) := by
  refine zb A_isUnder_s22 rfl ?_
  refine z_cge A_isUnder_d26 (tgt := 58) rfl (fun h26 => ?_) (fun h26 => ?_)
  · refine zb A_isUnder_s58 rfl ?_
    refine z_retZ A_isUnder_d59 rfl (by first | exact Or.inl rfl | exact Or.inr rfl) ?_
    exact ⟨by rw [zB_f (show ¬ unF f (-1) k = true from fun z => by rw [unF_n] at z; cases z)], rfl⟩
  · refine zb A_isUnder_s29 rfl ?_
    refine z_lt A_isUnder_d30 (tgt := 58) rfl (fun h30 => ?_) (fun h30 => absurd (show (-1 : Int32) < 0 by decide) h30)
    refine zb A_isUnder_s58 rfl ?_
    refine z_retZ A_isUnder_d59 rfl (by first | exact Or.inl rfl | exact Or.inr rfl) ?_
    exact ⟨by rw [zB_f (show ¬ unF f (-1) k = true from fun z => by rw [unF_n] at z; cases z)], rfl⟩

set_option maxRecDepth 100000 in
set_option maxHeartbeats 4000000 in
theorem w_under {g : zG} {d : Nat} {k : Int32} {b0 : Option Value} {μ : zMem} : ∀ (f K i : Nat), K < 8 → rkN K < f → i + f ≤ 7 → zW g A_isUnder d 22 [some (.ref 9), b0, some (.int k), some (.int (nI K)), some (.int (nI i))] [] μ (fun r μ' => r = some (.int (zB (unF (f + 1) (nI K) k = true))) ∧ μ' = μ) := by
  intro f
  induction f with
  | zero => intro K i hK h; omega
  | succ f ih =>
    intro K i hK hr hi
    have hvK : vp_in (nI K) 8 := vp_in_nI (by omega) (by omega)
    have eK : (nI K).toNatClampNeg = K := nI_clamp (by omega)
    refine zb A_isUnder_s22 rfl ?_
    refine z_cge A_isUnder_d26 (tgt := 58) rfl (fun h26 => absurd h26 (nI_ge (b := 8) (by omega) (by omega))) (fun h26 => ?_)
    refine zb A_isUnder_s29 rfl ?_
    refine z_lt A_isUnder_d30 (tgt := 58) rfl (fun h30 => absurd h30 (nI_pos (by omega))) (fun h30 => ?_)
    refine zb A_isUnder_s33 rfl ?_
    refine z_cge A_isUnder_d36 (tgt := 58) rfl (fun h36 => absurd h36 (nI_ge (b := 8) (by omega) (by omega))) (fun h36 => ?_)
    refine zb A_isUnder_s39 rfl ?_
    refine z_cne A_isUnder_d41 (tgt := 46) rfl (fun h41 => ?_) (fun h41 => ?_)
    · refine zb1 A_isUnder_s46 rfl hvK ?_
      rw [nI_1, eK, show ((8, zABOVE) : Nat × (Nat → Int32)).2 K = aboI (nI K) from zABOVE_I hK, unF_s hK h41]
      rcases Nat.eq_zero_or_pos K with z | z
      · subst z
        exact w_under_n
      · rw [aboI_N hK z]
        have hr' := rkN_lt hK z
        exact ih (aboN K) (i + 1) hr'.2 (by omega) (by omega)
    · refine zb A_isUnder_s44 rfl ?_
      refine z_retZ A_isUnder_d45 rfl (by first | exact Or.inl rfl | exact Or.inr rfl) ?_
      exact ⟨by rw [zB_t (unF_t hK h41)], rfl⟩

set_option maxRecDepth 100000 in
set_option maxHeartbeats 4000000 in
theorem x_isUnder {g : zG} {d n b K : Nat} {k : Int32} {μ : zMem} (hd : 1 ≤ d) (e : μ.1 9 2 = nI n) (h50 : n ≤ 50) (hb : b < n) (eK : μ.1 83 b = nI K) (hK : K < 8) : zM g d A_isUnder [.ref 9, .int (nI b), .int k] μ (fun r μ' => r = some (.int (zB (unF 5 (nI K) k = true))) ∧ μ' = μ) := by
  refine zM_of (by decide +kernel) rfl rfl (Nat.le_of_ble_eq_true rfl) rfl ?_
  have hvb : vp_in (nI b) 50 := vp_in_nI (by omega) (by omega)
  have eb : (nI b).toNatClampNeg = b := nI_clamp (by omega)
  have hrk : rkN K < 4 := by
    have : ∀ k : Fin 8, rkN k.1 < 4 := by decide
    exact this ⟨K, hK⟩
  refine zb A_isUnder_s0 rfl ?_
  refine zcallV A_isUnder_d2 k0_31 (by omega) (x_hasBody (n := n) _ e) rfl rfl rfl (Nat.le_of_ble_eq_true rfl) ?_
  rintro _ μx ⟨rfl, hx⟩
  rw [hx]
  clear hx μx
  refine z_eq A_isUnder_d5 (tgt := 17) rfl (fun h5 => absurd h5 (by rw [zB_t (And.intro (Int32.not_lt.mp (nI_pos (by omega))) (nI_lt hb (by omega)))]; decide)) (fun h5 => ?_)
  refine zb1 A_isUnder_s8 rfl hvb ?_
  rw [eb, eK]
  exact w_under 4 K 0 hK hrk (by omega)

set_option maxRecDepth 100000 in
set_option maxHeartbeats 4000000 in
theorem xs_taken_0 {g : zG} {d : Nat} {S : zS} {μ : zMem} {k : Int32} (hd : 3 ≤ d) (hS : xS S μ) (hok : okH S) (hokA : okA S) : zM g d X_taken [.ref 1, .int (nI 0), .int k] μ (pO xS onlyX (opTaken S (nI 0) k, S) μ) := by
  refine zM_of (by decide +kernel) rfl rfl (Nat.le_of_ble_eq_true rfl) rfl ?_
  obtain ⟨ho, h2, hT, hC, hD, hI, hA, hH⟩ := hS
  have hS : xS S μ := ⟨ho, h2, hT, hC, hD, hI, hA, hH⟩
  have hb := ho.b
  have hv := ho.v
  have hB6 := ho.b6
  have hV12 := ho.v12
  have hz : zq sX μ μ := zq.rf
  replace hA : xA (zA_ S) μ := hA
  have e7 : μ.1 9 2 = nI (zA_ S).1.1 := hA.1
  have hA50 : (zA_ S).1.1 ≤ 50 := hA.2.1
  have e83 : μ.1 83 = (zA_ S).1.2 := hA.2.2.1
  have xs := xsh (s := 0) hS hok (by omega)
  refine zb X_taken_s0 rfl ?_
  refine zcallV X_taken_d2 k10_93 (by omega) (x_shelf_0 (by omega)) rfl rfl rfl (Nat.le_of_ble_eq_true rfl) ?_
  rintro _ μx ⟨rfl, hx⟩
  rw [hx]
  clear hx μx
  refine zb X_taken_s5 rfl ?_
  refine z_null X_taken_d7 ?_
  refine zb X_taken_s10 rfl ?_
  refine zcallS X_taken_d13 k10_170 (by omega) (x_isWithin _ _) rfl rfl (Nat.le_of_ble_eq_true rfl) ?_
  rintro _ μx ⟨rfl, hx⟩
  rw [hx]
  clear hx μx
  refine z_ne X_taken_d16 (tgt := 21) rfl (fun h16 => ?_) (fun h16 => ?_)
  · refine zb X_taken_s21 rfl ?_
    refine zcallV X_taken_d22 k10_97 (by omega) (x_isEmpty_0) rfl rfl rfl (Nat.le_of_ble_eq_true rfl) ?_
    rintro _ μx ⟨rfl, hx⟩
    rw [hx]
    clear hx μx
    refine z_eq X_taken_d25 (tgt := 31) rfl (fun h25 => ?_) (fun h25 => ?_)
    · refine zb X_taken_s31 rfl ?_
      refine zcallV X_taken_d32 k10_357 (by omega) (x_isRow_0) rfl rfl rfl (Nat.le_of_ble_eq_true rfl) ?_
      rintro _ μx ⟨rfl, hx⟩
      rw [hx]
      clear hx μx
      refine z_ne X_taken_d35 (tgt := 53) rfl (fun h35 => ?_) (fun h35 => ?_)
      · refine zb X_taken_s53 rfl ?_
        refine z_ret X_taken_d55 rfl ?_
        refine ⟨congrArg (fun z => some (Value.int z)) ?_, hS, onlyX.rf⟩
        first
          | (have g2 := zB_ne0.mp h50
             rw [e1, ebc, e83]
             unfold opTaken
             rw [show (nI 0).toNatClampNeg = 0 from rfl]
             rw [if_neg (fun z => z (And.intro (And.intro (by decide) (by decide)) (zB_ne0.mp h16))), if_neg (show ¬ hHeld S 0 = 0 by rw [hp.1]; decide), if_neg (show ¬ hHeld S 0 = 2 by rw [hp.1]; decide), eb, ebc, eK, if_pos g2])
          | (have g2 := zB_eq0.mp h50
             unfold opTaken
             rw [show (nI 0).toNatClampNeg = 0 from rfl]
             rw [if_neg (fun z => z (And.intro (And.intro (by decide) (by decide)) (zB_ne0.mp h16))), if_neg (show ¬ hHeld S 0 = 0 by rw [hp.1]; decide), if_neg (show ¬ hHeld S 0 = 2 by rw [hp.1]; decide), eb, ebc, eK, if_neg g2])
          | (have g2 : hHeld S 0 = 2 := by
               rcases xs with z | z | z
               · exact absurd (zB_ne0.mp h35) z.2.2
               · exact absurd (zB_ne0.mp h35) z.2.2.1
               · exact z.1
             unfold opTaken
             rw [show (nI 0).toNatClampNeg = 0 from rfl]
             rw [if_neg (fun z => z (And.intro (And.intro (by decide) (by decide)) (zB_ne0.mp h16))), if_neg (show ¬ hHeld S 0 = 0 by rw [g2]; decide), if_pos g2])
          | (have g2 : hHeld S 0 = 0 := by
               rcases xs with z | z | z
               · exact z.1
               · exact absurd (zB_ne0.mp h25) z.2.1
               · exact absurd (zB_ne0.mp h25) z.2.1
             unfold opTaken
             rw [show (nI 0).toNatClampNeg = 0 from rfl]
             rw [if_neg (fun z => z (And.intro (And.intro (by decide) (by decide)) (zB_ne0.mp h16))), if_pos g2])
          | (unfold opTaken
             rw [show (nI 0).toNatClampNeg = 0 from rfl]
             rw [if_pos (fun z => (zB_eq0.mp h16) z.2)])
      · have hp : hHeld S 0 = 1 ∧ μ.1 13 1 = hShown S 0 := by
          rcases xs with z | z | z
          · exact absurd z.2.1 (zB_eq0.mp h25)
          · exact And.intro z.1 z.2.2.2
          · exact absurd z.2.2.1 (zB_eq0.mp h35)
        obtain ⟨b, hb, eb⟩ : ∃ b, b < (zA_ S).1.1 ∧ hShown S 0 = nI b := by
          rcases hok 0 (by omega) with z | z | z
          · rw [hp.1] at z; exact absurd z (by decide)
          · exact z.2
          · rw [hp.1] at z; exact absurd z.1 (by decide)
        obtain ⟨K, hK, eK⟩ := hokA b hb
        have e1 : μ.1 13 1 = nI b := hp.2.trans eb
        have ebc : (nI b).toNatClampNeg = b := nI_clamp (by omega)
        have hvb : vp_in (μ.1 13 1) 50 := by rw [e1]; exact vp_in_nI (by omega) (by omega)
        refine zb X_taken_s38 rfl ?_
        rw [e1]
        refine zcallV X_taken_d47 k10_375 (by omega) (x_isUnder (n := (zA_ S).1.1) (K := K) (by omega) e7 hA50 hb (by rw [e83]; exact eK) hK) rfl rfl rfl (Nat.le_of_ble_eq_true rfl) ?_
        rintro _ μx ⟨rfl, hx⟩
        rw [hx]
        clear hx μx
        refine z_ne X_taken_d50 (tgt := 56) rfl (fun h50 => ?_) (fun h50 => ?_)
        · refine zb1 X_taken_s56 rfl hvb ?_
          refine z_ret X_taken_d68 rfl ?_
          refine ⟨congrArg (fun z => some (Value.int z)) ?_, hS, onlyX.rf⟩
          first
            | (have g2 := zB_ne0.mp h50
               rw [e1, ebc, e83]
               unfold opTaken
               rw [show (nI 0).toNatClampNeg = 0 from rfl]
               rw [if_neg (fun z => z (And.intro (And.intro (by decide) (by decide)) (zB_ne0.mp h16))), if_neg (show ¬ hHeld S 0 = 0 by rw [hp.1]; decide), if_neg (show ¬ hHeld S 0 = 2 by rw [hp.1]; decide), eb, ebc, eK, if_pos g2])
            | (have g2 := zB_eq0.mp h50
               unfold opTaken
               rw [show (nI 0).toNatClampNeg = 0 from rfl]
               rw [if_neg (fun z => z (And.intro (And.intro (by decide) (by decide)) (zB_ne0.mp h16))), if_neg (show ¬ hHeld S 0 = 0 by rw [hp.1]; decide), if_neg (show ¬ hHeld S 0 = 2 by rw [hp.1]; decide), eb, ebc, eK, if_neg g2])
            | (have g2 : hHeld S 0 = 2 := by
                 rcases xs with z | z | z
                 · exact absurd (zB_ne0.mp h35) z.2.2
                 · exact absurd (zB_ne0.mp h35) z.2.2.1
                 · exact z.1
               unfold opTaken
               rw [show (nI 0).toNatClampNeg = 0 from rfl]
               rw [if_neg (fun z => z (And.intro (And.intro (by decide) (by decide)) (zB_ne0.mp h16))), if_neg (show ¬ hHeld S 0 = 0 by rw [g2]; decide), if_pos g2])
            | (have g2 : hHeld S 0 = 0 := by
                 rcases xs with z | z | z
                 · exact z.1
                 · exact absurd (zB_ne0.mp h25) z.2.1
                 · exact absurd (zB_ne0.mp h25) z.2.1
               unfold opTaken
               rw [show (nI 0).toNatClampNeg = 0 from rfl]
               rw [if_neg (fun z => z (And.intro (And.intro (by decide) (by decide)) (zB_ne0.mp h16))), if_pos g2])
            | (unfold opTaken
               rw [show (nI 0).toNatClampNeg = 0 from rfl]
               rw [if_pos (fun z => (zB_eq0.mp h16) z.2)])
        · refine zb X_taken_s53 rfl ?_
          refine z_ret X_taken_d55 rfl ?_
          refine ⟨congrArg (fun z => some (Value.int z)) ?_, hS, onlyX.rf⟩
          first
            | (have g2 := zB_ne0.mp h50
               rw [e1, ebc, e83]
               unfold opTaken
               rw [show (nI 0).toNatClampNeg = 0 from rfl]
               rw [if_neg (fun z => z (And.intro (And.intro (by decide) (by decide)) (zB_ne0.mp h16))), if_neg (show ¬ hHeld S 0 = 0 by rw [hp.1]; decide), if_neg (show ¬ hHeld S 0 = 2 by rw [hp.1]; decide), eb, ebc, eK, if_pos g2])
            | (have g2 := zB_eq0.mp h50
               unfold opTaken
               rw [show (nI 0).toNatClampNeg = 0 from rfl]
               rw [if_neg (fun z => z (And.intro (And.intro (by decide) (by decide)) (zB_ne0.mp h16))), if_neg (show ¬ hHeld S 0 = 0 by rw [hp.1]; decide), if_neg (show ¬ hHeld S 0 = 2 by rw [hp.1]; decide), eb, ebc, eK, if_neg g2])
            | (have g2 : hHeld S 0 = 2 := by
                 rcases xs with z | z | z
                 · exact absurd (zB_ne0.mp h35) z.2.2
                 · exact absurd (zB_ne0.mp h35) z.2.2.1
                 · exact z.1
               unfold opTaken
               rw [show (nI 0).toNatClampNeg = 0 from rfl]
               rw [if_neg (fun z => z (And.intro (And.intro (by decide) (by decide)) (zB_ne0.mp h16))), if_neg (show ¬ hHeld S 0 = 0 by rw [g2]; decide), if_pos g2])
            | (have g2 : hHeld S 0 = 0 := by
                 rcases xs with z | z | z
                 · exact z.1
                 · exact absurd (zB_ne0.mp h25) z.2.1
                 · exact absurd (zB_ne0.mp h25) z.2.1
               unfold opTaken
               rw [show (nI 0).toNatClampNeg = 0 from rfl]
               rw [if_neg (fun z => z (And.intro (And.intro (by decide) (by decide)) (zB_ne0.mp h16))), if_pos g2])
            | (unfold opTaken
               rw [show (nI 0).toNatClampNeg = 0 from rfl]
               rw [if_pos (fun z => (zB_eq0.mp h16) z.2)])
    · refine zb X_taken_s28 rfl ?_
      refine z_ret X_taken_d30 rfl ?_
      refine ⟨congrArg (fun z => some (Value.int z)) ?_, hS, onlyX.rf⟩
      first
        | (have g2 := zB_ne0.mp h50
           rw [e1, ebc, e83]
           unfold opTaken
           rw [show (nI 0).toNatClampNeg = 0 from rfl]
           rw [if_neg (fun z => z (And.intro (And.intro (by decide) (by decide)) (zB_ne0.mp h16))), if_neg (show ¬ hHeld S 0 = 0 by rw [hp.1]; decide), if_neg (show ¬ hHeld S 0 = 2 by rw [hp.1]; decide), eb, ebc, eK, if_pos g2])
        | (have g2 := zB_eq0.mp h50
           unfold opTaken
           rw [show (nI 0).toNatClampNeg = 0 from rfl]
           rw [if_neg (fun z => z (And.intro (And.intro (by decide) (by decide)) (zB_ne0.mp h16))), if_neg (show ¬ hHeld S 0 = 0 by rw [hp.1]; decide), if_neg (show ¬ hHeld S 0 = 2 by rw [hp.1]; decide), eb, ebc, eK, if_neg g2])
        | (have g2 : hHeld S 0 = 2 := by
             rcases xs with z | z | z
             · exact absurd (zB_ne0.mp h35) z.2.2
             · exact absurd (zB_ne0.mp h35) z.2.2.1
             · exact z.1
           unfold opTaken
           rw [show (nI 0).toNatClampNeg = 0 from rfl]
           rw [if_neg (fun z => z (And.intro (And.intro (by decide) (by decide)) (zB_ne0.mp h16))), if_neg (show ¬ hHeld S 0 = 0 by rw [g2]; decide), if_pos g2])
        | (have g2 : hHeld S 0 = 0 := by
             rcases xs with z | z | z
             · exact z.1
             · exact absurd (zB_ne0.mp h25) z.2.1
             · exact absurd (zB_ne0.mp h25) z.2.1
           unfold opTaken
           rw [show (nI 0).toNatClampNeg = 0 from rfl]
           rw [if_neg (fun z => z (And.intro (And.intro (by decide) (by decide)) (zB_ne0.mp h16))), if_pos g2])
        | (unfold opTaken
           rw [show (nI 0).toNatClampNeg = 0 from rfl]
           rw [if_pos (fun z => (zB_eq0.mp h16) z.2)])
  · refine zb X_taken_s19 rfl ?_
    refine z_ret X_taken_d20 rfl ?_
    refine ⟨congrArg (fun z => some (Value.int z)) ?_, hS, onlyX.rf⟩
    first
      | (have g2 := zB_ne0.mp h50
         rw [e1, ebc, e83]
         unfold opTaken
         rw [show (nI 0).toNatClampNeg = 0 from rfl]
         rw [if_neg (fun z => z (And.intro (And.intro (by decide) (by decide)) (zB_ne0.mp h16))), if_neg (show ¬ hHeld S 0 = 0 by rw [hp.1]; decide), if_neg (show ¬ hHeld S 0 = 2 by rw [hp.1]; decide), eb, ebc, eK, if_pos g2])
      | (have g2 := zB_eq0.mp h50
         unfold opTaken
         rw [show (nI 0).toNatClampNeg = 0 from rfl]
         rw [if_neg (fun z => z (And.intro (And.intro (by decide) (by decide)) (zB_ne0.mp h16))), if_neg (show ¬ hHeld S 0 = 0 by rw [hp.1]; decide), if_neg (show ¬ hHeld S 0 = 2 by rw [hp.1]; decide), eb, ebc, eK, if_neg g2])
      | (have g2 : hHeld S 0 = 2 := by
           rcases xs with z | z | z
           · exact absurd (zB_ne0.mp h35) z.2.2
           · exact absurd (zB_ne0.mp h35) z.2.2.1
           · exact z.1
         unfold opTaken
         rw [show (nI 0).toNatClampNeg = 0 from rfl]
         rw [if_neg (fun z => z (And.intro (And.intro (by decide) (by decide)) (zB_ne0.mp h16))), if_neg (show ¬ hHeld S 0 = 0 by rw [g2]; decide), if_pos g2])
      | (have g2 : hHeld S 0 = 0 := by
           rcases xs with z | z | z
           · exact z.1
           · exact absurd (zB_ne0.mp h25) z.2.1
           · exact absurd (zB_ne0.mp h25) z.2.1
         unfold opTaken
         rw [show (nI 0).toNatClampNeg = 0 from rfl]
         rw [if_neg (fun z => z (And.intro (And.intro (by decide) (by decide)) (zB_ne0.mp h16))), if_pos g2])
      | (unfold opTaken
         rw [show (nI 0).toNatClampNeg = 0 from rfl]
         rw [if_pos (fun z => (zB_eq0.mp h16) z.2)])

set_option maxRecDepth 100000 in
set_option maxHeartbeats 4000000 in
theorem xs_taken_1 {g : zG} {d : Nat} {S : zS} {μ : zMem} {k : Int32} (hd : 3 ≤ d) (hS : xS S μ) (hok : okH S) (hokA : okA S) : zM g d X_taken [.ref 1, .int (nI 1), .int k] μ (pO xS onlyX (opTaken S (nI 1) k, S) μ) := by
  refine zM_of (by decide +kernel) rfl rfl (Nat.le_of_ble_eq_true rfl) rfl ?_
  obtain ⟨ho, h2, hT, hC, hD, hI, hA, hH⟩ := hS
  have hS : xS S μ := ⟨ho, h2, hT, hC, hD, hI, hA, hH⟩
  have hb := ho.b
  have hv := ho.v
  have hB6 := ho.b6
  have hV12 := ho.v12
  have hz : zq sX μ μ := zq.rf
  replace hA : xA (zA_ S) μ := hA
  have e7 : μ.1 9 2 = nI (zA_ S).1.1 := hA.1
  have hA50 : (zA_ S).1.1 ≤ 50 := hA.2.1
  have e83 : μ.1 83 = (zA_ S).1.2 := hA.2.2.1
  have xs := xsh (s := 1) hS hok (by omega)
  refine zb X_taken_s0 rfl ?_
  refine zcallV X_taken_d2 k10_93 (by omega) (x_shelf_1 (by omega)) rfl rfl rfl (Nat.le_of_ble_eq_true rfl) ?_
  rintro _ μx ⟨rfl, hx⟩
  rw [hx]
  clear hx μx
  refine zb X_taken_s5 rfl ?_
  refine z_null X_taken_d7 ?_
  refine zb X_taken_s10 rfl ?_
  refine zcallS X_taken_d13 k10_170 (by omega) (x_isWithin _ _) rfl rfl (Nat.le_of_ble_eq_true rfl) ?_
  rintro _ μx ⟨rfl, hx⟩
  rw [hx]
  clear hx μx
  refine z_ne X_taken_d16 (tgt := 21) rfl (fun h16 => ?_) (fun h16 => ?_)
  · refine zb X_taken_s21 rfl ?_
    refine zcallV X_taken_d22 k10_97 (by omega) (x_isEmpty_1) rfl rfl rfl (Nat.le_of_ble_eq_true rfl) ?_
    rintro _ μx ⟨rfl, hx⟩
    rw [hx]
    clear hx μx
    refine z_eq X_taken_d25 (tgt := 31) rfl (fun h25 => ?_) (fun h25 => ?_)
    · refine zb X_taken_s31 rfl ?_
      refine zcallV X_taken_d32 k10_357 (by omega) (x_isRow_1) rfl rfl rfl (Nat.le_of_ble_eq_true rfl) ?_
      rintro _ μx ⟨rfl, hx⟩
      rw [hx]
      clear hx μx
      refine z_ne X_taken_d35 (tgt := 53) rfl (fun h35 => ?_) (fun h35 => ?_)
      · refine zb X_taken_s53 rfl ?_
        refine z_ret X_taken_d55 rfl ?_
        refine ⟨congrArg (fun z => some (Value.int z)) ?_, hS, onlyX.rf⟩
        first
          | (have g2 := zB_ne0.mp h50
             rw [e1, ebc, e83]
             unfold opTaken
             rw [show (nI 1).toNatClampNeg = 1 from rfl]
             rw [if_neg (fun z => z (And.intro (And.intro (by decide) (by decide)) (zB_ne0.mp h16))), if_neg (show ¬ hHeld S 1 = 0 by rw [hp.1]; decide), if_neg (show ¬ hHeld S 1 = 2 by rw [hp.1]; decide), eb, ebc, eK, if_pos g2])
          | (have g2 := zB_eq0.mp h50
             unfold opTaken
             rw [show (nI 1).toNatClampNeg = 1 from rfl]
             rw [if_neg (fun z => z (And.intro (And.intro (by decide) (by decide)) (zB_ne0.mp h16))), if_neg (show ¬ hHeld S 1 = 0 by rw [hp.1]; decide), if_neg (show ¬ hHeld S 1 = 2 by rw [hp.1]; decide), eb, ebc, eK, if_neg g2])
          | (have g2 : hHeld S 1 = 2 := by
               rcases xs with z | z | z
               · exact absurd (zB_ne0.mp h35) z.2.2
               · exact absurd (zB_ne0.mp h35) z.2.2.1
               · exact z.1
             unfold opTaken
             rw [show (nI 1).toNatClampNeg = 1 from rfl]
             rw [if_neg (fun z => z (And.intro (And.intro (by decide) (by decide)) (zB_ne0.mp h16))), if_neg (show ¬ hHeld S 1 = 0 by rw [g2]; decide), if_pos g2])
          | (have g2 : hHeld S 1 = 0 := by
               rcases xs with z | z | z
               · exact z.1
               · exact absurd (zB_ne0.mp h25) z.2.1
               · exact absurd (zB_ne0.mp h25) z.2.1
             unfold opTaken
             rw [show (nI 1).toNatClampNeg = 1 from rfl]
             rw [if_neg (fun z => z (And.intro (And.intro (by decide) (by decide)) (zB_ne0.mp h16))), if_pos g2])
          | (unfold opTaken
             rw [show (nI 1).toNatClampNeg = 1 from rfl]
             rw [if_pos (fun z => (zB_eq0.mp h16) z.2)])
      · have hp : hHeld S 1 = 1 ∧ μ.1 14 1 = hShown S 1 := by
          rcases xs with z | z | z
          · exact absurd z.2.1 (zB_eq0.mp h25)
          · exact And.intro z.1 z.2.2.2
          · exact absurd z.2.2.1 (zB_eq0.mp h35)
        obtain ⟨b, hb, eb⟩ : ∃ b, b < (zA_ S).1.1 ∧ hShown S 1 = nI b := by
          rcases hok 1 (by omega) with z | z | z
          · rw [hp.1] at z; exact absurd z (by decide)
          · exact z.2
          · rw [hp.1] at z; exact absurd z.1 (by decide)
        obtain ⟨K, hK, eK⟩ := hokA b hb
        have e1 : μ.1 14 1 = nI b := hp.2.trans eb
        have ebc : (nI b).toNatClampNeg = b := nI_clamp (by omega)
        have hvb : vp_in (μ.1 14 1) 50 := by rw [e1]; exact vp_in_nI (by omega) (by omega)
        refine zb X_taken_s38 rfl ?_
        rw [e1]
        refine zcallV X_taken_d47 k10_375 (by omega) (x_isUnder (n := (zA_ S).1.1) (K := K) (by omega) e7 hA50 hb (by rw [e83]; exact eK) hK) rfl rfl rfl (Nat.le_of_ble_eq_true rfl) ?_
        rintro _ μx ⟨rfl, hx⟩
        rw [hx]
        clear hx μx
        refine z_ne X_taken_d50 (tgt := 56) rfl (fun h50 => ?_) (fun h50 => ?_)
        · refine zb1 X_taken_s56 rfl hvb ?_
          refine z_ret X_taken_d68 rfl ?_
          refine ⟨congrArg (fun z => some (Value.int z)) ?_, hS, onlyX.rf⟩
          first
            | (have g2 := zB_ne0.mp h50
               rw [e1, ebc, e83]
               unfold opTaken
               rw [show (nI 1).toNatClampNeg = 1 from rfl]
               rw [if_neg (fun z => z (And.intro (And.intro (by decide) (by decide)) (zB_ne0.mp h16))), if_neg (show ¬ hHeld S 1 = 0 by rw [hp.1]; decide), if_neg (show ¬ hHeld S 1 = 2 by rw [hp.1]; decide), eb, ebc, eK, if_pos g2])
            | (have g2 := zB_eq0.mp h50
               unfold opTaken
               rw [show (nI 1).toNatClampNeg = 1 from rfl]
               rw [if_neg (fun z => z (And.intro (And.intro (by decide) (by decide)) (zB_ne0.mp h16))), if_neg (show ¬ hHeld S 1 = 0 by rw [hp.1]; decide), if_neg (show ¬ hHeld S 1 = 2 by rw [hp.1]; decide), eb, ebc, eK, if_neg g2])
            | (have g2 : hHeld S 1 = 2 := by
                 rcases xs with z | z | z
                 · exact absurd (zB_ne0.mp h35) z.2.2
                 · exact absurd (zB_ne0.mp h35) z.2.2.1
                 · exact z.1
               unfold opTaken
               rw [show (nI 1).toNatClampNeg = 1 from rfl]
               rw [if_neg (fun z => z (And.intro (And.intro (by decide) (by decide)) (zB_ne0.mp h16))), if_neg (show ¬ hHeld S 1 = 0 by rw [g2]; decide), if_pos g2])
            | (have g2 : hHeld S 1 = 0 := by
                 rcases xs with z | z | z
                 · exact z.1
                 · exact absurd (zB_ne0.mp h25) z.2.1
                 · exact absurd (zB_ne0.mp h25) z.2.1
               unfold opTaken
               rw [show (nI 1).toNatClampNeg = 1 from rfl]
               rw [if_neg (fun z => z (And.intro (And.intro (by decide) (by decide)) (zB_ne0.mp h16))), if_pos g2])
            | (unfold opTaken
               rw [show (nI 1).toNatClampNeg = 1 from rfl]
               rw [if_pos (fun z => (zB_eq0.mp h16) z.2)])
        · refine zb X_taken_s53 rfl ?_
          refine z_ret X_taken_d55 rfl ?_
          refine ⟨congrArg (fun z => some (Value.int z)) ?_, hS, onlyX.rf⟩
          first
            | (have g2 := zB_ne0.mp h50
               rw [e1, ebc, e83]
               unfold opTaken
               rw [show (nI 1).toNatClampNeg = 1 from rfl]
               rw [if_neg (fun z => z (And.intro (And.intro (by decide) (by decide)) (zB_ne0.mp h16))), if_neg (show ¬ hHeld S 1 = 0 by rw [hp.1]; decide), if_neg (show ¬ hHeld S 1 = 2 by rw [hp.1]; decide), eb, ebc, eK, if_pos g2])
            | (have g2 := zB_eq0.mp h50
               unfold opTaken
               rw [show (nI 1).toNatClampNeg = 1 from rfl]
               rw [if_neg (fun z => z (And.intro (And.intro (by decide) (by decide)) (zB_ne0.mp h16))), if_neg (show ¬ hHeld S 1 = 0 by rw [hp.1]; decide), if_neg (show ¬ hHeld S 1 = 2 by rw [hp.1]; decide), eb, ebc, eK, if_neg g2])
            | (have g2 : hHeld S 1 = 2 := by
                 rcases xs with z | z | z
                 · exact absurd (zB_ne0.mp h35) z.2.2
                 · exact absurd (zB_ne0.mp h35) z.2.2.1
                 · exact z.1
               unfold opTaken
               rw [show (nI 1).toNatClampNeg = 1 from rfl]
               rw [if_neg (fun z => z (And.intro (And.intro (by decide) (by decide)) (zB_ne0.mp h16))), if_neg (show ¬ hHeld S 1 = 0 by rw [g2]; decide), if_pos g2])
            | (have g2 : hHeld S 1 = 0 := by
                 rcases xs with z | z | z
                 · exact z.1
                 · exact absurd (zB_ne0.mp h25) z.2.1
                 · exact absurd (zB_ne0.mp h25) z.2.1
               unfold opTaken
               rw [show (nI 1).toNatClampNeg = 1 from rfl]
               rw [if_neg (fun z => z (And.intro (And.intro (by decide) (by decide)) (zB_ne0.mp h16))), if_pos g2])
            | (unfold opTaken
               rw [show (nI 1).toNatClampNeg = 1 from rfl]
               rw [if_pos (fun z => (zB_eq0.mp h16) z.2)])
    · refine zb X_taken_s28 rfl ?_
      refine z_ret X_taken_d30 rfl ?_
      refine ⟨congrArg (fun z => some (Value.int z)) ?_, hS, onlyX.rf⟩
      first
        | (have g2 := zB_ne0.mp h50
           rw [e1, ebc, e83]
           unfold opTaken
           rw [show (nI 1).toNatClampNeg = 1 from rfl]
           rw [if_neg (fun z => z (And.intro (And.intro (by decide) (by decide)) (zB_ne0.mp h16))), if_neg (show ¬ hHeld S 1 = 0 by rw [hp.1]; decide), if_neg (show ¬ hHeld S 1 = 2 by rw [hp.1]; decide), eb, ebc, eK, if_pos g2])
        | (have g2 := zB_eq0.mp h50
           unfold opTaken
           rw [show (nI 1).toNatClampNeg = 1 from rfl]
           rw [if_neg (fun z => z (And.intro (And.intro (by decide) (by decide)) (zB_ne0.mp h16))), if_neg (show ¬ hHeld S 1 = 0 by rw [hp.1]; decide), if_neg (show ¬ hHeld S 1 = 2 by rw [hp.1]; decide), eb, ebc, eK, if_neg g2])
        | (have g2 : hHeld S 1 = 2 := by
             rcases xs with z | z | z
             · exact absurd (zB_ne0.mp h35) z.2.2
             · exact absurd (zB_ne0.mp h35) z.2.2.1
             · exact z.1
           unfold opTaken
           rw [show (nI 1).toNatClampNeg = 1 from rfl]
           rw [if_neg (fun z => z (And.intro (And.intro (by decide) (by decide)) (zB_ne0.mp h16))), if_neg (show ¬ hHeld S 1 = 0 by rw [g2]; decide), if_pos g2])
        | (have g2 : hHeld S 1 = 0 := by
             rcases xs with z | z | z
             · exact z.1
             · exact absurd (zB_ne0.mp h25) z.2.1
             · exact absurd (zB_ne0.mp h25) z.2.1
           unfold opTaken
           rw [show (nI 1).toNatClampNeg = 1 from rfl]
           rw [if_neg (fun z => z (And.intro (And.intro (by decide) (by decide)) (zB_ne0.mp h16))), if_pos g2])
        | (unfold opTaken
           rw [show (nI 1).toNatClampNeg = 1 from rfl]
           rw [if_pos (fun z => (zB_eq0.mp h16) z.2)])
  · refine zb X_taken_s19 rfl ?_
    refine z_ret X_taken_d20 rfl ?_
    refine ⟨congrArg (fun z => some (Value.int z)) ?_, hS, onlyX.rf⟩
    first
      | (have g2 := zB_ne0.mp h50
         rw [e1, ebc, e83]
         unfold opTaken
         rw [show (nI 1).toNatClampNeg = 1 from rfl]
         rw [if_neg (fun z => z (And.intro (And.intro (by decide) (by decide)) (zB_ne0.mp h16))), if_neg (show ¬ hHeld S 1 = 0 by rw [hp.1]; decide), if_neg (show ¬ hHeld S 1 = 2 by rw [hp.1]; decide), eb, ebc, eK, if_pos g2])
      | (have g2 := zB_eq0.mp h50
         unfold opTaken
         rw [show (nI 1).toNatClampNeg = 1 from rfl]
         rw [if_neg (fun z => z (And.intro (And.intro (by decide) (by decide)) (zB_ne0.mp h16))), if_neg (show ¬ hHeld S 1 = 0 by rw [hp.1]; decide), if_neg (show ¬ hHeld S 1 = 2 by rw [hp.1]; decide), eb, ebc, eK, if_neg g2])
      | (have g2 : hHeld S 1 = 2 := by
           rcases xs with z | z | z
           · exact absurd (zB_ne0.mp h35) z.2.2
           · exact absurd (zB_ne0.mp h35) z.2.2.1
           · exact z.1
         unfold opTaken
         rw [show (nI 1).toNatClampNeg = 1 from rfl]
         rw [if_neg (fun z => z (And.intro (And.intro (by decide) (by decide)) (zB_ne0.mp h16))), if_neg (show ¬ hHeld S 1 = 0 by rw [g2]; decide), if_pos g2])
      | (have g2 : hHeld S 1 = 0 := by
           rcases xs with z | z | z
           · exact z.1
           · exact absurd (zB_ne0.mp h25) z.2.1
           · exact absurd (zB_ne0.mp h25) z.2.1
         unfold opTaken
         rw [show (nI 1).toNatClampNeg = 1 from rfl]
         rw [if_neg (fun z => z (And.intro (And.intro (by decide) (by decide)) (zB_ne0.mp h16))), if_pos g2])
      | (unfold opTaken
         rw [show (nI 1).toNatClampNeg = 1 from rfl]
         rw [if_pos (fun z => (zB_eq0.mp h16) z.2)])

set_option maxRecDepth 100000 in
set_option maxHeartbeats 4000000 in
theorem xs_taken_2 {g : zG} {d : Nat} {S : zS} {μ : zMem} {k : Int32} (hd : 3 ≤ d) (hS : xS S μ) (hok : okH S) (hokA : okA S) : zM g d X_taken [.ref 1, .int (nI 2), .int k] μ (pO xS onlyX (opTaken S (nI 2) k, S) μ) := by
  refine zM_of (by decide +kernel) rfl rfl (Nat.le_of_ble_eq_true rfl) rfl ?_
  obtain ⟨ho, h2, hT, hC, hD, hI, hA, hH⟩ := hS
  have hS : xS S μ := ⟨ho, h2, hT, hC, hD, hI, hA, hH⟩
  have hb := ho.b
  have hv := ho.v
  have hB6 := ho.b6
  have hV12 := ho.v12
  have hz : zq sX μ μ := zq.rf
  replace hA : xA (zA_ S) μ := hA
  have e7 : μ.1 9 2 = nI (zA_ S).1.1 := hA.1
  have hA50 : (zA_ S).1.1 ≤ 50 := hA.2.1
  have e83 : μ.1 83 = (zA_ S).1.2 := hA.2.2.1
  have xs := xsh (s := 2) hS hok (by omega)
  refine zb X_taken_s0 rfl ?_
  refine zcallV X_taken_d2 k10_93 (by omega) (x_shelf_2 (by omega)) rfl rfl rfl (Nat.le_of_ble_eq_true rfl) ?_
  rintro _ μx ⟨rfl, hx⟩
  rw [hx]
  clear hx μx
  refine zb X_taken_s5 rfl ?_
  refine z_null X_taken_d7 ?_
  refine zb X_taken_s10 rfl ?_
  refine zcallS X_taken_d13 k10_170 (by omega) (x_isWithin _ _) rfl rfl (Nat.le_of_ble_eq_true rfl) ?_
  rintro _ μx ⟨rfl, hx⟩
  rw [hx]
  clear hx μx
  refine z_ne X_taken_d16 (tgt := 21) rfl (fun h16 => ?_) (fun h16 => ?_)
  · refine zb X_taken_s21 rfl ?_
    refine zcallV X_taken_d22 k10_97 (by omega) (x_isEmpty_2) rfl rfl rfl (Nat.le_of_ble_eq_true rfl) ?_
    rintro _ μx ⟨rfl, hx⟩
    rw [hx]
    clear hx μx
    refine z_eq X_taken_d25 (tgt := 31) rfl (fun h25 => ?_) (fun h25 => ?_)
    · refine zb X_taken_s31 rfl ?_
      refine zcallV X_taken_d32 k10_357 (by omega) (x_isRow_2) rfl rfl rfl (Nat.le_of_ble_eq_true rfl) ?_
      rintro _ μx ⟨rfl, hx⟩
      rw [hx]
      clear hx μx
      refine z_ne X_taken_d35 (tgt := 53) rfl (fun h35 => ?_) (fun h35 => ?_)
      · refine zb X_taken_s53 rfl ?_
        refine z_ret X_taken_d55 rfl ?_
        refine ⟨congrArg (fun z => some (Value.int z)) ?_, hS, onlyX.rf⟩
        first
          | (have g2 := zB_ne0.mp h50
             rw [e1, ebc, e83]
             unfold opTaken
             rw [show (nI 2).toNatClampNeg = 2 from rfl]
             rw [if_neg (fun z => z (And.intro (And.intro (by decide) (by decide)) (zB_ne0.mp h16))), if_neg (show ¬ hHeld S 2 = 0 by rw [hp.1]; decide), if_neg (show ¬ hHeld S 2 = 2 by rw [hp.1]; decide), eb, ebc, eK, if_pos g2])
          | (have g2 := zB_eq0.mp h50
             unfold opTaken
             rw [show (nI 2).toNatClampNeg = 2 from rfl]
             rw [if_neg (fun z => z (And.intro (And.intro (by decide) (by decide)) (zB_ne0.mp h16))), if_neg (show ¬ hHeld S 2 = 0 by rw [hp.1]; decide), if_neg (show ¬ hHeld S 2 = 2 by rw [hp.1]; decide), eb, ebc, eK, if_neg g2])
          | (have g2 : hHeld S 2 = 2 := by
               rcases xs with z | z | z
               · exact absurd (zB_ne0.mp h35) z.2.2
               · exact absurd (zB_ne0.mp h35) z.2.2.1
               · exact z.1
             unfold opTaken
             rw [show (nI 2).toNatClampNeg = 2 from rfl]
             rw [if_neg (fun z => z (And.intro (And.intro (by decide) (by decide)) (zB_ne0.mp h16))), if_neg (show ¬ hHeld S 2 = 0 by rw [g2]; decide), if_pos g2])
          | (have g2 : hHeld S 2 = 0 := by
               rcases xs with z | z | z
               · exact z.1
               · exact absurd (zB_ne0.mp h25) z.2.1
               · exact absurd (zB_ne0.mp h25) z.2.1
             unfold opTaken
             rw [show (nI 2).toNatClampNeg = 2 from rfl]
             rw [if_neg (fun z => z (And.intro (And.intro (by decide) (by decide)) (zB_ne0.mp h16))), if_pos g2])
          | (unfold opTaken
             rw [show (nI 2).toNatClampNeg = 2 from rfl]
             rw [if_pos (fun z => (zB_eq0.mp h16) z.2)])
      · have hp : hHeld S 2 = 1 ∧ μ.1 15 1 = hShown S 2 := by
          rcases xs with z | z | z
          · exact absurd z.2.1 (zB_eq0.mp h25)
          · exact And.intro z.1 z.2.2.2
          · exact absurd z.2.2.1 (zB_eq0.mp h35)
        obtain ⟨b, hb, eb⟩ : ∃ b, b < (zA_ S).1.1 ∧ hShown S 2 = nI b := by
          rcases hok 2 (by omega) with z | z | z
          · rw [hp.1] at z; exact absurd z (by decide)
          · exact z.2
          · rw [hp.1] at z; exact absurd z.1 (by decide)
        obtain ⟨K, hK, eK⟩ := hokA b hb
        have e1 : μ.1 15 1 = nI b := hp.2.trans eb
        have ebc : (nI b).toNatClampNeg = b := nI_clamp (by omega)
        have hvb : vp_in (μ.1 15 1) 50 := by rw [e1]; exact vp_in_nI (by omega) (by omega)
        refine zb X_taken_s38 rfl ?_
        rw [e1]
        refine zcallV X_taken_d47 k10_375 (by omega) (x_isUnder (n := (zA_ S).1.1) (K := K) (by omega) e7 hA50 hb (by rw [e83]; exact eK) hK) rfl rfl rfl (Nat.le_of_ble_eq_true rfl) ?_
        rintro _ μx ⟨rfl, hx⟩
        rw [hx]
        clear hx μx
        refine z_ne X_taken_d50 (tgt := 56) rfl (fun h50 => ?_) (fun h50 => ?_)
        · refine zb1 X_taken_s56 rfl hvb ?_
          refine z_ret X_taken_d68 rfl ?_
          refine ⟨congrArg (fun z => some (Value.int z)) ?_, hS, onlyX.rf⟩
          first
            | (have g2 := zB_ne0.mp h50
               rw [e1, ebc, e83]
               unfold opTaken
               rw [show (nI 2).toNatClampNeg = 2 from rfl]
               rw [if_neg (fun z => z (And.intro (And.intro (by decide) (by decide)) (zB_ne0.mp h16))), if_neg (show ¬ hHeld S 2 = 0 by rw [hp.1]; decide), if_neg (show ¬ hHeld S 2 = 2 by rw [hp.1]; decide), eb, ebc, eK, if_pos g2])
            | (have g2 := zB_eq0.mp h50
               unfold opTaken
               rw [show (nI 2).toNatClampNeg = 2 from rfl]
               rw [if_neg (fun z => z (And.intro (And.intro (by decide) (by decide)) (zB_ne0.mp h16))), if_neg (show ¬ hHeld S 2 = 0 by rw [hp.1]; decide), if_neg (show ¬ hHeld S 2 = 2 by rw [hp.1]; decide), eb, ebc, eK, if_neg g2])
            | (have g2 : hHeld S 2 = 2 := by
                 rcases xs with z | z | z
                 · exact absurd (zB_ne0.mp h35) z.2.2
                 · exact absurd (zB_ne0.mp h35) z.2.2.1
                 · exact z.1
               unfold opTaken
               rw [show (nI 2).toNatClampNeg = 2 from rfl]
               rw [if_neg (fun z => z (And.intro (And.intro (by decide) (by decide)) (zB_ne0.mp h16))), if_neg (show ¬ hHeld S 2 = 0 by rw [g2]; decide), if_pos g2])
            | (have g2 : hHeld S 2 = 0 := by
                 rcases xs with z | z | z
                 · exact z.1
                 · exact absurd (zB_ne0.mp h25) z.2.1
                 · exact absurd (zB_ne0.mp h25) z.2.1
               unfold opTaken
               rw [show (nI 2).toNatClampNeg = 2 from rfl]
               rw [if_neg (fun z => z (And.intro (And.intro (by decide) (by decide)) (zB_ne0.mp h16))), if_pos g2])
            | (unfold opTaken
               rw [show (nI 2).toNatClampNeg = 2 from rfl]
               rw [if_pos (fun z => (zB_eq0.mp h16) z.2)])
        · refine zb X_taken_s53 rfl ?_
          refine z_ret X_taken_d55 rfl ?_
          refine ⟨congrArg (fun z => some (Value.int z)) ?_, hS, onlyX.rf⟩
          first
            | (have g2 := zB_ne0.mp h50
               rw [e1, ebc, e83]
               unfold opTaken
               rw [show (nI 2).toNatClampNeg = 2 from rfl]
               rw [if_neg (fun z => z (And.intro (And.intro (by decide) (by decide)) (zB_ne0.mp h16))), if_neg (show ¬ hHeld S 2 = 0 by rw [hp.1]; decide), if_neg (show ¬ hHeld S 2 = 2 by rw [hp.1]; decide), eb, ebc, eK, if_pos g2])
            | (have g2 := zB_eq0.mp h50
               unfold opTaken
               rw [show (nI 2).toNatClampNeg = 2 from rfl]
               rw [if_neg (fun z => z (And.intro (And.intro (by decide) (by decide)) (zB_ne0.mp h16))), if_neg (show ¬ hHeld S 2 = 0 by rw [hp.1]; decide), if_neg (show ¬ hHeld S 2 = 2 by rw [hp.1]; decide), eb, ebc, eK, if_neg g2])
            | (have g2 : hHeld S 2 = 2 := by
                 rcases xs with z | z | z
                 · exact absurd (zB_ne0.mp h35) z.2.2
                 · exact absurd (zB_ne0.mp h35) z.2.2.1
                 · exact z.1
               unfold opTaken
               rw [show (nI 2).toNatClampNeg = 2 from rfl]
               rw [if_neg (fun z => z (And.intro (And.intro (by decide) (by decide)) (zB_ne0.mp h16))), if_neg (show ¬ hHeld S 2 = 0 by rw [g2]; decide), if_pos g2])
            | (have g2 : hHeld S 2 = 0 := by
                 rcases xs with z | z | z
                 · exact z.1
                 · exact absurd (zB_ne0.mp h25) z.2.1
                 · exact absurd (zB_ne0.mp h25) z.2.1
               unfold opTaken
               rw [show (nI 2).toNatClampNeg = 2 from rfl]
               rw [if_neg (fun z => z (And.intro (And.intro (by decide) (by decide)) (zB_ne0.mp h16))), if_pos g2])
            | (unfold opTaken
               rw [show (nI 2).toNatClampNeg = 2 from rfl]
               rw [if_pos (fun z => (zB_eq0.mp h16) z.2)])
    · refine zb X_taken_s28 rfl ?_
      refine z_ret X_taken_d30 rfl ?_
      refine ⟨congrArg (fun z => some (Value.int z)) ?_, hS, onlyX.rf⟩
      first
        | (have g2 := zB_ne0.mp h50
           rw [e1, ebc, e83]
           unfold opTaken
           rw [show (nI 2).toNatClampNeg = 2 from rfl]
           rw [if_neg (fun z => z (And.intro (And.intro (by decide) (by decide)) (zB_ne0.mp h16))), if_neg (show ¬ hHeld S 2 = 0 by rw [hp.1]; decide), if_neg (show ¬ hHeld S 2 = 2 by rw [hp.1]; decide), eb, ebc, eK, if_pos g2])
        | (have g2 := zB_eq0.mp h50
           unfold opTaken
           rw [show (nI 2).toNatClampNeg = 2 from rfl]
           rw [if_neg (fun z => z (And.intro (And.intro (by decide) (by decide)) (zB_ne0.mp h16))), if_neg (show ¬ hHeld S 2 = 0 by rw [hp.1]; decide), if_neg (show ¬ hHeld S 2 = 2 by rw [hp.1]; decide), eb, ebc, eK, if_neg g2])
        | (have g2 : hHeld S 2 = 2 := by
             rcases xs with z | z | z
             · exact absurd (zB_ne0.mp h35) z.2.2
             · exact absurd (zB_ne0.mp h35) z.2.2.1
             · exact z.1
           unfold opTaken
           rw [show (nI 2).toNatClampNeg = 2 from rfl]
           rw [if_neg (fun z => z (And.intro (And.intro (by decide) (by decide)) (zB_ne0.mp h16))), if_neg (show ¬ hHeld S 2 = 0 by rw [g2]; decide), if_pos g2])
        | (have g2 : hHeld S 2 = 0 := by
             rcases xs with z | z | z
             · exact z.1
             · exact absurd (zB_ne0.mp h25) z.2.1
             · exact absurd (zB_ne0.mp h25) z.2.1
           unfold opTaken
           rw [show (nI 2).toNatClampNeg = 2 from rfl]
           rw [if_neg (fun z => z (And.intro (And.intro (by decide) (by decide)) (zB_ne0.mp h16))), if_pos g2])
        | (unfold opTaken
           rw [show (nI 2).toNatClampNeg = 2 from rfl]
           rw [if_pos (fun z => (zB_eq0.mp h16) z.2)])
  · refine zb X_taken_s19 rfl ?_
    refine z_ret X_taken_d20 rfl ?_
    refine ⟨congrArg (fun z => some (Value.int z)) ?_, hS, onlyX.rf⟩
    first
      | (have g2 := zB_ne0.mp h50
         rw [e1, ebc, e83]
         unfold opTaken
         rw [show (nI 2).toNatClampNeg = 2 from rfl]
         rw [if_neg (fun z => z (And.intro (And.intro (by decide) (by decide)) (zB_ne0.mp h16))), if_neg (show ¬ hHeld S 2 = 0 by rw [hp.1]; decide), if_neg (show ¬ hHeld S 2 = 2 by rw [hp.1]; decide), eb, ebc, eK, if_pos g2])
      | (have g2 := zB_eq0.mp h50
         unfold opTaken
         rw [show (nI 2).toNatClampNeg = 2 from rfl]
         rw [if_neg (fun z => z (And.intro (And.intro (by decide) (by decide)) (zB_ne0.mp h16))), if_neg (show ¬ hHeld S 2 = 0 by rw [hp.1]; decide), if_neg (show ¬ hHeld S 2 = 2 by rw [hp.1]; decide), eb, ebc, eK, if_neg g2])
      | (have g2 : hHeld S 2 = 2 := by
           rcases xs with z | z | z
           · exact absurd (zB_ne0.mp h35) z.2.2
           · exact absurd (zB_ne0.mp h35) z.2.2.1
           · exact z.1
         unfold opTaken
         rw [show (nI 2).toNatClampNeg = 2 from rfl]
         rw [if_neg (fun z => z (And.intro (And.intro (by decide) (by decide)) (zB_ne0.mp h16))), if_neg (show ¬ hHeld S 2 = 0 by rw [g2]; decide), if_pos g2])
      | (have g2 : hHeld S 2 = 0 := by
           rcases xs with z | z | z
           · exact z.1
           · exact absurd (zB_ne0.mp h25) z.2.1
           · exact absurd (zB_ne0.mp h25) z.2.1
         unfold opTaken
         rw [show (nI 2).toNatClampNeg = 2 from rfl]
         rw [if_neg (fun z => z (And.intro (And.intro (by decide) (by decide)) (zB_ne0.mp h16))), if_pos g2])
      | (unfold opTaken
         rw [show (nI 2).toNatClampNeg = 2 from rfl]
         rw [if_pos (fun z => (zB_eq0.mp h16) z.2)])

set_option maxRecDepth 100000 in
set_option maxHeartbeats 4000000 in
theorem xs_taken_3 {g : zG} {d : Nat} {S : zS} {μ : zMem} {k : Int32} (hd : 3 ≤ d) (hS : xS S μ) (hok : okH S) (hokA : okA S) : zM g d X_taken [.ref 1, .int (nI 3), .int k] μ (pO xS onlyX (opTaken S (nI 3) k, S) μ) := by
  refine zM_of (by decide +kernel) rfl rfl (Nat.le_of_ble_eq_true rfl) rfl ?_
  obtain ⟨ho, h2, hT, hC, hD, hI, hA, hH⟩ := hS
  have hS : xS S μ := ⟨ho, h2, hT, hC, hD, hI, hA, hH⟩
  have hb := ho.b
  have hv := ho.v
  have hB6 := ho.b6
  have hV12 := ho.v12
  have hz : zq sX μ μ := zq.rf
  replace hA : xA (zA_ S) μ := hA
  have e7 : μ.1 9 2 = nI (zA_ S).1.1 := hA.1
  have hA50 : (zA_ S).1.1 ≤ 50 := hA.2.1
  have e83 : μ.1 83 = (zA_ S).1.2 := hA.2.2.1
  have xs := xsh (s := 3) hS hok (by omega)
  refine zb X_taken_s0 rfl ?_
  refine zcallV X_taken_d2 k10_93 (by omega) (x_shelf_3 (by omega)) rfl rfl rfl (Nat.le_of_ble_eq_true rfl) ?_
  rintro _ μx ⟨rfl, hx⟩
  rw [hx]
  clear hx μx
  refine zb X_taken_s5 rfl ?_
  refine z_null X_taken_d7 ?_
  refine zb X_taken_s10 rfl ?_
  refine zcallS X_taken_d13 k10_170 (by omega) (x_isWithin _ _) rfl rfl (Nat.le_of_ble_eq_true rfl) ?_
  rintro _ μx ⟨rfl, hx⟩
  rw [hx]
  clear hx μx
  refine z_ne X_taken_d16 (tgt := 21) rfl (fun h16 => ?_) (fun h16 => ?_)
  · refine zb X_taken_s21 rfl ?_
    refine zcallV X_taken_d22 k10_97 (by omega) (x_isEmpty_3) rfl rfl rfl (Nat.le_of_ble_eq_true rfl) ?_
    rintro _ μx ⟨rfl, hx⟩
    rw [hx]
    clear hx μx
    refine z_eq X_taken_d25 (tgt := 31) rfl (fun h25 => ?_) (fun h25 => ?_)
    · refine zb X_taken_s31 rfl ?_
      refine zcallV X_taken_d32 k10_357 (by omega) (x_isRow_3) rfl rfl rfl (Nat.le_of_ble_eq_true rfl) ?_
      rintro _ μx ⟨rfl, hx⟩
      rw [hx]
      clear hx μx
      refine z_ne X_taken_d35 (tgt := 53) rfl (fun h35 => ?_) (fun h35 => ?_)
      · refine zb X_taken_s53 rfl ?_
        refine z_ret X_taken_d55 rfl ?_
        refine ⟨congrArg (fun z => some (Value.int z)) ?_, hS, onlyX.rf⟩
        first
          | (have g2 := zB_ne0.mp h50
             rw [e1, ebc, e83]
             unfold opTaken
             rw [show (nI 3).toNatClampNeg = 3 from rfl]
             rw [if_neg (fun z => z (And.intro (And.intro (by decide) (by decide)) (zB_ne0.mp h16))), if_neg (show ¬ hHeld S 3 = 0 by rw [hp.1]; decide), if_neg (show ¬ hHeld S 3 = 2 by rw [hp.1]; decide), eb, ebc, eK, if_pos g2])
          | (have g2 := zB_eq0.mp h50
             unfold opTaken
             rw [show (nI 3).toNatClampNeg = 3 from rfl]
             rw [if_neg (fun z => z (And.intro (And.intro (by decide) (by decide)) (zB_ne0.mp h16))), if_neg (show ¬ hHeld S 3 = 0 by rw [hp.1]; decide), if_neg (show ¬ hHeld S 3 = 2 by rw [hp.1]; decide), eb, ebc, eK, if_neg g2])
          | (have g2 : hHeld S 3 = 2 := by
               rcases xs with z | z | z
               · exact absurd (zB_ne0.mp h35) z.2.2
               · exact absurd (zB_ne0.mp h35) z.2.2.1
               · exact z.1
             unfold opTaken
             rw [show (nI 3).toNatClampNeg = 3 from rfl]
             rw [if_neg (fun z => z (And.intro (And.intro (by decide) (by decide)) (zB_ne0.mp h16))), if_neg (show ¬ hHeld S 3 = 0 by rw [g2]; decide), if_pos g2])
          | (have g2 : hHeld S 3 = 0 := by
               rcases xs with z | z | z
               · exact z.1
               · exact absurd (zB_ne0.mp h25) z.2.1
               · exact absurd (zB_ne0.mp h25) z.2.1
             unfold opTaken
             rw [show (nI 3).toNatClampNeg = 3 from rfl]
             rw [if_neg (fun z => z (And.intro (And.intro (by decide) (by decide)) (zB_ne0.mp h16))), if_pos g2])
          | (unfold opTaken
             rw [show (nI 3).toNatClampNeg = 3 from rfl]
             rw [if_pos (fun z => (zB_eq0.mp h16) z.2)])
      · have hp : hHeld S 3 = 1 ∧ μ.1 16 1 = hShown S 3 := by
          rcases xs with z | z | z
          · exact absurd z.2.1 (zB_eq0.mp h25)
          · exact And.intro z.1 z.2.2.2
          · exact absurd z.2.2.1 (zB_eq0.mp h35)
        obtain ⟨b, hb, eb⟩ : ∃ b, b < (zA_ S).1.1 ∧ hShown S 3 = nI b := by
          rcases hok 3 (by omega) with z | z | z
          · rw [hp.1] at z; exact absurd z (by decide)
          · exact z.2
          · rw [hp.1] at z; exact absurd z.1 (by decide)
        obtain ⟨K, hK, eK⟩ := hokA b hb
        have e1 : μ.1 16 1 = nI b := hp.2.trans eb
        have ebc : (nI b).toNatClampNeg = b := nI_clamp (by omega)
        have hvb : vp_in (μ.1 16 1) 50 := by rw [e1]; exact vp_in_nI (by omega) (by omega)
        refine zb X_taken_s38 rfl ?_
        rw [e1]
        refine zcallV X_taken_d47 k10_375 (by omega) (x_isUnder (n := (zA_ S).1.1) (K := K) (by omega) e7 hA50 hb (by rw [e83]; exact eK) hK) rfl rfl rfl (Nat.le_of_ble_eq_true rfl) ?_
        rintro _ μx ⟨rfl, hx⟩
        rw [hx]
        clear hx μx
        refine z_ne X_taken_d50 (tgt := 56) rfl (fun h50 => ?_) (fun h50 => ?_)
        · refine zb1 X_taken_s56 rfl hvb ?_
          refine z_ret X_taken_d68 rfl ?_
          refine ⟨congrArg (fun z => some (Value.int z)) ?_, hS, onlyX.rf⟩
          first
            | (have g2 := zB_ne0.mp h50
               rw [e1, ebc, e83]
               unfold opTaken
               rw [show (nI 3).toNatClampNeg = 3 from rfl]
               rw [if_neg (fun z => z (And.intro (And.intro (by decide) (by decide)) (zB_ne0.mp h16))), if_neg (show ¬ hHeld S 3 = 0 by rw [hp.1]; decide), if_neg (show ¬ hHeld S 3 = 2 by rw [hp.1]; decide), eb, ebc, eK, if_pos g2])
            | (have g2 := zB_eq0.mp h50
               unfold opTaken
               rw [show (nI 3).toNatClampNeg = 3 from rfl]
               rw [if_neg (fun z => z (And.intro (And.intro (by decide) (by decide)) (zB_ne0.mp h16))), if_neg (show ¬ hHeld S 3 = 0 by rw [hp.1]; decide), if_neg (show ¬ hHeld S 3 = 2 by rw [hp.1]; decide), eb, ebc, eK, if_neg g2])
            | (have g2 : hHeld S 3 = 2 := by
                 rcases xs with z | z | z
                 · exact absurd (zB_ne0.mp h35) z.2.2
                 · exact absurd (zB_ne0.mp h35) z.2.2.1
                 · exact z.1
               unfold opTaken
               rw [show (nI 3).toNatClampNeg = 3 from rfl]
               rw [if_neg (fun z => z (And.intro (And.intro (by decide) (by decide)) (zB_ne0.mp h16))), if_neg (show ¬ hHeld S 3 = 0 by rw [g2]; decide), if_pos g2])
            | (have g2 : hHeld S 3 = 0 := by
                 rcases xs with z | z | z
                 · exact z.1
                 · exact absurd (zB_ne0.mp h25) z.2.1
                 · exact absurd (zB_ne0.mp h25) z.2.1
               unfold opTaken
               rw [show (nI 3).toNatClampNeg = 3 from rfl]
               rw [if_neg (fun z => z (And.intro (And.intro (by decide) (by decide)) (zB_ne0.mp h16))), if_pos g2])
            | (unfold opTaken
               rw [show (nI 3).toNatClampNeg = 3 from rfl]
               rw [if_pos (fun z => (zB_eq0.mp h16) z.2)])
        · refine zb X_taken_s53 rfl ?_
          refine z_ret X_taken_d55 rfl ?_
          refine ⟨congrArg (fun z => some (Value.int z)) ?_, hS, onlyX.rf⟩
          first
            | (have g2 := zB_ne0.mp h50
               rw [e1, ebc, e83]
               unfold opTaken
               rw [show (nI 3).toNatClampNeg = 3 from rfl]
               rw [if_neg (fun z => z (And.intro (And.intro (by decide) (by decide)) (zB_ne0.mp h16))), if_neg (show ¬ hHeld S 3 = 0 by rw [hp.1]; decide), if_neg (show ¬ hHeld S 3 = 2 by rw [hp.1]; decide), eb, ebc, eK, if_pos g2])
            | (have g2 := zB_eq0.mp h50
               unfold opTaken
               rw [show (nI 3).toNatClampNeg = 3 from rfl]
               rw [if_neg (fun z => z (And.intro (And.intro (by decide) (by decide)) (zB_ne0.mp h16))), if_neg (show ¬ hHeld S 3 = 0 by rw [hp.1]; decide), if_neg (show ¬ hHeld S 3 = 2 by rw [hp.1]; decide), eb, ebc, eK, if_neg g2])
            | (have g2 : hHeld S 3 = 2 := by
                 rcases xs with z | z | z
                 · exact absurd (zB_ne0.mp h35) z.2.2
                 · exact absurd (zB_ne0.mp h35) z.2.2.1
                 · exact z.1
               unfold opTaken
               rw [show (nI 3).toNatClampNeg = 3 from rfl]
               rw [if_neg (fun z => z (And.intro (And.intro (by decide) (by decide)) (zB_ne0.mp h16))), if_neg (show ¬ hHeld S 3 = 0 by rw [g2]; decide), if_pos g2])
            | (have g2 : hHeld S 3 = 0 := by
                 rcases xs with z | z | z
                 · exact z.1
                 · exact absurd (zB_ne0.mp h25) z.2.1
                 · exact absurd (zB_ne0.mp h25) z.2.1
               unfold opTaken
               rw [show (nI 3).toNatClampNeg = 3 from rfl]
               rw [if_neg (fun z => z (And.intro (And.intro (by decide) (by decide)) (zB_ne0.mp h16))), if_pos g2])
            | (unfold opTaken
               rw [show (nI 3).toNatClampNeg = 3 from rfl]
               rw [if_pos (fun z => (zB_eq0.mp h16) z.2)])
    · refine zb X_taken_s28 rfl ?_
      refine z_ret X_taken_d30 rfl ?_
      refine ⟨congrArg (fun z => some (Value.int z)) ?_, hS, onlyX.rf⟩
      first
        | (have g2 := zB_ne0.mp h50
           rw [e1, ebc, e83]
           unfold opTaken
           rw [show (nI 3).toNatClampNeg = 3 from rfl]
           rw [if_neg (fun z => z (And.intro (And.intro (by decide) (by decide)) (zB_ne0.mp h16))), if_neg (show ¬ hHeld S 3 = 0 by rw [hp.1]; decide), if_neg (show ¬ hHeld S 3 = 2 by rw [hp.1]; decide), eb, ebc, eK, if_pos g2])
        | (have g2 := zB_eq0.mp h50
           unfold opTaken
           rw [show (nI 3).toNatClampNeg = 3 from rfl]
           rw [if_neg (fun z => z (And.intro (And.intro (by decide) (by decide)) (zB_ne0.mp h16))), if_neg (show ¬ hHeld S 3 = 0 by rw [hp.1]; decide), if_neg (show ¬ hHeld S 3 = 2 by rw [hp.1]; decide), eb, ebc, eK, if_neg g2])
        | (have g2 : hHeld S 3 = 2 := by
             rcases xs with z | z | z
             · exact absurd (zB_ne0.mp h35) z.2.2
             · exact absurd (zB_ne0.mp h35) z.2.2.1
             · exact z.1
           unfold opTaken
           rw [show (nI 3).toNatClampNeg = 3 from rfl]
           rw [if_neg (fun z => z (And.intro (And.intro (by decide) (by decide)) (zB_ne0.mp h16))), if_neg (show ¬ hHeld S 3 = 0 by rw [g2]; decide), if_pos g2])
        | (have g2 : hHeld S 3 = 0 := by
             rcases xs with z | z | z
             · exact z.1
             · exact absurd (zB_ne0.mp h25) z.2.1
             · exact absurd (zB_ne0.mp h25) z.2.1
           unfold opTaken
           rw [show (nI 3).toNatClampNeg = 3 from rfl]
           rw [if_neg (fun z => z (And.intro (And.intro (by decide) (by decide)) (zB_ne0.mp h16))), if_pos g2])
        | (unfold opTaken
           rw [show (nI 3).toNatClampNeg = 3 from rfl]
           rw [if_pos (fun z => (zB_eq0.mp h16) z.2)])
  · refine zb X_taken_s19 rfl ?_
    refine z_ret X_taken_d20 rfl ?_
    refine ⟨congrArg (fun z => some (Value.int z)) ?_, hS, onlyX.rf⟩
    first
      | (have g2 := zB_ne0.mp h50
         rw [e1, ebc, e83]
         unfold opTaken
         rw [show (nI 3).toNatClampNeg = 3 from rfl]
         rw [if_neg (fun z => z (And.intro (And.intro (by decide) (by decide)) (zB_ne0.mp h16))), if_neg (show ¬ hHeld S 3 = 0 by rw [hp.1]; decide), if_neg (show ¬ hHeld S 3 = 2 by rw [hp.1]; decide), eb, ebc, eK, if_pos g2])
      | (have g2 := zB_eq0.mp h50
         unfold opTaken
         rw [show (nI 3).toNatClampNeg = 3 from rfl]
         rw [if_neg (fun z => z (And.intro (And.intro (by decide) (by decide)) (zB_ne0.mp h16))), if_neg (show ¬ hHeld S 3 = 0 by rw [hp.1]; decide), if_neg (show ¬ hHeld S 3 = 2 by rw [hp.1]; decide), eb, ebc, eK, if_neg g2])
      | (have g2 : hHeld S 3 = 2 := by
           rcases xs with z | z | z
           · exact absurd (zB_ne0.mp h35) z.2.2
           · exact absurd (zB_ne0.mp h35) z.2.2.1
           · exact z.1
         unfold opTaken
         rw [show (nI 3).toNatClampNeg = 3 from rfl]
         rw [if_neg (fun z => z (And.intro (And.intro (by decide) (by decide)) (zB_ne0.mp h16))), if_neg (show ¬ hHeld S 3 = 0 by rw [g2]; decide), if_pos g2])
      | (have g2 : hHeld S 3 = 0 := by
           rcases xs with z | z | z
           · exact z.1
           · exact absurd (zB_ne0.mp h25) z.2.1
           · exact absurd (zB_ne0.mp h25) z.2.1
         unfold opTaken
         rw [show (nI 3).toNatClampNeg = 3 from rfl]
         rw [if_neg (fun z => z (And.intro (And.intro (by decide) (by decide)) (zB_ne0.mp h16))), if_pos g2])
      | (unfold opTaken
         rw [show (nI 3).toNatClampNeg = 3 from rfl]
         rw [if_pos (fun z => (zB_eq0.mp h16) z.2)])

set_option maxRecDepth 100000 in
set_option maxHeartbeats 4000000 in
theorem xs_taken_4 {g : zG} {d : Nat} {S : zS} {μ : zMem} {k : Int32} (hd : 3 ≤ d) (hS : xS S μ) (hok : okH S) (hokA : okA S) : zM g d X_taken [.ref 1, .int (nI 4), .int k] μ (pO xS onlyX (opTaken S (nI 4) k, S) μ) := by
  refine zM_of (by decide +kernel) rfl rfl (Nat.le_of_ble_eq_true rfl) rfl ?_
  obtain ⟨ho, h2, hT, hC, hD, hI, hA, hH⟩ := hS
  have hS : xS S μ := ⟨ho, h2, hT, hC, hD, hI, hA, hH⟩
  have hb := ho.b
  have hv := ho.v
  have hB6 := ho.b6
  have hV12 := ho.v12
  have hz : zq sX μ μ := zq.rf
  replace hA : xA (zA_ S) μ := hA
  have e7 : μ.1 9 2 = nI (zA_ S).1.1 := hA.1
  have hA50 : (zA_ S).1.1 ≤ 50 := hA.2.1
  have e83 : μ.1 83 = (zA_ S).1.2 := hA.2.2.1
  have xs := xsh (s := 4) hS hok (by omega)
  refine zb X_taken_s0 rfl ?_
  refine zcallV X_taken_d2 k10_93 (by omega) (x_shelf_4 (by omega)) rfl rfl rfl (Nat.le_of_ble_eq_true rfl) ?_
  rintro _ μx ⟨rfl, hx⟩
  rw [hx]
  clear hx μx
  refine zb X_taken_s5 rfl ?_
  refine z_null X_taken_d7 ?_
  refine zb X_taken_s10 rfl ?_
  refine zcallS X_taken_d13 k10_170 (by omega) (x_isWithin _ _) rfl rfl (Nat.le_of_ble_eq_true rfl) ?_
  rintro _ μx ⟨rfl, hx⟩
  rw [hx]
  clear hx μx
  refine z_ne X_taken_d16 (tgt := 21) rfl (fun h16 => ?_) (fun h16 => ?_)
  · refine zb X_taken_s21 rfl ?_
    refine zcallV X_taken_d22 k10_97 (by omega) (x_isEmpty_4) rfl rfl rfl (Nat.le_of_ble_eq_true rfl) ?_
    rintro _ μx ⟨rfl, hx⟩
    rw [hx]
    clear hx μx
    refine z_eq X_taken_d25 (tgt := 31) rfl (fun h25 => ?_) (fun h25 => ?_)
    · refine zb X_taken_s31 rfl ?_
      refine zcallV X_taken_d32 k10_357 (by omega) (x_isRow_4) rfl rfl rfl (Nat.le_of_ble_eq_true rfl) ?_
      rintro _ μx ⟨rfl, hx⟩
      rw [hx]
      clear hx μx
      refine z_ne X_taken_d35 (tgt := 53) rfl (fun h35 => ?_) (fun h35 => ?_)
      · refine zb X_taken_s53 rfl ?_
        refine z_ret X_taken_d55 rfl ?_
        refine ⟨congrArg (fun z => some (Value.int z)) ?_, hS, onlyX.rf⟩
        first
          | (have g2 := zB_ne0.mp h50
             rw [e1, ebc, e83]
             unfold opTaken
             rw [show (nI 4).toNatClampNeg = 4 from rfl]
             rw [if_neg (fun z => z (And.intro (And.intro (by decide) (by decide)) (zB_ne0.mp h16))), if_neg (show ¬ hHeld S 4 = 0 by rw [hp.1]; decide), if_neg (show ¬ hHeld S 4 = 2 by rw [hp.1]; decide), eb, ebc, eK, if_pos g2])
          | (have g2 := zB_eq0.mp h50
             unfold opTaken
             rw [show (nI 4).toNatClampNeg = 4 from rfl]
             rw [if_neg (fun z => z (And.intro (And.intro (by decide) (by decide)) (zB_ne0.mp h16))), if_neg (show ¬ hHeld S 4 = 0 by rw [hp.1]; decide), if_neg (show ¬ hHeld S 4 = 2 by rw [hp.1]; decide), eb, ebc, eK, if_neg g2])
          | (have g2 : hHeld S 4 = 2 := by
               rcases xs with z | z | z
               · exact absurd (zB_ne0.mp h35) z.2.2
               · exact absurd (zB_ne0.mp h35) z.2.2.1
               · exact z.1
             unfold opTaken
             rw [show (nI 4).toNatClampNeg = 4 from rfl]
             rw [if_neg (fun z => z (And.intro (And.intro (by decide) (by decide)) (zB_ne0.mp h16))), if_neg (show ¬ hHeld S 4 = 0 by rw [g2]; decide), if_pos g2])
          | (have g2 : hHeld S 4 = 0 := by
               rcases xs with z | z | z
               · exact z.1
               · exact absurd (zB_ne0.mp h25) z.2.1
               · exact absurd (zB_ne0.mp h25) z.2.1
             unfold opTaken
             rw [show (nI 4).toNatClampNeg = 4 from rfl]
             rw [if_neg (fun z => z (And.intro (And.intro (by decide) (by decide)) (zB_ne0.mp h16))), if_pos g2])
          | (unfold opTaken
             rw [show (nI 4).toNatClampNeg = 4 from rfl]
             rw [if_pos (fun z => (zB_eq0.mp h16) z.2)])
      · have hp : hHeld S 4 = 1 ∧ μ.1 17 1 = hShown S 4 := by
          rcases xs with z | z | z
          · exact absurd z.2.1 (zB_eq0.mp h25)
          · exact And.intro z.1 z.2.2.2
          · exact absurd z.2.2.1 (zB_eq0.mp h35)
        obtain ⟨b, hb, eb⟩ : ∃ b, b < (zA_ S).1.1 ∧ hShown S 4 = nI b := by
          rcases hok 4 (by omega) with z | z | z
          · rw [hp.1] at z; exact absurd z (by decide)
          · exact z.2
          · rw [hp.1] at z; exact absurd z.1 (by decide)
        obtain ⟨K, hK, eK⟩ := hokA b hb
        have e1 : μ.1 17 1 = nI b := hp.2.trans eb
        have ebc : (nI b).toNatClampNeg = b := nI_clamp (by omega)
        have hvb : vp_in (μ.1 17 1) 50 := by rw [e1]; exact vp_in_nI (by omega) (by omega)
        refine zb X_taken_s38 rfl ?_
        rw [e1]
        refine zcallV X_taken_d47 k10_375 (by omega) (x_isUnder (n := (zA_ S).1.1) (K := K) (by omega) e7 hA50 hb (by rw [e83]; exact eK) hK) rfl rfl rfl (Nat.le_of_ble_eq_true rfl) ?_
        rintro _ μx ⟨rfl, hx⟩
        rw [hx]
        clear hx μx
        refine z_ne X_taken_d50 (tgt := 56) rfl (fun h50 => ?_) (fun h50 => ?_)
        · refine zb1 X_taken_s56 rfl hvb ?_
          refine z_ret X_taken_d68 rfl ?_
          refine ⟨congrArg (fun z => some (Value.int z)) ?_, hS, onlyX.rf⟩
          first
            | (have g2 := zB_ne0.mp h50
               rw [e1, ebc, e83]
               unfold opTaken
               rw [show (nI 4).toNatClampNeg = 4 from rfl]
               rw [if_neg (fun z => z (And.intro (And.intro (by decide) (by decide)) (zB_ne0.mp h16))), if_neg (show ¬ hHeld S 4 = 0 by rw [hp.1]; decide), if_neg (show ¬ hHeld S 4 = 2 by rw [hp.1]; decide), eb, ebc, eK, if_pos g2])
            | (have g2 := zB_eq0.mp h50
               unfold opTaken
               rw [show (nI 4).toNatClampNeg = 4 from rfl]
               rw [if_neg (fun z => z (And.intro (And.intro (by decide) (by decide)) (zB_ne0.mp h16))), if_neg (show ¬ hHeld S 4 = 0 by rw [hp.1]; decide), if_neg (show ¬ hHeld S 4 = 2 by rw [hp.1]; decide), eb, ebc, eK, if_neg g2])
            | (have g2 : hHeld S 4 = 2 := by
                 rcases xs with z | z | z
                 · exact absurd (zB_ne0.mp h35) z.2.2
                 · exact absurd (zB_ne0.mp h35) z.2.2.1
                 · exact z.1
               unfold opTaken
               rw [show (nI 4).toNatClampNeg = 4 from rfl]
               rw [if_neg (fun z => z (And.intro (And.intro (by decide) (by decide)) (zB_ne0.mp h16))), if_neg (show ¬ hHeld S 4 = 0 by rw [g2]; decide), if_pos g2])
            | (have g2 : hHeld S 4 = 0 := by
                 rcases xs with z | z | z
                 · exact z.1
                 · exact absurd (zB_ne0.mp h25) z.2.1
                 · exact absurd (zB_ne0.mp h25) z.2.1
               unfold opTaken
               rw [show (nI 4).toNatClampNeg = 4 from rfl]
               rw [if_neg (fun z => z (And.intro (And.intro (by decide) (by decide)) (zB_ne0.mp h16))), if_pos g2])
            | (unfold opTaken
               rw [show (nI 4).toNatClampNeg = 4 from rfl]
               rw [if_pos (fun z => (zB_eq0.mp h16) z.2)])
        · refine zb X_taken_s53 rfl ?_
          refine z_ret X_taken_d55 rfl ?_
          refine ⟨congrArg (fun z => some (Value.int z)) ?_, hS, onlyX.rf⟩
          first
            | (have g2 := zB_ne0.mp h50
               rw [e1, ebc, e83]
               unfold opTaken
               rw [show (nI 4).toNatClampNeg = 4 from rfl]
               rw [if_neg (fun z => z (And.intro (And.intro (by decide) (by decide)) (zB_ne0.mp h16))), if_neg (show ¬ hHeld S 4 = 0 by rw [hp.1]; decide), if_neg (show ¬ hHeld S 4 = 2 by rw [hp.1]; decide), eb, ebc, eK, if_pos g2])
            | (have g2 := zB_eq0.mp h50
               unfold opTaken
               rw [show (nI 4).toNatClampNeg = 4 from rfl]
               rw [if_neg (fun z => z (And.intro (And.intro (by decide) (by decide)) (zB_ne0.mp h16))), if_neg (show ¬ hHeld S 4 = 0 by rw [hp.1]; decide), if_neg (show ¬ hHeld S 4 = 2 by rw [hp.1]; decide), eb, ebc, eK, if_neg g2])
            | (have g2 : hHeld S 4 = 2 := by
                 rcases xs with z | z | z
                 · exact absurd (zB_ne0.mp h35) z.2.2
                 · exact absurd (zB_ne0.mp h35) z.2.2.1
                 · exact z.1
               unfold opTaken
               rw [show (nI 4).toNatClampNeg = 4 from rfl]
               rw [if_neg (fun z => z (And.intro (And.intro (by decide) (by decide)) (zB_ne0.mp h16))), if_neg (show ¬ hHeld S 4 = 0 by rw [g2]; decide), if_pos g2])
            | (have g2 : hHeld S 4 = 0 := by
                 rcases xs with z | z | z
                 · exact z.1
                 · exact absurd (zB_ne0.mp h25) z.2.1
                 · exact absurd (zB_ne0.mp h25) z.2.1
               unfold opTaken
               rw [show (nI 4).toNatClampNeg = 4 from rfl]
               rw [if_neg (fun z => z (And.intro (And.intro (by decide) (by decide)) (zB_ne0.mp h16))), if_pos g2])
            | (unfold opTaken
               rw [show (nI 4).toNatClampNeg = 4 from rfl]
               rw [if_pos (fun z => (zB_eq0.mp h16) z.2)])
    · refine zb X_taken_s28 rfl ?_
      refine z_ret X_taken_d30 rfl ?_
      refine ⟨congrArg (fun z => some (Value.int z)) ?_, hS, onlyX.rf⟩
      first
        | (have g2 := zB_ne0.mp h50
           rw [e1, ebc, e83]
           unfold opTaken
           rw [show (nI 4).toNatClampNeg = 4 from rfl]
           rw [if_neg (fun z => z (And.intro (And.intro (by decide) (by decide)) (zB_ne0.mp h16))), if_neg (show ¬ hHeld S 4 = 0 by rw [hp.1]; decide), if_neg (show ¬ hHeld S 4 = 2 by rw [hp.1]; decide), eb, ebc, eK, if_pos g2])
        | (have g2 := zB_eq0.mp h50
           unfold opTaken
           rw [show (nI 4).toNatClampNeg = 4 from rfl]
           rw [if_neg (fun z => z (And.intro (And.intro (by decide) (by decide)) (zB_ne0.mp h16))), if_neg (show ¬ hHeld S 4 = 0 by rw [hp.1]; decide), if_neg (show ¬ hHeld S 4 = 2 by rw [hp.1]; decide), eb, ebc, eK, if_neg g2])
        | (have g2 : hHeld S 4 = 2 := by
             rcases xs with z | z | z
             · exact absurd (zB_ne0.mp h35) z.2.2
             · exact absurd (zB_ne0.mp h35) z.2.2.1
             · exact z.1
           unfold opTaken
           rw [show (nI 4).toNatClampNeg = 4 from rfl]
           rw [if_neg (fun z => z (And.intro (And.intro (by decide) (by decide)) (zB_ne0.mp h16))), if_neg (show ¬ hHeld S 4 = 0 by rw [g2]; decide), if_pos g2])
        | (have g2 : hHeld S 4 = 0 := by
             rcases xs with z | z | z
             · exact z.1
             · exact absurd (zB_ne0.mp h25) z.2.1
             · exact absurd (zB_ne0.mp h25) z.2.1
           unfold opTaken
           rw [show (nI 4).toNatClampNeg = 4 from rfl]
           rw [if_neg (fun z => z (And.intro (And.intro (by decide) (by decide)) (zB_ne0.mp h16))), if_pos g2])
        | (unfold opTaken
           rw [show (nI 4).toNatClampNeg = 4 from rfl]
           rw [if_pos (fun z => (zB_eq0.mp h16) z.2)])
  · refine zb X_taken_s19 rfl ?_
    refine z_ret X_taken_d20 rfl ?_
    refine ⟨congrArg (fun z => some (Value.int z)) ?_, hS, onlyX.rf⟩
    first
      | (have g2 := zB_ne0.mp h50
         rw [e1, ebc, e83]
         unfold opTaken
         rw [show (nI 4).toNatClampNeg = 4 from rfl]
         rw [if_neg (fun z => z (And.intro (And.intro (by decide) (by decide)) (zB_ne0.mp h16))), if_neg (show ¬ hHeld S 4 = 0 by rw [hp.1]; decide), if_neg (show ¬ hHeld S 4 = 2 by rw [hp.1]; decide), eb, ebc, eK, if_pos g2])
      | (have g2 := zB_eq0.mp h50
         unfold opTaken
         rw [show (nI 4).toNatClampNeg = 4 from rfl]
         rw [if_neg (fun z => z (And.intro (And.intro (by decide) (by decide)) (zB_ne0.mp h16))), if_neg (show ¬ hHeld S 4 = 0 by rw [hp.1]; decide), if_neg (show ¬ hHeld S 4 = 2 by rw [hp.1]; decide), eb, ebc, eK, if_neg g2])
      | (have g2 : hHeld S 4 = 2 := by
           rcases xs with z | z | z
           · exact absurd (zB_ne0.mp h35) z.2.2
           · exact absurd (zB_ne0.mp h35) z.2.2.1
           · exact z.1
         unfold opTaken
         rw [show (nI 4).toNatClampNeg = 4 from rfl]
         rw [if_neg (fun z => z (And.intro (And.intro (by decide) (by decide)) (zB_ne0.mp h16))), if_neg (show ¬ hHeld S 4 = 0 by rw [g2]; decide), if_pos g2])
      | (have g2 : hHeld S 4 = 0 := by
           rcases xs with z | z | z
           · exact z.1
           · exact absurd (zB_ne0.mp h25) z.2.1
           · exact absurd (zB_ne0.mp h25) z.2.1
         unfold opTaken
         rw [show (nI 4).toNatClampNeg = 4 from rfl]
         rw [if_neg (fun z => z (And.intro (And.intro (by decide) (by decide)) (zB_ne0.mp h16))), if_pos g2])
      | (unfold opTaken
         rw [show (nI 4).toNatClampNeg = 4 from rfl]
         rw [if_pos (fun z => (zB_eq0.mp h16) z.2)])

set_option maxRecDepth 100000 in
set_option maxHeartbeats 4000000 in
theorem xs_taken_5 {g : zG} {d : Nat} {S : zS} {μ : zMem} {k : Int32} (hd : 3 ≤ d) (hS : xS S μ) (hok : okH S) (hokA : okA S) : zM g d X_taken [.ref 1, .int (nI 5), .int k] μ (pO xS onlyX (opTaken S (nI 5) k, S) μ) := by
  refine zM_of (by decide +kernel) rfl rfl (Nat.le_of_ble_eq_true rfl) rfl ?_
  obtain ⟨ho, h2, hT, hC, hD, hI, hA, hH⟩ := hS
  have hS : xS S μ := ⟨ho, h2, hT, hC, hD, hI, hA, hH⟩
  have hb := ho.b
  have hv := ho.v
  have hB6 := ho.b6
  have hV12 := ho.v12
  have hz : zq sX μ μ := zq.rf
  replace hA : xA (zA_ S) μ := hA
  have e7 : μ.1 9 2 = nI (zA_ S).1.1 := hA.1
  have hA50 : (zA_ S).1.1 ≤ 50 := hA.2.1
  have e83 : μ.1 83 = (zA_ S).1.2 := hA.2.2.1
  have xs := xsh (s := 5) hS hok (by omega)
  refine zb X_taken_s0 rfl ?_
  refine zcallV X_taken_d2 k10_93 (by omega) (x_shelf_5 (by omega)) rfl rfl rfl (Nat.le_of_ble_eq_true rfl) ?_
  rintro _ μx ⟨rfl, hx⟩
  rw [hx]
  clear hx μx
  refine zb X_taken_s5 rfl ?_
  refine z_null X_taken_d7 ?_
  refine zb X_taken_s10 rfl ?_
  refine zcallS X_taken_d13 k10_170 (by omega) (x_isWithin _ _) rfl rfl (Nat.le_of_ble_eq_true rfl) ?_
  rintro _ μx ⟨rfl, hx⟩
  rw [hx]
  clear hx μx
  refine z_ne X_taken_d16 (tgt := 21) rfl (fun h16 => ?_) (fun h16 => ?_)
  · refine zb X_taken_s21 rfl ?_
    refine zcallV X_taken_d22 k10_97 (by omega) (x_isEmpty_5) rfl rfl rfl (Nat.le_of_ble_eq_true rfl) ?_
    rintro _ μx ⟨rfl, hx⟩
    rw [hx]
    clear hx μx
    refine z_eq X_taken_d25 (tgt := 31) rfl (fun h25 => ?_) (fun h25 => ?_)
    · refine zb X_taken_s31 rfl ?_
      refine zcallV X_taken_d32 k10_357 (by omega) (x_isRow_5) rfl rfl rfl (Nat.le_of_ble_eq_true rfl) ?_
      rintro _ μx ⟨rfl, hx⟩
      rw [hx]
      clear hx μx
      refine z_ne X_taken_d35 (tgt := 53) rfl (fun h35 => ?_) (fun h35 => ?_)
      · refine zb X_taken_s53 rfl ?_
        refine z_ret X_taken_d55 rfl ?_
        refine ⟨congrArg (fun z => some (Value.int z)) ?_, hS, onlyX.rf⟩
        first
          | (have g2 := zB_ne0.mp h50
             rw [e1, ebc, e83]
             unfold opTaken
             rw [show (nI 5).toNatClampNeg = 5 from rfl]
             rw [if_neg (fun z => z (And.intro (And.intro (by decide) (by decide)) (zB_ne0.mp h16))), if_neg (show ¬ hHeld S 5 = 0 by rw [hp.1]; decide), if_neg (show ¬ hHeld S 5 = 2 by rw [hp.1]; decide), eb, ebc, eK, if_pos g2])
          | (have g2 := zB_eq0.mp h50
             unfold opTaken
             rw [show (nI 5).toNatClampNeg = 5 from rfl]
             rw [if_neg (fun z => z (And.intro (And.intro (by decide) (by decide)) (zB_ne0.mp h16))), if_neg (show ¬ hHeld S 5 = 0 by rw [hp.1]; decide), if_neg (show ¬ hHeld S 5 = 2 by rw [hp.1]; decide), eb, ebc, eK, if_neg g2])
          | (have g2 : hHeld S 5 = 2 := by
               rcases xs with z | z | z
               · exact absurd (zB_ne0.mp h35) z.2.2
               · exact absurd (zB_ne0.mp h35) z.2.2.1
               · exact z.1
             unfold opTaken
             rw [show (nI 5).toNatClampNeg = 5 from rfl]
             rw [if_neg (fun z => z (And.intro (And.intro (by decide) (by decide)) (zB_ne0.mp h16))), if_neg (show ¬ hHeld S 5 = 0 by rw [g2]; decide), if_pos g2])
          | (have g2 : hHeld S 5 = 0 := by
               rcases xs with z | z | z
               · exact z.1
               · exact absurd (zB_ne0.mp h25) z.2.1
               · exact absurd (zB_ne0.mp h25) z.2.1
             unfold opTaken
             rw [show (nI 5).toNatClampNeg = 5 from rfl]
             rw [if_neg (fun z => z (And.intro (And.intro (by decide) (by decide)) (zB_ne0.mp h16))), if_pos g2])
          | (unfold opTaken
             rw [show (nI 5).toNatClampNeg = 5 from rfl]
             rw [if_pos (fun z => (zB_eq0.mp h16) z.2)])
      · have hp : hHeld S 5 = 1 ∧ μ.1 18 1 = hShown S 5 := by
          rcases xs with z | z | z
          · exact absurd z.2.1 (zB_eq0.mp h25)
          · exact And.intro z.1 z.2.2.2
          · exact absurd z.2.2.1 (zB_eq0.mp h35)
        obtain ⟨b, hb, eb⟩ : ∃ b, b < (zA_ S).1.1 ∧ hShown S 5 = nI b := by
          rcases hok 5 (by omega) with z | z | z
          · rw [hp.1] at z; exact absurd z (by decide)
          · exact z.2
          · rw [hp.1] at z; exact absurd z.1 (by decide)
        obtain ⟨K, hK, eK⟩ := hokA b hb
        have e1 : μ.1 18 1 = nI b := hp.2.trans eb
        have ebc : (nI b).toNatClampNeg = b := nI_clamp (by omega)
        have hvb : vp_in (μ.1 18 1) 50 := by rw [e1]; exact vp_in_nI (by omega) (by omega)
        refine zb X_taken_s38 rfl ?_
        rw [e1]
        refine zcallV X_taken_d47 k10_375 (by omega) (x_isUnder (n := (zA_ S).1.1) (K := K) (by omega) e7 hA50 hb (by rw [e83]; exact eK) hK) rfl rfl rfl (Nat.le_of_ble_eq_true rfl) ?_
        rintro _ μx ⟨rfl, hx⟩
        rw [hx]
        clear hx μx
        refine z_ne X_taken_d50 (tgt := 56) rfl (fun h50 => ?_) (fun h50 => ?_)
        · refine zb1 X_taken_s56 rfl hvb ?_
          refine z_ret X_taken_d68 rfl ?_
          refine ⟨congrArg (fun z => some (Value.int z)) ?_, hS, onlyX.rf⟩
          first
            | (have g2 := zB_ne0.mp h50
               rw [e1, ebc, e83]
               unfold opTaken
               rw [show (nI 5).toNatClampNeg = 5 from rfl]
               rw [if_neg (fun z => z (And.intro (And.intro (by decide) (by decide)) (zB_ne0.mp h16))), if_neg (show ¬ hHeld S 5 = 0 by rw [hp.1]; decide), if_neg (show ¬ hHeld S 5 = 2 by rw [hp.1]; decide), eb, ebc, eK, if_pos g2])
            | (have g2 := zB_eq0.mp h50
               unfold opTaken
               rw [show (nI 5).toNatClampNeg = 5 from rfl]
               rw [if_neg (fun z => z (And.intro (And.intro (by decide) (by decide)) (zB_ne0.mp h16))), if_neg (show ¬ hHeld S 5 = 0 by rw [hp.1]; decide), if_neg (show ¬ hHeld S 5 = 2 by rw [hp.1]; decide), eb, ebc, eK, if_neg g2])
            | (have g2 : hHeld S 5 = 2 := by
                 rcases xs with z | z | z
                 · exact absurd (zB_ne0.mp h35) z.2.2
                 · exact absurd (zB_ne0.mp h35) z.2.2.1
                 · exact z.1
               unfold opTaken
               rw [show (nI 5).toNatClampNeg = 5 from rfl]
               rw [if_neg (fun z => z (And.intro (And.intro (by decide) (by decide)) (zB_ne0.mp h16))), if_neg (show ¬ hHeld S 5 = 0 by rw [g2]; decide), if_pos g2])
            | (have g2 : hHeld S 5 = 0 := by
                 rcases xs with z | z | z
                 · exact z.1
                 · exact absurd (zB_ne0.mp h25) z.2.1
                 · exact absurd (zB_ne0.mp h25) z.2.1
               unfold opTaken
               rw [show (nI 5).toNatClampNeg = 5 from rfl]
               rw [if_neg (fun z => z (And.intro (And.intro (by decide) (by decide)) (zB_ne0.mp h16))), if_pos g2])
            | (unfold opTaken
               rw [show (nI 5).toNatClampNeg = 5 from rfl]
               rw [if_pos (fun z => (zB_eq0.mp h16) z.2)])
        · refine zb X_taken_s53 rfl ?_
          refine z_ret X_taken_d55 rfl ?_
          refine ⟨congrArg (fun z => some (Value.int z)) ?_, hS, onlyX.rf⟩
          first
            | (have g2 := zB_ne0.mp h50
               rw [e1, ebc, e83]
               unfold opTaken
               rw [show (nI 5).toNatClampNeg = 5 from rfl]
               rw [if_neg (fun z => z (And.intro (And.intro (by decide) (by decide)) (zB_ne0.mp h16))), if_neg (show ¬ hHeld S 5 = 0 by rw [hp.1]; decide), if_neg (show ¬ hHeld S 5 = 2 by rw [hp.1]; decide), eb, ebc, eK, if_pos g2])
            | (have g2 := zB_eq0.mp h50
               unfold opTaken
               rw [show (nI 5).toNatClampNeg = 5 from rfl]
               rw [if_neg (fun z => z (And.intro (And.intro (by decide) (by decide)) (zB_ne0.mp h16))), if_neg (show ¬ hHeld S 5 = 0 by rw [hp.1]; decide), if_neg (show ¬ hHeld S 5 = 2 by rw [hp.1]; decide), eb, ebc, eK, if_neg g2])
            | (have g2 : hHeld S 5 = 2 := by
                 rcases xs with z | z | z
                 · exact absurd (zB_ne0.mp h35) z.2.2
                 · exact absurd (zB_ne0.mp h35) z.2.2.1
                 · exact z.1
               unfold opTaken
               rw [show (nI 5).toNatClampNeg = 5 from rfl]
               rw [if_neg (fun z => z (And.intro (And.intro (by decide) (by decide)) (zB_ne0.mp h16))), if_neg (show ¬ hHeld S 5 = 0 by rw [g2]; decide), if_pos g2])
            | (have g2 : hHeld S 5 = 0 := by
                 rcases xs with z | z | z
                 · exact z.1
                 · exact absurd (zB_ne0.mp h25) z.2.1
                 · exact absurd (zB_ne0.mp h25) z.2.1
               unfold opTaken
               rw [show (nI 5).toNatClampNeg = 5 from rfl]
               rw [if_neg (fun z => z (And.intro (And.intro (by decide) (by decide)) (zB_ne0.mp h16))), if_pos g2])
            | (unfold opTaken
               rw [show (nI 5).toNatClampNeg = 5 from rfl]
               rw [if_pos (fun z => (zB_eq0.mp h16) z.2)])
    · refine zb X_taken_s28 rfl ?_
      refine z_ret X_taken_d30 rfl ?_
      refine ⟨congrArg (fun z => some (Value.int z)) ?_, hS, onlyX.rf⟩
      first
        | (have g2 := zB_ne0.mp h50
           rw [e1, ebc, e83]
           unfold opTaken
           rw [show (nI 5).toNatClampNeg = 5 from rfl]
           rw [if_neg (fun z => z (And.intro (And.intro (by decide) (by decide)) (zB_ne0.mp h16))), if_neg (show ¬ hHeld S 5 = 0 by rw [hp.1]; decide), if_neg (show ¬ hHeld S 5 = 2 by rw [hp.1]; decide), eb, ebc, eK, if_pos g2])
        | (have g2 := zB_eq0.mp h50
           unfold opTaken
           rw [show (nI 5).toNatClampNeg = 5 from rfl]
           rw [if_neg (fun z => z (And.intro (And.intro (by decide) (by decide)) (zB_ne0.mp h16))), if_neg (show ¬ hHeld S 5 = 0 by rw [hp.1]; decide), if_neg (show ¬ hHeld S 5 = 2 by rw [hp.1]; decide), eb, ebc, eK, if_neg g2])
        | (have g2 : hHeld S 5 = 2 := by
             rcases xs with z | z | z
             · exact absurd (zB_ne0.mp h35) z.2.2
             · exact absurd (zB_ne0.mp h35) z.2.2.1
             · exact z.1
           unfold opTaken
           rw [show (nI 5).toNatClampNeg = 5 from rfl]
           rw [if_neg (fun z => z (And.intro (And.intro (by decide) (by decide)) (zB_ne0.mp h16))), if_neg (show ¬ hHeld S 5 = 0 by rw [g2]; decide), if_pos g2])
        | (have g2 : hHeld S 5 = 0 := by
             rcases xs with z | z | z
             · exact z.1
             · exact absurd (zB_ne0.mp h25) z.2.1
             · exact absurd (zB_ne0.mp h25) z.2.1
           unfold opTaken
           rw [show (nI 5).toNatClampNeg = 5 from rfl]
           rw [if_neg (fun z => z (And.intro (And.intro (by decide) (by decide)) (zB_ne0.mp h16))), if_pos g2])
        | (unfold opTaken
           rw [show (nI 5).toNatClampNeg = 5 from rfl]
           rw [if_pos (fun z => (zB_eq0.mp h16) z.2)])
  · refine zb X_taken_s19 rfl ?_
    refine z_ret X_taken_d20 rfl ?_
    refine ⟨congrArg (fun z => some (Value.int z)) ?_, hS, onlyX.rf⟩
    first
      | (have g2 := zB_ne0.mp h50
         rw [e1, ebc, e83]
         unfold opTaken
         rw [show (nI 5).toNatClampNeg = 5 from rfl]
         rw [if_neg (fun z => z (And.intro (And.intro (by decide) (by decide)) (zB_ne0.mp h16))), if_neg (show ¬ hHeld S 5 = 0 by rw [hp.1]; decide), if_neg (show ¬ hHeld S 5 = 2 by rw [hp.1]; decide), eb, ebc, eK, if_pos g2])
      | (have g2 := zB_eq0.mp h50
         unfold opTaken
         rw [show (nI 5).toNatClampNeg = 5 from rfl]
         rw [if_neg (fun z => z (And.intro (And.intro (by decide) (by decide)) (zB_ne0.mp h16))), if_neg (show ¬ hHeld S 5 = 0 by rw [hp.1]; decide), if_neg (show ¬ hHeld S 5 = 2 by rw [hp.1]; decide), eb, ebc, eK, if_neg g2])
      | (have g2 : hHeld S 5 = 2 := by
           rcases xs with z | z | z
           · exact absurd (zB_ne0.mp h35) z.2.2
           · exact absurd (zB_ne0.mp h35) z.2.2.1
           · exact z.1
         unfold opTaken
         rw [show (nI 5).toNatClampNeg = 5 from rfl]
         rw [if_neg (fun z => z (And.intro (And.intro (by decide) (by decide)) (zB_ne0.mp h16))), if_neg (show ¬ hHeld S 5 = 0 by rw [g2]; decide), if_pos g2])
      | (have g2 : hHeld S 5 = 0 := by
           rcases xs with z | z | z
           · exact z.1
           · exact absurd (zB_ne0.mp h25) z.2.1
           · exact absurd (zB_ne0.mp h25) z.2.1
         unfold opTaken
         rw [show (nI 5).toNatClampNeg = 5 from rfl]
         rw [if_neg (fun z => z (And.intro (And.intro (by decide) (by decide)) (zB_ne0.mp h16))), if_pos g2])
      | (unfold opTaken
         rw [show (nI 5).toNatClampNeg = 5 from rfl]
         rw [if_pos (fun z => (zB_eq0.mp h16) z.2)])

set_option maxRecDepth 100000 in
set_option maxHeartbeats 4000000 in
theorem xs_taken_o {g : zG} {d : Nat} {S : zS} {μ : zMem} {s k : Int32} (hd : 2 ≤ d) (hS : xS S μ) (hs : ¬ (0 ≤ s ∧ s ≤ 5)) : zM g d X_taken [.ref 1, .int s, .int k] μ (pO xS onlyX (opTaken S s k, S) μ) := by
  refine zM_of (by decide +kernel) rfl rfl (Nat.le_of_ble_eq_true rfl) rfl ?_
  refine zb X_taken_s0 rfl ?_
  refine zcallV X_taken_d2 k10_93 (by omega) (x_shelf_out (by omega) hs) rfl rfl rfl (Nat.le_of_ble_eq_true rfl) ?_
  rintro _ μx ⟨rfl, hx⟩
  rw [hx]
  clear hx μx
  refine zb X_taken_s5 rfl ?_
  refine z_nullN X_taken_d7 (tgt := 19) rfl ?_
  refine zb X_taken_s19 rfl ?_
  refine z_ret X_taken_d20 rfl ?_
  unfold opTaken
  rw [if_pos (fun z => hs (g6 z.1))]
  exact ⟨rfl, hS, onlyX.rf⟩

theorem xs_taken {g : zG} {d : Nat} {S : zS} {μ : zMem} {s k : Int32} (hd : 3 ≤ d) (hS : xS S μ) (hok : okH S) (hokA : okA S) : zM g d X_taken [.ref 1, .int s, .int k] μ (pO xS onlyX (opTaken S s k, S) μ) := by
  by_cases hs : 0 ≤ s ∧ s ≤ 5
  · rcases s5 hs with rfl | rfl | rfl | rfl | rfl | rfl
    · exact xs_taken_0 (by omega) hS hok hokA
    · exact xs_taken_1 (by omega) hS hok hokA
    · exact xs_taken_2 (by omega) hS hok hokA
    · exact xs_taken_3 (by omega) hS hok hokA
    · exact xs_taken_4 (by omega) hS hok hokA
    · exact xs_taken_5 (by omega) hS hok hokA
  · exact xs_taken_o (by omega) hS hs
