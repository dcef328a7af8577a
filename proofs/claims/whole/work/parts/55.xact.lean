/-! the class: a body made, its acts, what ran -/
theorem leB {V : Nat} {b : Int32} (hV : V ≤ 60) : b ≤ nI V - 1 ↔ b < nI V := by
  rw [Int32.le_iff_toInt_le, Int32.lt_iff_toInt_lt, show (1 : Int32) = nI 1 from rfl, sub_toInt hV (by omega), nI_toInt (by omega)]
  omega
theorem le_3 {a : Int32} (h : a < 4) : a ≤ 3 := by grind
theorem lt_4 {a : Int32} (h : a ≤ 3) : a < 4 := by grind
theorem xL_r {L : Int32 → Int32 → Int32 → Int32 → Int32 → Int32 → Int32} {μ μ' : zMem} (r : ∀ c, ¬ c = 9 → ¬ c = 84 → μ'.1 c = μ.1 c) (h2 : μ'.2 = μ.2) (h : xL L μ) : xL L μ' := by
  unfold xL
  rw [h2]
  rcases h with ⟨a, c⟩ | ⟨a, c⟩
  · exact Or.inl ⟨a, c.q (by rw [r 10 (by decide) (by decide)]) (r 85 (by decide) (by decide)) (r 86 (by decide) (by decide))⟩
  · exact Or.inr ⟨a, c.q (by rw [r 11 (by decide) (by decide)]) (r 89 (by decide) (by decide)) (r 90 (by decide) (by decide))⟩
theorem onlyX_a {μ a : zMem} (h : zq sXA μ a) : onlyX μ a := by
  refine fun q hq => ⟨funext fun k => h.1 q k ?_, by rw [h.2]⟩
  unfold sXA
  by_cases z : q = 9
  · rw [z] at hq; cases hq
  · by_cases y : q = 84
    · rw [y] at hq; cases hq
    · simp [z, y]
/-- only what has run changes -/
theorem xS_t {S : zS} {μ μ' : zMem} {m : Nat} {t : zT} (h : xS S μ) (hz : zq sXA μ μ') (ht : aX m t μ') : xS (sA S ((zA_ S).1, t)) μ' := by
  obtain ⟨h1, h2, h3, h4, h5, h6, h7, h8⟩ := h
  have r : ∀ c, ¬ c = 9 → ¬ c = 84 → μ'.1 c = μ.1 c := fun c h0 h47 => funext fun k => hz.1 c k (by unfold sXA; simp [h0, h47])
  refine ⟨?_, ?_, ?_, ?_, ?_, ?_, ?_, ?_⟩
  · obtain ⟨⟨a1, a2, a3, a4⟩, ⟨r1, r2, r3, r4, r5, r6, r7⟩, hl⟩ := h1
    refine ⟨⟨?_, a2, ?_, a4⟩, ⟨?_, ?_, ?_, ?_, ?_, ?_, ?_⟩, ?_⟩
    · rw [r 2 (by decide) (by decide)]; exact a1
    · rw [r 2 (by decide) (by decide)]; exact a3
    · rw [r 54 (by decide) (by decide)]; exact r1
    · rw [r 55 (by decide) (by decide)]; exact r2
    · rw [r 56 (by decide) (by decide)]; exact r3
    · rw [r 57 (by decide) (by decide)]; exact r4
    · rw [r 58 (by decide) (by decide)]; exact r5
    · rw [r 59 (by decide) (by decide)]; exact r6
    · rw [r 60 (by decide) (by decide)]; exact r7
    · exact xL_r r hz.2 hl
  · unfold x2 at h2 ⊢; rw [r 2 (by decide) (by decide), r 7 (by decide) (by decide)]; exact h2
  · unfold xT at h3 ⊢; rw [r 3 (by decide) (by decide), r 61 (by decide) (by decide)]; exact h3
  · unfold xC at h4 ⊢; rw [r 8 (by decide) (by decide), r 79 (by decide) (by decide), r 80 (by decide) (by decide), r 81 (by decide) (by decide), r 82 (by decide) (by decide)]; exact h4
  · unfold xD at h5 ⊢; rw [r 75 (by decide) (by decide)]; exact h5
  · unfold xI at h6 ⊢; rw [r 7 (by decide) (by decide), r 76 (by decide) (by decide), r 77 (by decide) (by decide), r 78 (by decide) (by decide)]; exact h6
  · have h7' : xA (zA_ S) μ := h7
    unfold xA at h7' ⊢
    refine ⟨?_, h7'.2.1, ?_, ht.1, ht.2.1⟩
    · rw [hz.1 9 2 rfl]; exact h7'.1
    · rw [r 83 (by decide) (by decide)]; exact h7'.2.2.1
  · unfold xH at h8 ⊢
    intro s hs
    rw [r (13 + s) (by omega) (by omega), hz.2]
    exact h8 s hs


set_option maxRecDepth 100000 in
set_option maxHeartbeats 4000000 in
theorem x_hasBody {g : zG} {d n : Nat} {μ : zMem} (b : Int32) (e : μ.1 9 2 = nI n) : zM g d A_hasBody [.ref 9, .int b] μ (fun r μ' => r = some (.int (zB (0 ≤ b ∧ b < nI n))) ∧ μ' = μ) := by
  refine zM_of (by decide +kernel) rfl rfl (Nat.le_of_ble_eq_true rfl) rfl ?_
  refine zb A_hasBody_s0 rfl ?_
  refine z_lt A_hasBody_d1 (tgt := 16) rfl (fun h1 => ?_) (fun h1 => ?_)
  · refine zb A_hasBody_s16 rfl ?_
    refine z_retZ A_hasBody_d17 rfl (by first | exact Or.inl rfl | exact Or.inr rfl) ?_
    first
      | exact ⟨by rw [zB_t (And.intro (Int32.not_lt.mp h1) (by rw [← e]; exact Int32.not_le.mp h9))], rfl⟩
      | exact ⟨by rw [zB_f (fun z => absurd z.2 (by rw [← e]; exact Int32.not_lt.mpr h9))], rfl⟩
      | exact ⟨by rw [zB_f (fun z => absurd z.1 (Int32.not_le.mpr h1))], rfl⟩
  · refine zb A_hasBody_s4 rfl ?_
    refine z_cge A_hasBody_d9 (tgt := 16) rfl (fun h9 => ?_) (fun h9 => ?_)
    · refine zb A_hasBody_s16 rfl ?_
      refine z_retZ A_hasBody_d17 rfl (by first | exact Or.inl rfl | exact Or.inr rfl) ?_
      first
        | exact ⟨by rw [zB_t (And.intro (Int32.not_lt.mp h1) (by rw [← e]; exact Int32.not_le.mp h9))], rfl⟩
        | exact ⟨by rw [zB_f (fun z => absurd z.2 (by rw [← e]; exact Int32.not_lt.mpr h9))], rfl⟩
        | exact ⟨by rw [zB_f (fun z => absurd z.1 (Int32.not_le.mpr h1))], rfl⟩
    · refine zb A_hasBody_s12 rfl ?_
      refine z_retZ A_hasBody_d17 rfl (by first | exact Or.inl rfl | exact Or.inr rfl) ?_
      first
        | exact ⟨by rw [zB_t (And.intro (Int32.not_lt.mp h1) (by rw [← e]; exact Int32.not_le.mp h9))], rfl⟩
        | exact ⟨by rw [zB_f (fun z => absurd z.2 (by rw [← e]; exact Int32.not_lt.mpr h9))], rfl⟩
        | exact ⟨by rw [zB_f (fun z => absurd z.1 (Int32.not_le.mpr h1))], rfl⟩

set_option maxRecDepth 100000 in
set_option maxHeartbeats 4000000 in
theorem xs_addBody {g : zG} {d : Nat} {S : zS} {μ : zMem} {k : Int32} (hS : xS S μ) (h : (zA_ S).1.1 < 50) : zM g d A_addBody [.ref 9, .int k] μ (pO xS onlyX (nI (zA_ S).1.1, sA S (((zA_ S).1.1 + 1, fu (zA_ S).1.2 (zA_ S).1.1 k), (zA_ S).2)) μ) := by
  refine zM_of (by decide +kernel) rfl rfl (Nat.le_of_ble_eq_true rfl) rfl ?_
  obtain ⟨ho, h2, hT, hC, hD, hI, hA, hH⟩ := hS
  have hS : xS S μ := ⟨ho, h2, hT, hC, hD, hI, hA, hH⟩
  have hb := ho.b
  have hv := ho.v
  have hB6 := ho.b6
  have hV12 := ho.v12
  have hz : zq sX μ μ := zq.rf
  replace hA : xA (zA_ S) μ := hA
  have e7 : μ.1 9 2 = nI (zA_ S).1.1 := hA.1
  have h50 : (zA_ S).1.1 ≤ 50 := hA.2.1
  have e46 : μ.1 83 = (zA_ S).1.2 := hA.2.2.1
  have e6 : μ.1 9 3 = (zA_ S).2.1 := hA.2.2.2.1
  have hvb : vp_in (μ.1 9 2) 50 := by rw [e7]; exact vp_in_nI (by omega) (by omega)
  refine zb A_addBody_s0 rfl ?_
  refine z_clt A_addBody_d6 (tgt := 12) rfl (fun h6 => ?_) (fun h6 => absurd (show μ.1 9 2 < 50 by rw [e7]; exact nI_lt (b := 50) h (by omega)) h6)
  refine zb1 A_addBody_s12 rfl hvb ?_
  refine z_ret A_addBody_d33 rfl ?_
  simp (disch := decide) only [zpI_ne, zpI_at, Nat.reduceEqDiff, reduceIte, e7, nI_clamp (show (zA_ S).1.1 < 2 ^ 31 by omega), nI_1]
  have ho1 : oX S.1 (zpI (zpI μ 83 (zA_ S).1.1 k) 9 2 (nI ((zA_ S).1.1 + 1))) := ⟨ho.1, ho.2.1, ho.2.2⟩
  refine ⟨rfl, ⟨ho1, h2, hT, hC, hD, hI, ⟨rfl, ?_, ?_, e6, hA.2.2.2.2⟩, (by repeat (first | exact hH | refine xH.put (by decide) ?_))⟩, (by repeat (first | exact onlyX.rf | refine onlyX.put rfl ?_))⟩
  · show (zA_ S).1.1 + 1 ≤ 50
    omega
  · show _ = fu (zA_ S).1.2 (zA_ S).1.1 k
    rw [← e46]
    rfl

set_option maxRecDepth 100000 in
set_option maxHeartbeats 4000000 in
theorem xs_body {g : zG} {d : Nat} {S : zS} {μ : zMem} {k : Int32} (hd : 1 ≤ d) (hS : xS S μ) : zM g d X_body [.ref 1, .int k] μ (pO xS onlyX (opBody S k) μ) := by
  refine zM_of (by decide +kernel) rfl rfl (Nat.le_of_ble_eq_true rfl) rfl ?_
  obtain ⟨ho, h2, hT, hC, hD, hI, hA, hH⟩ := hS
  have hS : xS S μ := ⟨ho, h2, hT, hC, hD, hI, hA, hH⟩
  have hb := ho.b
  have hv := ho.v
  have hB6 := ho.b6
  have hV12 := ho.v12
  have hz : zq sX μ μ := zq.rf
  replace hA : xA (zA_ S) μ := hA
  have e7 : μ.1 9 2 = nI (zA_ S).1.1 := hA.1
  have h50 : (zA_ S).1.1 ≤ 50 := hA.2.1
  have e46 : μ.1 83 = (zA_ S).1.2 := hA.2.2.1
  have e6 : μ.1 9 3 = (zA_ S).2.1 := hA.2.2.2.1
  refine zb X_body_s0 rfl ?_
  refine zcallS X_body_d3 k10_170 (by omega) (x_isWithin _ _) rfl rfl (Nat.le_of_ble_eq_true rfl) ?_
  rintro _ μx ⟨rfl, hx⟩
  rw [hx]
  clear hx μx
  refine z_ne X_body_d6 (tgt := 11) rfl (fun h6 => ?_) (fun h6 => ?_)
  · refine zb X_body_s11 rfl ?_
    refine z_cge X_body_d20 (tgt := 34) rfl (fun h20 => ?_) (fun h20 => ?_)
    · refine zb X_body_s34 rfl ?_
      refine z_ret X_body_d36 rfl ?_
      unfold opBody
      first
        | (rw [if_pos (zB_eq0.mp h6)]; exact ⟨rfl, hS, onlyX.rf⟩)
        | (rw [if_neg (fun z => z (zB_ne0.mp h6)), if_neg (show ¬ (zA_ S).1.1 = 50 by omega)]; exact ⟨rfl, hS1, hO1⟩)
        | (have h5 : (zA_ S).1.1 = 50 := by
             rw [e7] at h20
             have := (nI_leI (a := 50) (by omega) (by omega)).mp h20
             omega
           rw [if_neg (fun z => z (zB_ne0.mp h6)), if_pos h5]; exact ⟨rfl, hS, onlyX.rf⟩)
    · have hlt : (zA_ S).1.1 < 50 := by rw [e7] at h20; exact (nI_ltI (b := 50) (by omega) (by omega)).mp (Int32.not_le.mp h20)
      refine zb X_body_s23 rfl ?_
      refine zcallV X_body_d28 k10_316 (by omega) (xs_addBody hS hlt) rfl rfl rfl (Nat.le_of_ble_eq_true rfl) ?_
      rintro _ μ1 ⟨rfl, hS1, hO1⟩
      refine zb X_body_s31 rfl ?_
      refine z_ret X_body_d36 rfl ?_
      unfold opBody
      first
        | (rw [if_pos (zB_eq0.mp h6)]; exact ⟨rfl, hS, onlyX.rf⟩)
        | (rw [if_neg (fun z => z (zB_ne0.mp h6)), if_neg (show ¬ (zA_ S).1.1 = 50 by omega)]; exact ⟨rfl, hS1, hO1⟩)
        | (have h5 : (zA_ S).1.1 = 50 := by
             rw [e7] at h20
             have := (nI_leI (a := 50) (by omega) (by omega)).mp h20
             omega
           rw [if_neg (fun z => z (zB_ne0.mp h6)), if_pos h5]; exact ⟨rfl, hS, onlyX.rf⟩)
  · refine zb X_body_s9 rfl ?_
    refine z_ret X_body_d10 rfl ?_
    unfold opBody
    first
      | (rw [if_pos (zB_eq0.mp h6)]; exact ⟨rfl, hS, onlyX.rf⟩)
      | (rw [if_neg (fun z => z (zB_ne0.mp h6)), if_neg (show ¬ (zA_ S).1.1 = 50 by omega)]; exact ⟨rfl, hS1, hO1⟩)
      | (have h5 : (zA_ S).1.1 = 50 := by
           rw [e7] at h20
           have := (nI_leI (a := 50) (by omega) (by omega)).mp h20
           omega
         rw [if_neg (fun z => z (zB_ne0.mp h6)), if_pos h5]; exact ⟨rfl, hS, onlyX.rf⟩)

set_option maxRecDepth 100000 in
set_option maxHeartbeats 4000000 in
theorem x_own {g : zG} {d dep m nb K0 a : Nat} {x : Int32} {t : zT} {μ : zMem} (ha : a < 4) (hK0 : K0 < 8) (hnb : nb < 50) (hdep : dep + 7 < 40) (hm : m + 14 < 2 ^ 20) (hd : 16 ≤ d) (ht : aX m t μ) (hN : aN nb K0 μ) : zM g d A_own [.ref 9, .int (nI a), .int x, .int (nI dep)] μ (fun r μ' => r = some (.int (actF (nI nb) K0 (nI a) x t).1) ∧ aX (m + 14) (actF (nI nb) K0 (nI a) x t).2 μ' ∧ zq sXA μ μ') := by
  have e1 : actF (nI nb) K0 (nI 0) x t = ringsF (nI nb) 4 K0 x t := if_pos rfl
  have e2 : actF (nI nb) K0 (nI 1) x t = hearsF (nI nb) K0 4 K0 x t := (if_neg (by decide)).trans (if_pos rfl)
  have e3 : actF (nI nb) K0 (nI 2) x t = doingF (nI nb) K0 4 K0 x t := (if_neg (by decide)).trans ((if_neg (by decide)).trans (if_pos rfl))
  have e4 : actF (nI nb) K0 (nI 3) x t = tellsF (nI nb) K0 4 K0 x t := (if_neg (by decide)).trans ((if_neg (by decide)).trans (if_neg (by decide)))
  rcases (show a = 0 ∨ a = 1 ∨ a = 2 ∨ a = 3 by omega) with rfl | rfl | rfl | rfl
  · rw [e1]
    exact (x_own0 hK0 hnb (by omega) (by omega) (by omega) ht hN).mono (fun r μ' q => ⟨q.1, q.2.1.up (by omega), q.2.2⟩)
  · rw [e2]
    exact (x_own1 hK0 hnb (by omega) (by omega) (by omega) ht hN).mono (fun r μ' q => ⟨q.1, q.2.1.up (by omega), q.2.2⟩)
  · rw [e3]
    exact (x_own2 hK0 hnb (by omega) (by omega) (by omega) ht hN).mono (fun r μ' q => ⟨q.1, q.2.1.up (by omega), q.2.2⟩)
  · rw [e4]
    exact (x_own3 hK0 hnb (by omega) (by omega) (by omega) ht hN).mono (fun r μ' q => ⟨q.1, q.2.1.up (by omega), q.2.2⟩)

theorem xA.put4 {S : zS} {μ : zMem} {x : Int32} (h : xS S μ) : xS S (zpI μ 9 4 x) := by
  obtain ⟨ho, h2, hT, hC, hD, hI, hA, hH⟩ := h
  have hA' : xA (zA_ S) (zpI μ 9 4 x) := hA
  exact ⟨⟨ho.1, ho.2.1, ho.2.2⟩, h2, hT, hC, hD, hI, hA', (by repeat (first | exact hH | refine xH.put (by decide) ?_))⟩

set_option maxRecDepth 100000 in
set_option maxHeartbeats 4000000 in
theorem xs_start {g : zG} {d : Nat} {S : zS} {μ : zMem} {b a x : Int32} (hd : 18 ≤ d) (hS : xS S μ) (hokA : okA S) : zM g d A_start [.ref 9, .int b, .int a, .int x] μ (pO xS onlyX (opAct S b a x) μ) := by
  refine zM_of (by decide +kernel) rfl rfl (Nat.le_of_ble_eq_true rfl) rfl ?_
  obtain ⟨ho, h2, hT, hC, hD, hI, hA, hH⟩ := hS
  have hS : xS S μ := ⟨ho, h2, hT, hC, hD, hI, hA, hH⟩
  have hb := ho.b
  have hv := ho.v
  have hB6 := ho.b6
  have hV12 := ho.v12
  have hz : zq sX μ μ := zq.rf
  replace hA : xA (zA_ S) μ := hA
  have e7 : μ.1 9 2 = nI (zA_ S).1.1 := hA.1
  have h50 : (zA_ S).1.1 ≤ 50 := hA.2.1
  have e46 : μ.1 83 = (zA_ S).1.2 := hA.2.2.1
  have e6 : μ.1 9 3 = (zA_ S).2.1 := hA.2.2.2.1
  have hz0 : zq sXA μ (zpI μ 9 3 0) := zq.w rfl
  have ht0 : aX 0 (0, (zA_ S).2.2) (zpI μ 9 3 0) := ⟨rfl, fun i hi => hA.2.2.2.2 i hi, 0, Nat.le_refl _, rfl⟩
  have hS0 := xS_t hS hz0 ht0
  have hO0 := onlyX_a hz0
  refine zb A_start_s0 rfl ?_
  refine zcallV A_start_d7 k0_31 (by omega) (x_hasBody (n := (zA_ S).1.1) _ e7) rfl rfl rfl (Nat.le_of_ble_eq_true rfl) ?_
  rintro _ μx ⟨rfl, hx⟩
  rw [hx]
  clear hx μx
  refine z_eq A_start_d10 (tgt := 22) rfl (fun h10 => ?_) (fun h10 => ?_)
  · refine zb A_start_s22 rfl ?_
    refine z_ret A_start_d23 rfl ?_
    unfold opAct
    first
      | (rw [if_neg (fun z => z (And.intro (And.intro g1.1 ((leB (by omega)).mpr g1.2)) (And.intro (Int32.not_lt.mp h14) (le_3 h19)))), eKn]
         exact ⟨rfl, hS1, hO1⟩)
      | (rw [if_pos (fun z => absurd (And.intro z.1.1 ((leB (by omega)).mp z.1.2)) (zB_eq0.mp h10))]; exact ⟨rfl, hS0, hO0⟩)
      | (rw [if_pos (fun z => h19 (lt_4 z.2.2))]; exact ⟨rfl, hS0, hO0⟩)
      | (rw [if_pos (fun z => absurd z.2.1 (Int32.not_le.mpr h14))]; exact ⟨rfl, hS0, hO0⟩)
  · refine zb A_start_s13 rfl ?_
    refine z_lt A_start_d14 (tgt := 22) rfl (fun h14 => ?_) (fun h14 => ?_)
    · refine zb A_start_s22 rfl ?_
      refine z_ret A_start_d23 rfl ?_
      unfold opAct
      first
        | (rw [if_neg (fun z => z (And.intro (And.intro g1.1 ((leB (by omega)).mpr g1.2)) (And.intro (Int32.not_lt.mp h14) (le_3 h19)))), eKn]
           exact ⟨rfl, hS1, hO1⟩)
        | (rw [if_pos (fun z => absurd (And.intro z.1.1 ((leB (by omega)).mp z.1.2)) (zB_eq0.mp h10))]; exact ⟨rfl, hS0, hO0⟩)
        | (rw [if_pos (fun z => h19 (lt_4 z.2.2))]; exact ⟨rfl, hS0, hO0⟩)
        | (rw [if_pos (fun z => absurd z.2.1 (Int32.not_le.mpr h14))]; exact ⟨rfl, hS0, hO0⟩)
    · refine zb A_start_s17 rfl ?_
      refine z_clt A_start_d19 (tgt := 24) rfl (fun h19 => ?_) (fun h19 => ?_)
      · have g1 : 0 ≤ b ∧ b < nI (zA_ S).1.1 := zB_ne0.mp h10
        obtain ⟨nb, hnb, rfl, eb⟩ := zix g1.1 g1.2 (by omega)
        obtain ⟨na, hna, rfl, ea⟩ := zix (n := 4) (Int32.not_lt.mp h14) h19 (by omega)
        obtain ⟨K, hK8, eK⟩ := hokA nb hnb
        have hKk : (zA_ S).1.2 nb = nI K := eK
        have eKn : ((zA_ S).1.2 (nI nb).toNatClampNeg).toNatClampNeg = K := by rw [eb, eK]; exact nI_clamp (by omega)
        have hSp := xA.put4 (x := nI nb) hS
        have ht1 : aX 0 (0, (zA_ S).2.2) (zpI (zpI μ 9 3 0) 9 4 (nI nb)) := ht0
        have hN1 : aN nb K (zpI (zpI μ 9 3 0) 9 4 (nI nb)) := ⟨rfl, by
          show μ.1 83 nb = nI K
          rw [e46, eK]⟩
        have hzp : zq sXA (zpI μ 9 4 (nI nb)) (zpI (zpI μ 9 3 0) 9 4 (nI nb)) := by
          refine ⟨fun c k hc => ?_, rfl⟩
          by_cases h9 : c = 9
          · subst h9
            by_cases h3 : k = 3
            · subst h3; cases hc
            · rw [zpI_at, zpI_at, zpI_at]
              simp [h3]
          · rw [zpI_ne h9, zpI_ne h9, zpI_ne h9]
        refine zb A_start_s24 rfl ?_
        refine zcallV A_start_d33 k0_41 (by omega) (x_own (x := x) hna hK8 (by omega) (dep := 0) (by omega) (m := 0) (by omega) (by omega) ht1 hN1) rfl rfl rfl (Nat.le_of_ble_eq_true rfl) ?_
        rintro _ μ1 ⟨rfl, hA1, hz1⟩
        have hS1 := xS_t hSp (hzp.tr hz1) hA1
        have hO1 := (onlyX.put (μ := μ) (x := nI nb) (k := 4) (c := 9) rfl onlyX.rf).tr (onlyX_a (hzp.tr hz1))
        refine z_ret A_start_d36 rfl ?_
        unfold opAct
        first
          | (rw [if_neg (fun z => z (And.intro (And.intro g1.1 ((leB (by omega)).mpr g1.2)) (And.intro (Int32.not_lt.mp h14) (le_3 h19)))), eKn]
             exact ⟨rfl, hS1, hO1⟩)
          | (rw [if_pos (fun z => absurd (And.intro z.1.1 ((leB (by omega)).mp z.1.2)) (zB_eq0.mp h10))]; exact ⟨rfl, hS0, hO0⟩)
          | (rw [if_pos (fun z => h19 (lt_4 z.2.2))]; exact ⟨rfl, hS0, hO0⟩)
          | (rw [if_pos (fun z => absurd z.2.1 (Int32.not_le.mpr h14))]; exact ⟨rfl, hS0, hO0⟩)
      · refine zb A_start_s22 rfl ?_
        refine z_ret A_start_d23 rfl ?_
        unfold opAct
        first
          | (rw [if_neg (fun z => z (And.intro (And.intro g1.1 ((leB (by omega)).mpr g1.2)) (And.intro (Int32.not_lt.mp h14) (le_3 h19)))), eKn]
             exact ⟨rfl, hS1, hO1⟩)
          | (rw [if_pos (fun z => absurd (And.intro z.1.1 ((leB (by omega)).mp z.1.2)) (zB_eq0.mp h10))]; exact ⟨rfl, hS0, hO0⟩)
          | (rw [if_pos (fun z => h19 (lt_4 z.2.2))]; exact ⟨rfl, hS0, hO0⟩)
          | (rw [if_pos (fun z => absurd z.2.1 (Int32.not_le.mpr h14))]; exact ⟨rfl, hS0, hO0⟩)

set_option maxRecDepth 100000 in
set_option maxHeartbeats 4000000 in
theorem xs_act {g : zG} {d : Nat} {S : zS} {μ : zMem} {b a x : Int32} (hd : 19 ≤ d) (hS : xS S μ) (hokA : okA S) : zM g d X_act [.ref 1, .int b, .int a, .int x] μ (pO xS onlyX (opAct S b a x) μ) := by
  refine zM_of (by decide +kernel) rfl rfl (Nat.le_of_ble_eq_true rfl) rfl ?_
  obtain ⟨ho, h2, hT, hC, hD, hI, hA, hH⟩ := hS
  have hS : xS S μ := ⟨ho, h2, hT, hC, hD, hI, hA, hH⟩
  have hb := ho.b
  have hv := ho.v
  have hB6 := ho.b6
  have hV12 := ho.v12
  have hz : zq sX μ μ := zq.rf
  refine zb X_act_s0 rfl ?_
  refine zcallV X_act_d7 k10_319 (by omega) (xs_start (by omega) hS hokA) rfl rfl rfl (Nat.le_of_ble_eq_true rfl) ?_
  rintro _ μ1 ⟨rfl, hS1, hO1⟩
  refine z_ret X_act_d10 rfl ?_
  exact ⟨rfl, hS1, hO1⟩

set_option maxRecDepth 100000 in
set_option maxHeartbeats 4000000 in
theorem x_kept24 {g : zG} {d : Nat} {μ : zMem} (hd : 1 ≤ d) : zM g d A_kept [.ref 9] μ (fun r μ' => (∃ v, r = some (.int v) ∧ ∀ i : Int32, i < v ↔ (i < 24 ∧ i < μ.1 9 3)) ∧ μ' = μ) := by
  refine zM_of (by decide +kernel) rfl rfl (Nat.le_of_ble_eq_true rfl) rfl ?_
  refine zb A_kept_s0 rfl ?_
  refine zmin A_kept_d6 k0_25 (by omega) (Nat.le_of_ble_eq_true rfl) ?_
  refine z_ret A_kept_d9 rfl ?_
  refine ⟨⟨_, rfl, fun i => ?_⟩, rfl⟩
  split
  · rename_i h
    exact ⟨fun z => ⟨by grind, by grind⟩, fun z => by grind⟩
  · rename_i h
    exact ⟨fun z => ⟨by grind, by grind⟩, fun z => by grind⟩

set_option maxRecDepth 100000 in
set_option maxHeartbeats 4000000 in
theorem xs_trace {g : zG} {d : Nat} {S : zS} {μ : zMem} {i : Int32} (hd : 2 ≤ d) (hS : xS S μ) : zM g d X_trace [.ref 1, .int i] μ (pO xS onlyX ((opTrace S i, S)) μ) := by
  refine zM_of (by decide +kernel) rfl rfl (Nat.le_of_ble_eq_true rfl) rfl ?_
  obtain ⟨ho, h2, hT, hC, hD, hI, hA, hH⟩ := hS
  have hS : xS S μ := ⟨ho, h2, hT, hC, hD, hI, hA, hH⟩
  have hb := ho.b
  have hv := ho.v
  have hB6 := ho.b6
  have hV12 := ho.v12
  have hz : zq sX μ μ := zq.rf
  replace hA : xA (zA_ S) μ := hA
  have e7 : μ.1 9 2 = nI (zA_ S).1.1 := hA.1
  have h50 : (zA_ S).1.1 ≤ 50 := hA.2.1
  have e46 : μ.1 83 = (zA_ S).1.2 := hA.2.2.1
  have e6 : μ.1 9 3 = (zA_ S).2.1 := hA.2.2.2.1
  refine zb X_trace_s0 rfl ?_
  refine z_lt X_trace_d1 (tgt := 27) rfl (fun h1 => ?_) (fun h1 => ?_)
  · refine zb X_trace_s27 rfl ?_
    refine z_ret X_trace_d28 rfl ?_
    refine ⟨?_, hS, onlyX.rf⟩
    unfold opTrace
    first
      | (rw [if_pos (And.intro (Int32.not_lt.mp h1) (And.intro hlt.1 (by rw [← e6]; exact hlt.2))), eq, hA.2.2.2.2 q hq])
      | (rw [if_neg (fun z => absurd ((hv24 i).mpr (And.intro z.2.1 (by rw [e6]; exact z.2.2))) (Int32.not_lt.mpr h12))])
      | (rw [if_neg (fun z => absurd z.1 (Int32.not_le.mpr h1))])
  · refine zb X_trace_s4 rfl ?_
    refine zcallV X_trace_d9 k10_322 (by omega) (x_kept24 (by omega)) rfl rfl rfl (Nat.le_of_ble_eq_true rfl) ?_
    rintro _ μx ⟨⟨v, rfl, hv24⟩, hx⟩
    rw [hx]
    clear hx μx
    refine z_cge X_trace_d12 (tgt := 27) rfl (fun h12 => ?_) (fun h12 => ?_)
    · refine zb X_trace_s27 rfl ?_
      refine z_ret X_trace_d28 rfl ?_
      refine ⟨?_, hS, onlyX.rf⟩
      unfold opTrace
      first
        | (rw [if_pos (And.intro (Int32.not_lt.mp h1) (And.intro hlt.1 (by rw [← e6]; exact hlt.2))), eq, hA.2.2.2.2 q hq])
        | (rw [if_neg (fun z => absurd ((hv24 i).mpr (And.intro z.2.1 (by rw [e6]; exact z.2.2))) (Int32.not_lt.mpr h12))])
        | (rw [if_neg (fun z => absurd z.1 (Int32.not_le.mpr h1))])
    · have hlt := (hv24 i).mp (Int32.not_le.mp h12)
      obtain ⟨q, hq, rfl, eq⟩ := zix (n := 24) (Int32.not_lt.mp h1) hlt.1 (by omega)
      have hvi : vp_in (nI q) 24 := vp_in_nI (by omega) (by omega)
      refine zb1 X_trace_s15 rfl hvi ?_
      refine z_ret X_trace_d28 rfl ?_
      refine ⟨?_, hS, onlyX.rf⟩
      unfold opTrace
      first
        | (rw [if_pos (And.intro (Int32.not_lt.mp h1) (And.intro hlt.1 (by rw [← e6]; exact hlt.2))), eq, hA.2.2.2.2 q hq])
        | (rw [if_neg (fun z => absurd ((hv24 i).mpr (And.intro z.2.1 (by rw [e6]; exact z.2.2))) (Int32.not_lt.mpr h12))])
        | (rw [if_neg (fun z => absurd z.1 (Int32.not_le.mpr h1))])
