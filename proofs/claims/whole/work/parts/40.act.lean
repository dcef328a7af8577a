/-! the reference: bodies, shelves -/
def sA (S : zS) (a : zAc) : zS := (S.1, S.2.1, S.2.2.1, S.2.2.2.1, S.2.2.2.2.1, S.2.2.2.2.2.1, a, S.2.2.2.2.2.2.2)
def okA (S : zS) : Prop := ∀ i, i < (zA_ S).1.1 → ∃ k, k < 8 ∧ (zA_ S).1.2 i = nI k
def opBody (S : zS) (k : Int32) : Int32 × zS := if ¬ (0 ≤ k ∧ k ≤ 7) then (-1, S) else if (zA_ S).1.1 = 50 then (-3, S) else (nI (zA_ S).1.1, sA S (((zA_ S).1.1 + 1, fu (zA_ S).1.2 (zA_ S).1.1 k), (zA_ S).2))
def opTrace (S : zS) (i : Int32) : Int32 := if 0 ≤ i ∧ i < 24 ∧ i < (zA_ S).2.1 then (zA_ S).2.2 i.toNatClampNeg else -1
def actF (n : Int32) (K : Nat) (a x : Int32) (t : zT) : Int32 × zT := if a = 0 then ringsF n 4 K x t else if a = 1 then hearsF n K 4 K x t else if a = 2 then doingF n K 4 K x t else tellsF n K 4 K x t
def opAct (S : zS) (b a x : Int32) : Int32 × zS := if ¬ ((0 ≤ b ∧ b ≤ nI (zA_ S).1.1 - 1) ∧ (0 ≤ a ∧ a ≤ 3)) then (0, sA S ((zA_ S).1, 0, (zA_ S).2.2)) else ((actF b ((zA_ S).1.2 b.toNatClampNeg).toNatClampNeg a x (0, (zA_ S).2.2)).1, sA S ((zA_ S).1, (actF b ((zA_ S).1.2 b.toNatClampNeg).toNatClampNeg a x (0, (zA_ S).2.2)).2))
theorem vixB {V M : Nat} {v : Int32} (hV : V ≤ M) (hM : M < 2 ^ 30) (h0 : 0 ≤ v) (h : v ≤ nI V - 1) : ∃ q, q < V ∧ v = nI q ∧ v.toNatClampNeg = q := by
  obtain ⟨q, hq, rfl⟩ := nI_of (Int32.not_lt.mpr h0)
  refine ⟨q, ?_, rfl, nI_clamp hq⟩
  rcases Nat.eq_zero_or_pos V with z | z
  · subst z
    have h1 := Int32.le_iff_toInt_le.mp h
    rw [nI_toInt hq, show (nI 0 - 1).toInt = -1 from rfl] at h1
    omega
  · rw [show (1 : Int32) = nI 1 from rfl, pk_sub z, nI_leI hq (by omega)] at h
    omega
theorem onlyM_t {μ a : zMem} (h : zq sT μ a) : onlyM μ a := by
  refine ⟨fun q hq => ⟨funext fun k => h.1 q k ?_, by rw [h.2]⟩, by rw [h.2]⟩
  unfold sT
  by_cases z : q = 0
  · rw [z] at hq; cases hq
  · by_cases y : q = 47
    · rw [y] at hq; cases hq
    · simp [z, y]
/-- only what has run changes -/
theorem mS_t {S : zS} {μ μ' : zMem} {m : Nat} {t : zT} (h : mS S μ) (hz : zq sT μ μ') (ht : aT m t μ') : mS (sA S ((zA_ S).1, t)) μ' := by
  obtain ⟨h1, h2, h3, h4, h5, h6, h7, h8⟩ := h
  have r : ∀ c, ¬ c = 0 → ¬ c = 47 → μ'.1 c = μ.1 c := fun c h0 h47 => funext fun k => hz.1 c k (by unfold sT; simp [h0, h47])
  have ok : mokF sT := ⟨⟨rfl, rfl, rfl, rfl⟩, fun _ => ⟨rfl, rfl, rfl, rfl, rfl, rfl, rfl, rfl⟩⟩
  refine ⟨⟨(zq_fM ok hz).2 h1.1, by rw [(zq_fM ok hz).1]; exact h1.2⟩, ?_, ?_, ?_, ?_, ?_, ?_, ?_⟩
  · unfold m2 at h2 ⊢; rw [hz.1 0 2 rfl, hz.1 0 3 rfl]; exact h2
  · unfold mT at h3 ⊢; rw [hz.1 0 4 rfl, r 32 (by decide) (by decide)]; exact h3
  · unfold mC at h4 ⊢; rw [hz.1 0 22 rfl, hz.1 0 23 rfl, r 34 (by decide) (by decide), r 35 (by decide) (by decide), r 36 (by decide) (by decide), r 37 (by decide) (by decide)]; exact h4
  · unfold mD at h5 ⊢; rw [hz.1 0 35 rfl, hz.1 0 36 rfl, hz.1 0 37 rfl, hz.1 0 38 rfl]; exact h5
  · unfold mI at h6 ⊢; rw [hz.1 0 40 rfl, r 45 (by decide) (by decide)]; exact h6
  · have h7' : mA (zA_ S) μ := h7
    unfold mA at h7' ⊢
    refine ⟨?_, h7'.2.1, ?_, ht.1, ht.2.1⟩
    · rw [hz.1 0 7 rfl]; exact h7'.1
    · rw [r 46 (by decide) (by decide)]; exact h7'.2.2.1
  · unfold mH at h8 ⊢; rw [r 48 (by decide) (by decide), r 49 (by decide) (by decide), r 50 (by decide) (by decide), r 51 (by decide) (by decide), hz.2]; exact h8

set_option maxRecDepth 100000 in
set_option maxHeartbeats 4000000 in
theorem s_M_body {g : zG} {d : Nat} {S : zS} {μ : zMem} {k : Int32} (hd : 1 ≤ d) (hS : mS S μ) : zM g d M_body [.ref 0, .int k] μ (pO mS onlyM (opBody S k) μ) := by
  refine zM_of (by decide +kernel) rfl rfl (Nat.le_of_ble_eq_true rfl) rfl ?_
  obtain ⟨ho, h2, hT, hC, hD, hI, hA, hH⟩ := hS
  have hS : mS S μ := ⟨ho, h2, hT, hC, hD, hI, hA, hH⟩
  have hb := ho.b
  have hv := ho.v
  have h6 := ho.b6
  have h12 := ho.v12
  have hz : zq sM μ μ := zq.rf
  replace hA : mA (zA_ S) μ := hA
  have e7 : μ.1 0 7 = nI (zA_ S).1.1 := hA.1
  have h50 : (zA_ S).1.1 ≤ 50 := hA.2.1
  have e46 : μ.1 46 = (zA_ S).1.2 := hA.2.2.1
  have e6 : μ.1 0 6 = (zA_ S).2.1 := hA.2.2.2.1
  refine zb M_body_s0 rfl ?_
  refine zcallV M_body_d5 k11_112 (by omega) (c_M_isIn _ _ _) rfl rfl rfl (Nat.le_of_ble_eq_true rfl) ?_
  rintro _ μx ⟨rfl, hx⟩
  rw [hx]
  clear hx μx
  refine z_ne M_body_d8 (tgt := 13) rfl (fun h8 => ?_) (fun h8 => ?_)
  · refine zb M_body_s13 rfl ?_
    refine z_cne M_body_d19 (tgt := 25) rfl (fun h19 => ?_) (fun h19 => ?_)
    · have hne : ¬ (zA_ S).1.1 = 50 := fun z => h19 (by rw [e7, z]; rfl)
      have hvb : vp_in (μ.1 0 7) 50 := by rw [e7]; exact vp_in_nI (by omega) (by omega)
      refine zb1 M_body_s25 rfl hvb ?_
      refine z_ret M_body_d46 rfl ?_
      unfold opBody
      first
        | (rw [if_pos (zB_eq0.mp h8)]; exact ⟨rfl, hS, onlyM.rf⟩)
        | (rw [if_neg (fun z => z (zB_ne0.mp h8)), if_neg hne]
           simp (disch := decide) only [zpI_ne, zpI_at, Nat.reduceEqDiff, reduceIte, e7, nI_clamp (show (zA_ S).1.1 < 2 ^ 31 by omega), nI_1]
           have ho1 : oM S.1 (zpI (zpI μ 46 (zA_ S).1.1 k) 0 7 (nI ((zA_ S).1.1 + 1))) := ⟨ho.1, by rw [← ho.2]; rfl⟩
           refine ⟨rfl, ⟨ho1, h2, hT, hC, hD, hI, ⟨rfl, ?_, ?_, e6, hA.2.2.2.2⟩, hH⟩, (by repeat (first | exact onlyM.rf | refine onlyM.put rfl ?_))⟩
           · show (zA_ S).1.1 + 1 ≤ 50
             omega
           · show _ = fu (zA_ S).1.2 (zA_ S).1.1 k
             rw [← e46]
             rfl)
        | (rw [if_neg (fun z => z (zB_ne0.mp h8)), if_pos ((nI_eq (a := (zA_ S).1.1) (b := 50) (by omega) (by omega)).mp (e7.symm.trans h19))]; exact ⟨rfl, hS, onlyM.rf⟩)
    · refine zb M_body_s22 rfl ?_
      refine z_ret M_body_d24 rfl ?_
      unfold opBody
      first
        | (rw [if_pos (zB_eq0.mp h8)]; exact ⟨rfl, hS, onlyM.rf⟩)
        | (rw [if_neg (fun z => z (zB_ne0.mp h8)), if_neg hne]
           simp (disch := decide) only [zpI_ne, zpI_at, Nat.reduceEqDiff, reduceIte, e7, nI_clamp (show (zA_ S).1.1 < 2 ^ 31 by omega), nI_1]
           have ho1 : oM S.1 (zpI (zpI μ 46 (zA_ S).1.1 k) 0 7 (nI ((zA_ S).1.1 + 1))) := ⟨ho.1, by rw [← ho.2]; rfl⟩
           refine ⟨rfl, ⟨ho1, h2, hT, hC, hD, hI, ⟨rfl, ?_, ?_, e6, hA.2.2.2.2⟩, hH⟩, (by repeat (first | exact onlyM.rf | refine onlyM.put rfl ?_))⟩
           · show (zA_ S).1.1 + 1 ≤ 50
             omega
           · show _ = fu (zA_ S).1.2 (zA_ S).1.1 k
             rw [← e46]
             rfl)
        | (rw [if_neg (fun z => z (zB_ne0.mp h8)), if_pos ((nI_eq (a := (zA_ S).1.1) (b := 50) (by omega) (by omega)).mp (e7.symm.trans h19))]; exact ⟨rfl, hS, onlyM.rf⟩)
  · refine zb M_body_s11 rfl ?_
    refine z_ret M_body_d12 rfl ?_
    unfold opBody
    first
      | (rw [if_pos (zB_eq0.mp h8)]; exact ⟨rfl, hS, onlyM.rf⟩)
      | (rw [if_neg (fun z => z (zB_ne0.mp h8)), if_neg hne]
         simp (disch := decide) only [zpI_ne, zpI_at, Nat.reduceEqDiff, reduceIte, e7, nI_clamp (show (zA_ S).1.1 < 2 ^ 31 by omega), nI_1]
         have ho1 : oM S.1 (zpI (zpI μ 46 (zA_ S).1.1 k) 0 7 (nI ((zA_ S).1.1 + 1))) := ⟨ho.1, by rw [← ho.2]; rfl⟩
         refine ⟨rfl, ⟨ho1, h2, hT, hC, hD, hI, ⟨rfl, ?_, ?_, e6, hA.2.2.2.2⟩, hH⟩, (by repeat (first | exact onlyM.rf | refine onlyM.put rfl ?_))⟩
         · show (zA_ S).1.1 + 1 ≤ 50
           omega
         · show _ = fu (zA_ S).1.2 (zA_ S).1.1 k
           rw [← e46]
           rfl)
      | (rw [if_neg (fun z => z (zB_ne0.mp h8)), if_pos ((nI_eq (a := (zA_ S).1.1) (b := 50) (by omega) (by omega)).mp (e7.symm.trans h19))]; exact ⟨rfl, hS, onlyM.rf⟩)

set_option maxRecDepth 100000 in
set_option maxHeartbeats 4000000 in
theorem s_M_trace {g : zG} {d : Nat} {S : zS} {μ : zMem} {i : Int32} (hS : mS S μ) : zM g d M_trace [.ref 0, .int i] μ (pO mS onlyM ((opTrace S i, S)) μ) := by
  refine zM_of (by decide +kernel) rfl rfl (Nat.le_of_ble_eq_true rfl) rfl ?_
  obtain ⟨ho, h2, hT, hC, hD, hI, hA, hH⟩ := hS
  have hS : mS S μ := ⟨ho, h2, hT, hC, hD, hI, hA, hH⟩
  have hb := ho.b
  have hv := ho.v
  have h6 := ho.b6
  have h12 := ho.v12
  have hz : zq sM μ μ := zq.rf
  replace hA : mA (zA_ S) μ := hA
  have e7 : μ.1 0 7 = nI (zA_ S).1.1 := hA.1
  have h50 : (zA_ S).1.1 ≤ 50 := hA.2.1
  have e46 : μ.1 46 = (zA_ S).1.2 := hA.2.2.1
  have e6 : μ.1 0 6 = (zA_ S).2.1 := hA.2.2.2.1
  refine zb M_trace_s0 rfl ?_
  refine z_lt M_trace_d1 (tgt := 27) rfl (fun h1 => ?_) (fun h1 => ?_)
  · refine zb M_trace_s27 rfl ?_
    refine z_ret M_trace_d28 rfl ?_
    refine ⟨?_, hS, onlyM.rf⟩
    unfold opTrace
    first
      | (rw [if_pos (show 0 ≤ i ∧ i < 24 ∧ i < (zA_ S).2.1 from ⟨Int32.not_lt.mp h1, Int32.not_le.mp h7, by rw [← e6]; exact Int32.not_le.mp h15⟩), hA.2.2.2.2 _ hi24])
      | (rw [if_neg (fun z => by first | exact absurd z.1 (Int32.not_le.mpr h1) | exact absurd z.2.1 (Int32.not_lt.mpr h7) | exact absurd z.2.2 (by rw [← e6]; exact Int32.not_lt.mpr h15))])
  · refine zb M_trace_s4 rfl ?_
    refine z_cge M_trace_d7 (tgt := 27) rfl (fun h7 => ?_) (fun h7 => ?_)
    · refine zb M_trace_s27 rfl ?_
      refine z_ret M_trace_d28 rfl ?_
      refine ⟨?_, hS, onlyM.rf⟩
      unfold opTrace
      first
        | (rw [if_pos (show 0 ≤ i ∧ i < 24 ∧ i < (zA_ S).2.1 from ⟨Int32.not_lt.mp h1, Int32.not_le.mp h7, by rw [← e6]; exact Int32.not_le.mp h15⟩), hA.2.2.2.2 _ hi24])
        | (rw [if_neg (fun z => by first | exact absurd z.1 (Int32.not_le.mpr h1) | exact absurd z.2.1 (Int32.not_lt.mpr h7) | exact absurd z.2.2 (by rw [← e6]; exact Int32.not_lt.mpr h15))])
    · refine zb M_trace_s10 rfl ?_
      refine z_cge M_trace_d15 (tgt := 27) rfl (fun h15 => ?_) (fun h15 => ?_)
      · refine zb M_trace_s27 rfl ?_
        refine z_ret M_trace_d28 rfl ?_
        refine ⟨?_, hS, onlyM.rf⟩
        unfold opTrace
        first
          | (rw [if_pos (show 0 ≤ i ∧ i < 24 ∧ i < (zA_ S).2.1 from ⟨Int32.not_lt.mp h1, Int32.not_le.mp h7, by rw [← e6]; exact Int32.not_le.mp h15⟩), hA.2.2.2.2 _ hi24])
          | (rw [if_neg (fun z => by first | exact absurd z.1 (Int32.not_le.mpr h1) | exact absurd z.2.1 (Int32.not_lt.mpr h7) | exact absurd z.2.2 (by rw [← e6]; exact Int32.not_lt.mpr h15))])
      · have hvi : vp_in i 24 := by
          obtain ⟨q, hq, rfl, -⟩ := zix (n := 24) (Int32.not_lt.mp h1) (Int32.not_le.mp h7) (by omega)
          exact vp_in_nI hq (by omega)
        have hi24 : i.toNatClampNeg < 24 := by
          obtain ⟨q, hq, rfl, e⟩ := zix (n := 24) (Int32.not_lt.mp h1) (Int32.not_le.mp h7) (by omega)
          rw [e]; exact hq
        refine zb1 M_trace_s18 rfl hvi ?_
        refine z_ret M_trace_d28 rfl ?_
        refine ⟨?_, hS, onlyM.rf⟩
        unfold opTrace
        first
          | (rw [if_pos (show 0 ≤ i ∧ i < 24 ∧ i < (zA_ S).2.1 from ⟨Int32.not_lt.mp h1, Int32.not_le.mp h7, by rw [← e6]; exact Int32.not_le.mp h15⟩), hA.2.2.2.2 _ hi24])
          | (rw [if_neg (fun z => by first | exact absurd z.1 (Int32.not_le.mpr h1) | exact absurd z.2.1 (Int32.not_lt.mpr h7) | exact absurd z.2.2 (by rw [← e6]; exact Int32.not_lt.mpr h15))])

set_option maxRecDepth 100000 in
set_option maxHeartbeats 4000000 in
theorem s_M_act {g : zG} {d : Nat} {S : zS} {μ : zMem} {b a x : Int32} (hd : 24 ≤ d) (hS : mS S μ) (hokA : okA S) : zM g d M_act [.ref 0, .int b, .int a, .int x] μ (pO mS onlyM (opAct S b a x) μ) := by
  refine zM_of (by decide +kernel) rfl rfl (Nat.le_of_ble_eq_true rfl) rfl ?_
  obtain ⟨ho, h2, hT, hC, hD, hI, hA, hH⟩ := hS
  have hS : mS S μ := ⟨ho, h2, hT, hC, hD, hI, hA, hH⟩
  have hb := ho.b
  have hv := ho.v
  have h6 := ho.b6
  have h12 := ho.v12
  have hz : zq sM μ μ := zq.rf
  replace hA : mA (zA_ S) μ := hA
  have e7 : μ.1 0 7 = nI (zA_ S).1.1 := hA.1
  have h50 : (zA_ S).1.1 ≤ 50 := hA.2.1
  have e46 : μ.1 46 = (zA_ S).1.2 := hA.2.2.1
  have e6 : μ.1 0 6 = (zA_ S).2.1 := hA.2.2.2.1
  have hz0 : zq sT μ (zpI μ 0 6 0) := zq.w rfl
  have ht0 : aT 0 (0, (zA_ S).2.2) (zpI μ 0 6 0) := ⟨rfl, fun i hi => hA.2.2.2.2 i hi, 0, Nat.le_refl _, rfl⟩
  have hS0 := mS_t hS hz0 ht0
  have hO0 := onlyM_t hz0
  refine zb M_act_s0 rfl ?_
  rw [show (zpI μ 0 6 0).1 0 7 = nI (zA_ S).1.1 from e7]
  refine zcallV M_act_d14 k11_112 (by omega) (c_M_isIn _ _ _) rfl rfl rfl (Nat.le_of_ble_eq_true rfl) ?_
  rintro _ μx ⟨rfl, hx⟩
  rw [hx]
  clear hx μx
  refine z_eq M_act_d17 (tgt := 30) rfl (fun h17 => ?_) (fun h17 => ?_)
  · refine zb M_act_s30 rfl ?_
    refine z_ret M_act_d31 rfl ?_
    unfold opAct
    first
      | (rw [if_pos (fun z => (zB_eq0.mp h17) z.1)]; exact ⟨rfl, hS0, hO0⟩)
      | (rw [if_pos (fun z => (zB_eq0.mp h27) z.2)]; exact ⟨rfl, hS0, hO0⟩)
      | (rw [if_neg (fun z => z ⟨g1, g2⟩), eb, eKn]
         unfold actF
         first
           | (rw [if_pos h41]; exact ⟨rfl, hS1, hO1⟩)
           | (rw [if_neg h41, if_pos h57]; exact ⟨rfl, hS1, hO1⟩)
           | (rw [if_neg h41, if_neg h57, if_pos h73]; exact ⟨rfl, hS1, hO1⟩)
           | (rw [if_neg h41, if_neg h57, if_neg h73]; exact ⟨rfl, hS1, hO1⟩))
  · refine zb M_act_s20 rfl ?_
    refine zcallV M_act_d24 k11_112 (by omega) (c_M_isIn _ _ _) rfl rfl rfl (Nat.le_of_ble_eq_true rfl) ?_
    rintro _ μx ⟨rfl, hx⟩
    rw [hx]
    clear hx μx
    refine z_ne M_act_d27 (tgt := 32) rfl (fun h27 => ?_) (fun h27 => ?_)
    · have g1 := zB_ne0.mp h17
      have g2 := zB_ne0.mp h27
      obtain ⟨nb, hnb, rfl, eb⟩ := vixB h50 (by omega) g1.1 g1.2
      obtain ⟨K, hK8, eK⟩ := hokA nb hnb
      have hvb : vp_in (nI nb) 50 := vp_in_nI (by omega) (by omega)
      have hKk : (zpI μ 0 6 0).1 46 nb = nI K := by
        rw [← eK, ← e46]
        rfl
      have eKn : ((zA_ S).1.2 nb).toNatClampNeg = K := by rw [eK]; exact nI_clamp (by omega)
      refine zb1 M_act_s32 rfl hvb ?_
      refine z_ne M_act_d41 (tgt := 55) rfl (fun h41 => ?_) (fun h41 => ?_)
      · rw [eb, hKk]
        refine zb M_act_s55 rfl ?_
        refine z_cne M_act_d57 (tgt := 71) rfl (fun h57 => ?_) (fun h57 => ?_)
        · refine zb M_act_s71 rfl ?_
          refine z_cne M_act_d73 (tgt := 87) rfl (fun h73 => ?_) (fun h73 => ?_)
          · refine zb M_act_s87 rfl ?_
            refine zcallV M_act_d92 k11_376 (by omega) (c_tells (by omega) hK8 4 K hK8 (rk4 hK8) (by omega) (d - 1) 0 _ _ _ (by omega) (by omega) hKk ht0) rfl rfl rfl (Nat.le_of_ble_eq_true rfl) ?_
            rintro _ μ1 ⟨rfl, ht1, hz1⟩
            have hS1 := mS_t hS (hz0.tr hz1) ht1
            have hO1 := onlyM_t (hz0.tr hz1)
            refine z_ret M_act_d95 rfl ?_
            unfold opAct
            first
              | (rw [if_pos (fun z => (zB_eq0.mp h17) z.1)]; exact ⟨rfl, hS0, hO0⟩)
              | (rw [if_pos (fun z => (zB_eq0.mp h27) z.2)]; exact ⟨rfl, hS0, hO0⟩)
              | (rw [if_neg (fun z => z ⟨g1, g2⟩), eb, eKn]
                 unfold actF
                 first
                   | (rw [if_pos h41]; exact ⟨rfl, hS1, hO1⟩)
                   | (rw [if_neg h41, if_pos h57]; exact ⟨rfl, hS1, hO1⟩)
                   | (rw [if_neg h41, if_neg h57, if_pos h73]; exact ⟨rfl, hS1, hO1⟩)
                   | (rw [if_neg h41, if_neg h57, if_neg h73]; exact ⟨rfl, hS1, hO1⟩))
          · refine zb M_act_s76 rfl ?_
            refine zcallV M_act_d81 k11_373 (by omega) (c_doing (by omega) hK8 4 K hK8 (rk4 hK8) (by omega) (d - 1) 0 _ _ _ (by omega) (by omega) hKk ht0) rfl rfl rfl (Nat.le_of_ble_eq_true rfl) ?_
            rintro _ μ1 ⟨rfl, ht1, hz1⟩
            have hS1 := mS_t hS (hz0.tr hz1) ht1
            have hO1 := onlyM_t (hz0.tr hz1)
            refine zb M_act_s84 rfl ?_
            refine z_ret M_act_d95 rfl ?_
            unfold opAct
            first
              | (rw [if_pos (fun z => (zB_eq0.mp h17) z.1)]; exact ⟨rfl, hS0, hO0⟩)
              | (rw [if_pos (fun z => (zB_eq0.mp h27) z.2)]; exact ⟨rfl, hS0, hO0⟩)
              | (rw [if_neg (fun z => z ⟨g1, g2⟩), eb, eKn]
                 unfold actF
                 first
                   | (rw [if_pos h41]; exact ⟨rfl, hS1, hO1⟩)
                   | (rw [if_neg h41, if_pos h57]; exact ⟨rfl, hS1, hO1⟩)
                   | (rw [if_neg h41, if_neg h57, if_pos h73]; exact ⟨rfl, hS1, hO1⟩)
                   | (rw [if_neg h41, if_neg h57, if_neg h73]; exact ⟨rfl, hS1, hO1⟩))
        · refine zb M_act_s60 rfl ?_
          refine zcallV M_act_d65 k11_370 (by omega) (c_hears (by omega) hK8 4 K hK8 (rk4 hK8) (by omega) (d - 1) 0 _ _ _ (by omega) (by omega) hKk ht0) rfl rfl rfl (Nat.le_of_ble_eq_true rfl) ?_
          rintro _ μ1 ⟨rfl, ht1, hz1⟩
          have hS1 := mS_t hS (hz0.tr hz1) ht1
          have hO1 := onlyM_t (hz0.tr hz1)
          refine zb M_act_s68 rfl ?_
          refine z_ret M_act_d95 rfl ?_
          unfold opAct
          first
            | (rw [if_pos (fun z => (zB_eq0.mp h17) z.1)]; exact ⟨rfl, hS0, hO0⟩)
            | (rw [if_pos (fun z => (zB_eq0.mp h27) z.2)]; exact ⟨rfl, hS0, hO0⟩)
            | (rw [if_neg (fun z => z ⟨g1, g2⟩), eb, eKn]
               unfold actF
               first
                 | (rw [if_pos h41]; exact ⟨rfl, hS1, hO1⟩)
                 | (rw [if_neg h41, if_pos h57]; exact ⟨rfl, hS1, hO1⟩)
                 | (rw [if_neg h41, if_neg h57, if_pos h73]; exact ⟨rfl, hS1, hO1⟩)
                 | (rw [if_neg h41, if_neg h57, if_neg h73]; exact ⟨rfl, hS1, hO1⟩))
      · rw [eb, hKk]
        refine zb M_act_s44 rfl ?_
        refine zcallV M_act_d49 k11_367 (by omega) (c_rings 4 K hK8 (rk4 hK8) (by omega) (d - 1) 0 _ _ _ (by omega) (by omega) ht0) rfl rfl rfl (Nat.le_of_ble_eq_true rfl) ?_
        rintro _ μ1 ⟨rfl, ht1, hz1⟩
        have hS1 := mS_t hS (hz0.tr hz1) ht1
        have hO1 := onlyM_t (hz0.tr hz1)
        refine zb M_act_s52 rfl ?_
        refine z_ret M_act_d95 rfl ?_
        unfold opAct
        first
          | (rw [if_pos (fun z => (zB_eq0.mp h17) z.1)]; exact ⟨rfl, hS0, hO0⟩)
          | (rw [if_pos (fun z => (zB_eq0.mp h27) z.2)]; exact ⟨rfl, hS0, hO0⟩)
          | (rw [if_neg (fun z => z ⟨g1, g2⟩), eb, eKn]
             unfold actF
             first
               | (rw [if_pos h41]; exact ⟨rfl, hS1, hO1⟩)
               | (rw [if_neg h41, if_pos h57]; exact ⟨rfl, hS1, hO1⟩)
               | (rw [if_neg h41, if_neg h57, if_pos h73]; exact ⟨rfl, hS1, hO1⟩)
               | (rw [if_neg h41, if_neg h57, if_neg h73]; exact ⟨rfl, hS1, hO1⟩))
    · refine zb M_act_s30 rfl ?_
      refine z_ret M_act_d31 rfl ?_
      unfold opAct
      first
        | (rw [if_pos (fun z => (zB_eq0.mp h17) z.1)]; exact ⟨rfl, hS0, hO0⟩)
        | (rw [if_pos (fun z => (zB_eq0.mp h27) z.2)]; exact ⟨rfl, hS0, hO0⟩)
        | (rw [if_neg (fun z => z ⟨g1, g2⟩), eb, eKn]
           unfold actF
           first
             | (rw [if_pos h41]; exact ⟨rfl, hS1, hO1⟩)
             | (rw [if_neg h41, if_pos h57]; exact ⟨rfl, hS1, hO1⟩)
             | (rw [if_neg h41, if_neg h57, if_pos h73]; exact ⟨rfl, hS1, hO1⟩)
             | (rw [if_neg h41, if_neg h57, if_neg h73]; exact ⟨rfl, hS1, hO1⟩))
