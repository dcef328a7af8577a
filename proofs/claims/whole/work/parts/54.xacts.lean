/-! the class: bodies and their acts -/
def aX (m : Nat) (t : zT) (μ : zMem) : Prop := μ.1 9 3 = t.1 ∧ (∀ i, i < 24 → μ.1 84 i = t.2 i) ∧ ∃ q : Nat, q ≤ m ∧ t.1 = nI q
def sXA (c k : Nat) : Bool := (c == 9 && k == 3) || c == 84
theorem aX.up {m m' : Nat} {t : zT} {μ : zMem} (h : aX m t μ) (hm : m ≤ m') : aX m' t μ := by
  obtain ⟨h1, h2, q, h3, h4⟩ := h
  exact ⟨h1, h2, q, by omega, h4⟩
/-- who acts, of which kind -/
def aN (nb K0 : Nat) (μ : zMem) : Prop := μ.1 9 4 = nI nb ∧ μ.1 83 nb = nI K0
theorem aN.q {nb K0 : Nat} {μ μ' : zMem} (h : aN nb K0 μ) (hz : zq sXA μ μ') : aN nb K0 μ' := ⟨(hz.1 9 4 rfl).trans h.1, (hz.1 83 nb rfl).trans h.2⟩
def upN (a : Nat) : Nat → Nat → Nat
  | 0, k => k
  | f + 1, k => if k = 0 then k else if zOWN (4 * k + a) = 0 then upN a f (aboN k) else k
theorem upN_e {a f k : Nat} (h : k = 0 ∨ ¬ zOWN (4 * k + a) = 0) : upN a (f + 1) k = k := by
  unfold upN
  rcases h with h | h
  · rw [if_pos h]
  · rw [if_neg h, ite_self]
theorem upN_s {a f k : Nat} (h0 : ¬ k = 0) (h : zOWN (4 * k + a) = 0) : upN a (f + 1) k = upN a f (aboN k) := by
  conv => lhs; unfold upN
  rw [if_neg h0, if_pos h]
theorem zABOVE_N {k : Nat} (h : k < 8) (h0 : 0 < k) : zABOVE k = nI (aboN k) := by
  have : ∀ k : Fin 8, 0 < k.1 → zABOVE k.1 = nI (aboN k.1) := by decide
  exact this ⟨k, h⟩ h0
theorem ix4 {k a : Nat} (hk : k < 8) (ha : a < 4) : (4 : Int32) * nI k + nI a = nI (4 * k + a) := by rw [show (4 : Int32) = nI 4 from rfl, pk_mul, nI_add]
theorem aX.s {m : Nat} {t : zT} {μ : zMem} {c : Int32} (h : aX m t μ) (hlt : t.1 < 24) : aX (m + 1) (runsF c t) (zpI (zpI μ 84 t.1.toNatClampNeg c) 9 3 (t.1 + 1)) := by
  obtain ⟨e6, e47, q, hq, et⟩ := h
  refine ⟨rfl, fun i hi => ?_, q + 1, by omega, by show t.1 + 1 = _; rw [et, nI_1]⟩
  show _ = (if t.1 < 24 then fu t.2 t.1.toNatClampNeg c else t.2) i
  rw [if_pos hlt]
  unfold fu
  rw [zpI_ne (by decide), zpI_at, ← e47 i hi]
theorem aX.s2 {m : Nat} {t : zT} {μ : zMem} {c : Int32} (h : aX m t μ) (hlt : ¬ t.1 < 24) : aX (m + 1) (runsF c t) (zpI μ 9 3 (t.1 + 1)) := by
  obtain ⟨e6, e47, q, hq, et⟩ := h
  refine ⟨rfl, fun i hi => ?_, q + 1, by omega, by show t.1 + 1 = _; rw [et, nI_1]⟩
  show _ = (if t.1 < 24 then fu t.2 t.1.toNatClampNeg c else t.2) i
  rw [if_neg hlt]
  exact e47 i hi

set_option maxRecDepth 100000 in
set_option maxHeartbeats 4000000 in
theorem w_up {g : zG} {d a K : Nat} {r3 r4 : Option Value} {dp : Int32} {μ : zMem} {Q : Option Value → zMem → Prop} (ha : a < 4) (hQ : ∀ i' : Option Value, zW g A_from d 52 [some (.ref 9), r3, some (.int (nI a)), r4, some (.int dp), some (.int (nI K)), i'] [] μ Q) : ∀ (f k i : Nat), rkN k < f → i + f ≤ 8 → k < 8 → upN a f k = K → zW g A_from d 6 [some (.ref 9), r3, some (.int (nI a)), r4, some (.int dp), some (.int (nI k)), some (.int (nI i))] [] μ Q := by
  intro f
  induction f with
  | zero => intro k i h; omega
  | succ f ih =>
    intro k i hr hi hk hup
    have hva : vp_in (nI k) 8 := vp_in_nI (by omega) (by omega)
    have hvo : vp_in ((4 : Int32) * nI k + nI a) 32 := by rw [ix4 hk ha]; exact vp_in_nI (by omega) (by omega)
    have eo : ((4 : Int32) * nI k + nI a).toNatClampNeg = 4 * k + a := by rw [ix4 hk ha]; exact nI_clamp (by omega)
    have ek : (nI k).toNatClampNeg = k := nI_clamp (by omega)
    refine zb A_from_s6 rfl ?_
    refine z_cge A_from_d10 (tgt := 52) rfl (fun h10 => absurd h10 (nI_ge (b := 8) (by omega) (by omega))) (fun h10 => ?_)
    refine zb A_from_s13 rfl ?_
    refine z_le A_from_d15 (tgt := 52) rfl (fun h15 => ?_) (fun h15 => ?_)
    · first
        | (have z : k = 0 := by
             have := (nI_leI (a := k) (b := 0) (by omega) (by omega)).mp h15
             omega
           rw [upN_e (Or.inl z)] at hup
           rw [hup]
           exact hQ _)
        | (rw [eo] at h35
           rw [upN_e (f := f) (Or.inr h35)] at hup
           rw [hup]
           exact hQ _)
    · refine zb A_from_s18 rfl ?_
      refine z_cge A_from_d22 (tgt := 52) rfl (fun h22 => absurd h22 (nI_ge (b := 8) (by omega) (by omega))) (fun h22 => ?_)
      refine zb1 A_from_s25 rfl (by first | exact hva | exact hvo) ?_
      refine z_ne A_from_d35 (tgt := 52) rfl (fun h35 => ?_) (fun h35 => ?_)
      · first
          | (have z : k = 0 := by
               have := (nI_leI (a := k) (b := 0) (by omega) (by omega)).mp h15
               omega
             rw [upN_e (Or.inl z)] at hup
             rw [hup]
             exact hQ _)
          | (rw [eo] at h35
             rw [upN_e (f := f) (Or.inr h35)] at hup
             rw [hup]
             exact hQ _)
      · refine zb1 A_from_s38 rfl (by first | exact hva | exact hvo) ?_
        rw [eo] at h35
        have hk0 : 0 < k := by
          rcases Nat.eq_zero_or_pos k with z | z
          · subst z
            exact absurd (Int32.le_refl _) h15
          · exact z
        rw [nI_1, ek, show ((8, zABOVE) : Nat × (Nat → Int32)).2 k = nI (aboN k) from zABOVE_N hk hk0]
        have hr := rkN_lt hk hk0
        exact ih (aboN k) (i + 1) (by omega) (by omega) hr.2 (by rw [← upN_s (by omega) h35]; exact hup)

set_option maxRecDepth 100000 in
set_option maxHeartbeats 4000000 in
theorem x_fromG {g : zG} {d a k K dep m M : Nat} {c ab x : Int32} {t : zT} {R : Int32 × zT} {μ : zMem} (ha : a < 4) (hk : k < 8) (hup : upN a 4 k = K) (hK8 : K < 8) (hc : zOWN (4 * K + a) = c) (hab : zABOVE K = ab) (hdep : dep < 40) (hm : m < 2 ^ 20) (hd : 1 ≤ d) (ht : aX m t μ) (hrun : ∀ μ1, aX (m + 1) (runsF c t) μ1 → zq sXA μ μ1 → zM g (d - 1) A_run [.ref 9, .int c, .int ab, .int x, .int (nI (dep + 1))] μ1 (fun r μ' => r = some (.int R.1) ∧ aX M R.2 μ' ∧ zq sXA μ μ')) : zM g d A_from [.ref 9, .int (nI k), .int (nI a), .int x, .int (nI dep)] μ (fun r μ' => r = some (.int R.1) ∧ aX M R.2 μ' ∧ zq sXA μ μ') := by
  refine zM_of (by decide +kernel) rfl rfl (Nat.le_of_ble_eq_true rfl) rfl ?_
  have hrk : rkN k < 4 := by
    have : ∀ k : Fin 8, rkN k.1 < 4 := by decide
    exact this ⟨k, hk⟩
  have hht := ht
  obtain ⟨e6, e47, q, hq, et⟩ := hht
  have hva : vp_in (nI K) 8 := vp_in_nI (by omega) (by omega)
  have hvo : vp_in ((4 : Int32) * nI K + nI a) 32 := by rw [ix4 hK8 ha]; exact vp_in_nI (by omega) (by omega)
  have eo : ((4 : Int32) * nI K + nI a).toNatClampNeg = 4 * K + a := by rw [ix4 hK8 ha]; exact nI_clamp (by omega)
  have ek : (nI K).toNatClampNeg = K := nI_clamp (by omega)
  refine zb A_from_s0 rfl ?_
  refine w_up ha (fun i' => ?_) 4 k 0 hrk (by omega) hk hup
  refine zb A_from_s52 rfl ?_
  refine z_cge A_from_d56 (tgt := 71) rfl (fun h56 => absurd h56 (nI_ge (b := 40) hdep (by omega))) (fun h56 => ?_)
  refine zb A_from_s59 rfl ?_
  refine z_lt A_from_d61 (tgt := 71) rfl (fun h61 => absurd h61 (nI_pos (by omega))) (fun h61 => ?_)
  refine zb A_from_s64 rfl ?_
  refine z_clt A_from_d68 (tgt := 73) rfl (fun h68 => ?_) (fun h68 => absurd (nI_lt (b := 8) hK8 (by omega)) h68)
  refine zb1 A_from_s73 rfl (by first | exact hva | exact hvo | exact hvr) ?_
  refine z_cge A_from_d91 (tgt := 105) rfl (fun h91 => ?_) (fun h91 => ?_)
  · refine zb1 A_from_s105 rfl (by first | exact hva | exact hvo | exact hvr) ?_
    rw [eo, ek, show ((32, zOWN) : Nat × (Nat → Int32)).2 (4 * K + a) = c from hc, show ((8, zABOVE) : Nat × (Nat → Int32)).2 K = ab from hab, nI_1]
    simp (disch := decide) only [zpI_ne, e6]
    refine zcallV A_from_d129 k0_52 (by omega) (hrun _ (by first | exact ht.s hlt | exact ht.s2 (by rw [← e6]; exact Int32.not_lt.mpr h91)) (by first | exact (zq.w (m := sXA) rfl).tr (zq.w rfl) | exact zq.w rfl)) rfl rfl rfl (Nat.le_of_ble_eq_true rfl) ?_
    rintro _ μ2 ⟨rfl, hA2, hz2⟩
    refine z_ret A_from_d132 rfl ?_
    exact ⟨rfl, hA2, hz2⟩
  · have hlt : t.1 < 24 := by rw [← e6]; exact Int32.not_le.mp h91
    have hvr : vp_in (μ.1 9 3) 24 := by
      rw [e6, et]
      rw [et] at hlt
      exact vp_in_nI ((nI_ltI (b := 24) (by omega) (by omega)).mp hlt) (by omega)
    refine zb2 A_from_s94 rfl (by first | exact hva | exact hvo | exact hvr) (by first | exact hva | exact hvo | exact hvr) ?_
    rw [eo, ek, show ((32, zOWN) : Nat × (Nat → Int32)).2 (4 * K + a) = c from hc, show ((8, zABOVE) : Nat × (Nat → Int32)).2 K = ab from hab, nI_1]
    simp (disch := decide) only [zpI_ne, e6]
    refine zcallV A_from_d129 k0_52 (by omega) (hrun _ (by first | exact ht.s hlt | exact ht.s2 (by rw [← e6]; exact Int32.not_lt.mpr h91)) (by first | exact (zq.w (m := sXA) rfl).tr (zq.w rfl) | exact zq.w rfl)) rfl rfl rfl (Nat.le_of_ble_eq_true rfl) ?_
    rintro _ μ2 ⟨rfl, hA2, hz2⟩
    refine z_ret A_from_d132 rfl ?_
    exact ⟨rfl, hA2, hz2⟩

set_option maxRecDepth 100000 in
set_option maxHeartbeats 4000000 in
theorem x_r1 {g : zG} {d dep m nb K0 : Nat} {x : Int32} {t : zT} {μ : zMem} (hK0 : K0 < 8) (hnb : nb < 50) (hdep : dep + 0 < 40) (hm : m + 0 < 2 ^ 20) (hd : 0 ≤ d) (ht : aX m t μ) (hN : aN nb K0 μ) : zM g d A_run [.ref 9, .int 1, .int (-1), .int x, .int (nI dep)] μ (fun r μ' => r = some (.int ((x + nI nb, t)).1) ∧ aX (m + 0) ((x + nI nb, t)).2 μ' ∧ zq sXA μ μ') := by
  refine zM_of (by decide +kernel) rfl rfl (Nat.le_of_ble_eq_true rfl) rfl ?_
  refine zb A_run_s0 rfl ?_
  refine z_look A_run_d1 (off := 115) (tgt := 116) (by decide) (by decide) rfl ?_
  refine zb A_run_s116 rfl ?_
  refine z_ret A_run_d122 rfl ?_
  rw [hN.1]
  exact ⟨rfl, ht, zq.rf⟩

theorem e_f0_0 {nb : Nat} (x : Int32) (t : zT) : (ringsF (nI nb) 4 0 (x) t) = (x + nI nb, (runsF 1 t)) := by simp [ringsF, aboN]

set_option maxRecDepth 100000 in
set_option maxHeartbeats 4000000 in
theorem x_f0_0 {k : Nat} {g : zG} {d dep m nb K0 : Nat} {x : Int32} {t : zT} {μ : zMem} (hk : k < 8) (hup : upN 0 4 k = 0) (hK0 : K0 < 8) (hnb : nb < 50) (hdep : dep + 1 < 40) (hm : m + 1 < 2 ^ 20) (hd : 1 ≤ d) (ht : aX m t μ) (hN : aN nb K0 μ) : zM g d A_from [.ref 9, .int (nI k), .int 0, .int x, .int (nI dep)] μ (fun r μ' => r = some (.int ((ringsF (nI nb) 4 0 (x) t)).1) ∧ aX (m + 1) ((ringsF (nI nb) 4 0 (x) t)).2 μ' ∧ zq sXA μ μ') := by
  rw [e_f0_0]
  refine x_fromG (a := 0) (K := 0) (c := 1) (ab := -1) (by omega) hk hup (by omega) rfl rfl (by omega) (by omega) (by omega) ht (fun μ1 hA hz => ?_)
  exact (x_r1 (t := runsF 1 t) hK0 hnb (by omega) (by omega) (by omega) hA (hN.q hz)).mono (fun r μ' q => ⟨q.1, q.2.1.up (by omega), hz.tr q.2.2⟩)

set_option maxRecDepth 100000 in
set_option maxHeartbeats 4000000 in
theorem x_r20 {g : zG} {d dep m nb K0 : Nat} {x : Int32} {t : zT} {μ : zMem} (hK0 : K0 < 8) (hnb : nb < 50) (hdep : dep + 1 < 40) (hm : m + 1 < 2 ^ 20) (hd : 2 ≤ d) (ht : aX m t μ) (hN : aN nb K0 μ) : zM g d A_run [.ref 9, .int 20, .int (0), .int x, .int (nI dep)] μ (fun r μ' => r = some (.int (((ringsF (nI nb) 4 0 (x) t).1 + 3, (ringsF (nI nb) 4 0 (x) t).2)).1) ∧ aX (m + 1) (((ringsF (nI nb) 4 0 (x) t).1 + 3, (ringsF (nI nb) 4 0 (x) t).2)).2 μ' ∧ zq sXA μ μ') := by
  refine zM_of (by decide +kernel) rfl rfl (Nat.le_of_ble_eq_true rfl) rfl ?_
  refine zb A_run_s0 rfl ?_
  refine z_look A_run_d1 (off := 158) (tgt := 159) (by decide) (by decide) rfl ?_
  refine zb A_run_s159 rfl ?_
  refine zcallV A_run_d165 k0_45 (by omega) (x_f0_0 (k := 0) (by omega) rfl hK0 hnb (by omega) (by omega) (by omega) ht hN) rfl rfl rfl (Nat.le_of_ble_eq_true rfl) ?_
  rintro _ μ1 ⟨rfl, hA0, hz0⟩
  refine zb A_run_s168 rfl ?_
  refine z_ret A_run_d170 rfl ?_
  exact ⟨rfl, hA0, hz0⟩

theorem e_f0_1 {nb : Nat} (x : Int32) (t : zT) : (ringsF (nI nb) 4 1 (x) t) = ((ringsF (nI nb) 4 0 (x) (runsF 20 t)).1 + 3, (ringsF (nI nb) 4 0 (x) (runsF 20 t)).2) := by
  simp [ringsF, aboN]

set_option maxRecDepth 100000 in
set_option maxHeartbeats 4000000 in
theorem x_f0_1 {k : Nat} {g : zG} {d dep m nb K0 : Nat} {x : Int32} {t : zT} {μ : zMem} (hk : k < 8) (hup : upN 0 4 k = 1) (hK0 : K0 < 8) (hnb : nb < 50) (hdep : dep + 2 < 40) (hm : m + 2 < 2 ^ 20) (hd : 3 ≤ d) (ht : aX m t μ) (hN : aN nb K0 μ) : zM g d A_from [.ref 9, .int (nI k), .int 0, .int x, .int (nI dep)] μ (fun r μ' => r = some (.int ((ringsF (nI nb) 4 1 (x) t)).1) ∧ aX (m + 2) ((ringsF (nI nb) 4 1 (x) t)).2 μ' ∧ zq sXA μ μ') := by
  rw [e_f0_1]
  refine x_fromG (a := 0) (K := 1) (c := 20) (ab := 0) (by omega) hk hup (by omega) rfl rfl (by omega) (by omega) (by omega) ht (fun μ1 hA hz => ?_)
  exact (x_r20 (t := runsF 20 t) hK0 hnb (by omega) (by omega) (by omega) hA (hN.q hz)).mono (fun r μ' q => ⟨q.1, q.2.1.up (by omega), hz.tr q.2.2⟩)

set_option maxRecDepth 100000 in
set_option maxHeartbeats 4000000 in
theorem x_r70 {g : zG} {d dep m nb K0 : Nat} {x : Int32} {t : zT} {μ : zMem} (hK0 : K0 < 8) (hnb : nb < 50) (hdep : dep + 1 < 40) (hm : m + 1 < 2 ^ 20) (hd : 2 ≤ d) (ht : aX m t μ) (hN : aN nb K0 μ) : zM g d A_run [.ref 9, .int 70, .int (0), .int x, .int (nI dep)] μ (fun r μ' => r = some (.int (((ringsF (nI nb) 4 0 (x) t).1 * 2, (ringsF (nI nb) 4 0 (x) t).2)).1) ∧ aX (m + 1) (((ringsF (nI nb) 4 0 (x) t).1 * 2, (ringsF (nI nb) 4 0 (x) t).2)).2 μ' ∧ zq sXA μ μ') := by
  refine zM_of (by decide +kernel) rfl rfl (Nat.le_of_ble_eq_true rfl) rfl ?_
  refine zb A_run_s0 rfl ?_
  refine z_look A_run_d1 (off := 236) (tgt := 237) (by decide) (by decide) rfl ?_
  refine zb A_run_s237 rfl ?_
  refine zcallV A_run_d243 k0_45 (by omega) (x_f0_0 (k := 0) (by omega) rfl hK0 hnb (by omega) (by omega) (by omega) ht hN) rfl rfl rfl (Nat.le_of_ble_eq_true rfl) ?_
  rintro _ μ1 ⟨rfl, hA0, hz0⟩
  refine zb A_run_s246 rfl ?_
  refine z_ret A_run_d248 rfl ?_
  exact ⟨rfl, hA0, hz0⟩

theorem e_f0_6 {nb : Nat} (x : Int32) (t : zT) : (ringsF (nI nb) 4 6 (x) t) = ((ringsF (nI nb) 4 0 (x) (runsF 70 t)).1 * 2, (ringsF (nI nb) 4 0 (x) (runsF 70 t)).2) := by
  simp [ringsF, aboN]

set_option maxRecDepth 100000 in
set_option maxHeartbeats 4000000 in
theorem x_f0_6 {k : Nat} {g : zG} {d dep m nb K0 : Nat} {x : Int32} {t : zT} {μ : zMem} (hk : k < 8) (hup : upN 0 4 k = 6) (hK0 : K0 < 8) (hnb : nb < 50) (hdep : dep + 2 < 40) (hm : m + 2 < 2 ^ 20) (hd : 3 ≤ d) (ht : aX m t μ) (hN : aN nb K0 μ) : zM g d A_from [.ref 9, .int (nI k), .int 0, .int x, .int (nI dep)] μ (fun r μ' => r = some (.int ((ringsF (nI nb) 4 6 (x) t)).1) ∧ aX (m + 2) ((ringsF (nI nb) 4 6 (x) t)).2 μ' ∧ zq sXA μ μ') := by
  rw [e_f0_6]
  refine x_fromG (a := 0) (K := 6) (c := 70) (ab := 0) (by omega) hk hup (by omega) rfl rfl (by omega) (by omega) (by omega) ht (fun μ1 hA hz => ?_)
  exact (x_r70 (t := runsF 70 t) hK0 hnb (by omega) (by omega) (by omega) hA (hN.q hz)).mono (fun r μ' q => ⟨q.1, q.2.1.up (by omega), hz.tr q.2.2⟩)

theorem u_f0_2 {nb : Nat} (x : Int32) (t : zT) : (ringsF (nI nb) 4 2 (x) t) = (ringsF (nI nb) 4 0 (x) t) := by simp [ringsF, aboN]

theorem u_f0_3 {nb : Nat} (x : Int32) (t : zT) : (ringsF (nI nb) 4 3 (x) t) = (ringsF (nI nb) 4 0 (x) t) := by simp [ringsF, aboN]

theorem u_f0_4 {nb : Nat} (x : Int32) (t : zT) : (ringsF (nI nb) 4 4 (x) t) = (ringsF (nI nb) 4 1 (x) t) := by simp [ringsF, aboN]

theorem u_f0_5 {nb : Nat} (x : Int32) (t : zT) : (ringsF (nI nb) 4 5 (x) t) = (ringsF (nI nb) 4 0 (x) t) := by simp [ringsF, aboN]

theorem u_f0_7 {nb : Nat} (x : Int32) (t : zT) : (ringsF (nI nb) 4 7 (x) t) = (ringsF (nI nb) 4 1 (x) t) := by simp [ringsF, aboN]

set_option maxRecDepth 100000 in
set_option maxHeartbeats 4000000 in
theorem x_f0 {k : Nat} {g : zG} {d dep m nb K0 : Nat} {x : Int32} {t : zT} {μ : zMem} (hk : k < 8) (hK0 : K0 < 8) (hnb : nb < 50) (hdep : dep + 2 < 40) (hm : m + 2 < 2 ^ 20) (hd : 3 ≤ d) (ht : aX m t μ) (hN : aN nb K0 μ) : zM g d A_from [.ref 9, .int (nI k), .int 0, .int x, .int (nI dep)] μ (fun r μ' => r = some (.int ((ringsF (nI nb) 4 k (x) t)).1) ∧ aX (m + 2) ((ringsF (nI nb) 4 k (x) t)).2 μ' ∧ zq sXA μ μ') := by
  rcases (show k = 0 ∨ k = 1 ∨ k = 2 ∨ k = 3 ∨ k = 4 ∨ k = 5 ∨ k = 6 ∨ k = 7 by omega) with rfl | rfl | rfl | rfl | rfl | rfl | rfl | rfl
  · exact (x_f0_0 (k := 0) (by omega) rfl hK0 hnb (by omega) (by omega) (by omega) ht hN).mono (fun r μ' q => ⟨q.1, q.2.1.up (by omega), q.2.2⟩)
  · exact (x_f0_1 (k := 1) (by omega) rfl hK0 hnb (by omega) (by omega) (by omega) ht hN).mono (fun r μ' q => ⟨q.1, q.2.1.up (by omega), q.2.2⟩)
  · rw [u_f0_2]
    exact (x_f0_0 (k := 2) (by omega) rfl hK0 hnb (by omega) (by omega) (by omega) ht hN).mono (fun r μ' q => ⟨q.1, q.2.1.up (by omega), q.2.2⟩)
  · rw [u_f0_3]
    exact (x_f0_0 (k := 3) (by omega) rfl hK0 hnb (by omega) (by omega) (by omega) ht hN).mono (fun r μ' q => ⟨q.1, q.2.1.up (by omega), q.2.2⟩)
  · rw [u_f0_4]
    exact (x_f0_1 (k := 4) (by omega) rfl hK0 hnb (by omega) (by omega) (by omega) ht hN).mono (fun r μ' q => ⟨q.1, q.2.1.up (by omega), q.2.2⟩)
  · rw [u_f0_5]
    exact (x_f0_0 (k := 5) (by omega) rfl hK0 hnb (by omega) (by omega) (by omega) ht hN).mono (fun r μ' q => ⟨q.1, q.2.1.up (by omega), q.2.2⟩)
  · exact (x_f0_6 (k := 6) (by omega) rfl hK0 hnb (by omega) (by omega) (by omega) ht hN).mono (fun r μ' q => ⟨q.1, q.2.1.up (by omega), q.2.2⟩)
  · rw [u_f0_7]
    exact (x_f0_1 (k := 7) (by omega) rfl hK0 hnb (by omega) (by omega) (by omega) ht hN).mono (fun r μ' q => ⟨q.1, q.2.1.up (by omega), q.2.2⟩)

set_option maxRecDepth 100000 in
set_option maxHeartbeats 4000000 in
theorem x_own0 {g : zG} {d dep m nb K0 : Nat} {x : Int32} {t : zT} {μ : zMem} (hK0 : K0 < 8) (hnb : nb < 50) (hdep : dep + 2 < 40) (hm : m + 2 < 2 ^ 20) (hd : 4 ≤ d) (ht : aX m t μ) (hN : aN nb K0 μ) : zM g d A_own [.ref 9, .int 0, .int x, .int (nI dep)] μ (fun r μ' => r = some (.int ((ringsF (nI nb) 4 K0 (x) t)).1) ∧ aX (m + 2) ((ringsF (nI nb) 4 K0 (x) t)).2 μ' ∧ zq sXA μ μ') := by
  refine zM_of (by decide +kernel) rfl rfl (Nat.le_of_ble_eq_true rfl) rfl ?_
  have e4 : μ.1 9 4 = nI nb := hN.1
  have e83 : μ.1 83 (nI nb).toNatClampNeg = nI K0 := by rw [nI_clamp (by omega)]; exact hN.2
  have hvb : vp_in (μ.1 9 4) 50 := by rw [e4]; exact vp_in_nI (by omega) (by omega)
  refine zb1 A_own_s0 rfl hvb ?_
  rw [e4, e83]
  refine zcallV A_own_d13 k0_45 (by omega) (x_f0 hK0 hK0 hnb (by omega) (by omega) (by omega) ht hN) rfl rfl rfl (Nat.le_of_ble_eq_true rfl) ?_
  rintro _ μ1 ⟨rfl, hA0, hz0⟩
  refine z_ret A_own_d16 rfl ?_
  exact ⟨rfl, hA0, hz0⟩

set_option maxRecDepth 100000 in
set_option maxHeartbeats 4000000 in
theorem x_r11 {g : zG} {d dep m nb K0 : Nat} {x : Int32} {t : zT} {μ : zMem} (hK0 : K0 < 8) (hnb : nb < 50) (hdep : dep + 0 < 40) (hm : m + 0 < 2 ^ 20) (hd : 0 ≤ d) (ht : aX m t μ) (hN : aN nb K0 μ) : zM g d A_run [.ref 9, .int 11, .int (-1), .int x, .int (nI dep)] μ (fun r μ' => r = some (.int ((x ^^^ nI nb, t)).1) ∧ aX (m + 0) ((x ^^^ nI nb, t)).2 μ' ∧ zq sXA μ μ') := by
  refine zM_of (by decide +kernel) rfl rfl (Nat.le_of_ble_eq_true rfl) rfl ?_
  refine zb A_run_s0 rfl ?_
  refine z_look A_run_d1 (off := 151) (tgt := 152) (by decide) (by decide) rfl ?_
  refine zb A_run_s152 rfl ?_
  refine z_ret A_run_d158 rfl ?_
  rw [hN.1]
  exact ⟨rfl, ht, zq.rf⟩

theorem e_f2_0 {nb K0 : Nat} (x : Int32) (t : zT) : (doingF (nI nb) K0 4 0 (x) t) = (x ^^^ nI nb, (runsF 11 t)) := by simp [doingF, aboN]

set_option maxRecDepth 100000 in
set_option maxHeartbeats 4000000 in
theorem x_f2_0 {k : Nat} {g : zG} {d dep m nb K0 : Nat} {x : Int32} {t : zT} {μ : zMem} (hk : k < 8) (hup : upN 2 4 k = 0) (hK0 : K0 < 8) (hnb : nb < 50) (hdep : dep + 1 < 40) (hm : m + 1 < 2 ^ 20) (hd : 1 ≤ d) (ht : aX m t μ) (hN : aN nb K0 μ) : zM g d A_from [.ref 9, .int (nI k), .int 2, .int x, .int (nI dep)] μ (fun r μ' => r = some (.int ((doingF (nI nb) K0 4 0 (x) t)).1) ∧ aX (m + 1) ((doingF (nI nb) K0 4 0 (x) t)).2 μ' ∧ zq sXA μ μ') := by
  rw [e_f2_0]
  refine x_fromG (a := 2) (K := 0) (c := 11) (ab := -1) (by omega) hk hup (by omega) rfl rfl (by omega) (by omega) (by omega) ht (fun μ1 hA hz => ?_)
  exact (x_r11 (t := runsF 11 t) hK0 hnb (by omega) (by omega) (by omega) hA (hN.q hz)).mono (fun r μ' q => ⟨q.1, q.2.1.up (by omega), hz.tr q.2.2⟩)

set_option maxRecDepth 100000 in
set_option maxHeartbeats 4000000 in
theorem x_r40 {g : zG} {d dep m nb K0 : Nat} {x : Int32} {t : zT} {μ : zMem} (hK0 : K0 < 8) (hnb : nb < 50) (hdep : dep + 1 < 40) (hm : m + 1 < 2 ^ 20) (hd : 2 ≤ d) (ht : aX m t μ) (hN : aN nb K0 μ) : zM g d A_run [.ref 9, .int 40, .int (2), .int x, .int (nI dep)] μ (fun r μ' => r = some (.int (((doingF (nI nb) K0 4 0 (x) t).1 * 3, (doingF (nI nb) K0 4 0 (x) t).2)).1) ∧ aX (m + 1) (((doingF (nI nb) K0 4 0 (x) t).1 * 3, (doingF (nI nb) K0 4 0 (x) t).2)).2 μ' ∧ zq sXA μ μ') := by
  refine zM_of (by decide +kernel) rfl rfl (Nat.le_of_ble_eq_true rfl) rfl ?_
  refine zb A_run_s0 rfl ?_
  refine z_look A_run_d1 (off := 181) (tgt := 182) (by decide) (by decide) rfl ?_
  refine zb A_run_s182 rfl ?_
  refine zcallV A_run_d188 k0_45 (by omega) (x_f2_0 (k := 2) (by omega) rfl hK0 hnb (by omega) (by omega) (by omega) ht hN) rfl rfl rfl (Nat.le_of_ble_eq_true rfl) ?_
  rintro _ μ1 ⟨rfl, hA0, hz0⟩
  refine zb A_run_s191 rfl ?_
  refine z_ret A_run_d193 rfl ?_
  exact ⟨rfl, hA0, hz0⟩

theorem e_f2_3 {nb K0 : Nat} (x : Int32) (t : zT) : (doingF (nI nb) K0 4 3 (x) t) = ((doingF (nI nb) K0 4 0 (x) (runsF 40 t)).1 * 3, (doingF (nI nb) K0 4 0 (x) (runsF 40 t)).2) := by
  simp [doingF, aboN]

set_option maxRecDepth 100000 in
set_option maxHeartbeats 4000000 in
theorem x_f2_3 {k : Nat} {g : zG} {d dep m nb K0 : Nat} {x : Int32} {t : zT} {μ : zMem} (hk : k < 8) (hup : upN 2 4 k = 3) (hK0 : K0 < 8) (hnb : nb < 50) (hdep : dep + 2 < 40) (hm : m + 2 < 2 ^ 20) (hd : 3 ≤ d) (ht : aX m t μ) (hN : aN nb K0 μ) : zM g d A_from [.ref 9, .int (nI k), .int 2, .int x, .int (nI dep)] μ (fun r μ' => r = some (.int ((doingF (nI nb) K0 4 3 (x) t)).1) ∧ aX (m + 2) ((doingF (nI nb) K0 4 3 (x) t)).2 μ' ∧ zq sXA μ μ') := by
  rw [e_f2_3]
  refine x_fromG (a := 2) (K := 3) (c := 40) (ab := 2) (by omega) hk hup (by omega) rfl rfl (by omega) (by omega) (by omega) ht (fun μ1 hA hz => ?_)
  exact (x_r40 (t := runsF 40 t) hK0 hnb (by omega) (by omega) (by omega) hA (hN.q hz)).mono (fun r μ' q => ⟨q.1, q.2.1.up (by omega), hz.tr q.2.2⟩)

set_option maxRecDepth 100000 in
set_option maxHeartbeats 4000000 in
theorem x_r50 {g : zG} {d dep m nb K0 : Nat} {x : Int32} {t : zT} {μ : zMem} (hK0 : K0 < 8) (hnb : nb < 50) (hdep : dep + 2 < 40) (hm : m + 3 < 2 ^ 20) (hd : 5 ≤ d) (ht : aX m t μ) (hN : aN nb K0 μ) : zM g d A_run [.ref 9, .int 50, .int (1), .int x, .int (nI dep)] μ (fun r μ' => r = some (.int (((doingF (nI nb) K0 4 0 (x) t).1 - (ringsF (nI nb) 4 K0 (2) (doingF (nI nb) K0 4 0 (x) t).2).1, (ringsF (nI nb) 4 K0 (2) (doingF (nI nb) K0 4 0 (x) t).2).2)).1) ∧ aX (m + 3) (((doingF (nI nb) K0 4 0 (x) t).1 - (ringsF (nI nb) 4 K0 (2) (doingF (nI nb) K0 4 0 (x) t).2).1, (ringsF (nI nb) 4 K0 (2) (doingF (nI nb) K0 4 0 (x) t).2).2)).2 μ' ∧ zq sXA μ μ') := by
  refine zM_of (by decide +kernel) rfl rfl (Nat.le_of_ble_eq_true rfl) rfl ?_
  refine zb A_run_s0 rfl ?_
  refine z_look A_run_d1 (off := 205) (tgt := 206) (by decide) (by decide) rfl ?_
  refine zb A_run_s206 rfl ?_
  refine zcallV A_run_d212 k0_45 (by omega) (x_f2_0 (k := 1) (by omega) rfl hK0 hnb (by omega) (by omega) (by omega) ht hN) rfl rfl rfl (Nat.le_of_ble_eq_true rfl) ?_
  rintro _ μ1 ⟨rfl, hA0, hz0⟩
  refine zb A_run_s215 rfl ?_
  refine zcallV A_run_d220 k0_41 (by omega) (x_own0 hK0 hnb (by omega) (by omega) (by omega) hA0 (hN.q hz0)) rfl rfl rfl (Nat.le_of_ble_eq_true rfl) ?_
  rintro _ μ2 ⟨rfl, hA1, hz1⟩
  refine zb A_run_s223 rfl ?_
  refine z_ret A_run_d224 rfl ?_
  exact ⟨rfl, hA1.up (by omega), hz0.tr hz1⟩

theorem e_f2_4 {nb K0 : Nat} (x : Int32) (t : zT) : (doingF (nI nb) K0 4 4 (x) t) = ((doingF (nI nb) K0 4 0 (x) (runsF 50 t)).1 - (ringsF (nI nb) 4 K0 (2) (doingF (nI nb) K0 4 0 (x) (runsF 50 t)).2).1, (ringsF (nI nb) 4 K0 (2) (doingF (nI nb) K0 4 0 (x) (runsF 50 t)).2).2) := by
  simp [doingF, aboN]

set_option maxRecDepth 100000 in
set_option maxHeartbeats 4000000 in
theorem x_f2_4 {k : Nat} {g : zG} {d dep m nb K0 : Nat} {x : Int32} {t : zT} {μ : zMem} (hk : k < 8) (hup : upN 2 4 k = 4) (hK0 : K0 < 8) (hnb : nb < 50) (hdep : dep + 3 < 40) (hm : m + 4 < 2 ^ 20) (hd : 6 ≤ d) (ht : aX m t μ) (hN : aN nb K0 μ) : zM g d A_from [.ref 9, .int (nI k), .int 2, .int x, .int (nI dep)] μ (fun r μ' => r = some (.int ((doingF (nI nb) K0 4 4 (x) t)).1) ∧ aX (m + 4) ((doingF (nI nb) K0 4 4 (x) t)).2 μ' ∧ zq sXA μ μ') := by
  rw [e_f2_4]
  refine x_fromG (a := 2) (K := 4) (c := 50) (ab := 1) (by omega) hk hup (by omega) rfl rfl (by omega) (by omega) (by omega) ht (fun μ1 hA hz => ?_)
  exact (x_r50 (t := runsF 50 t) hK0 hnb (by omega) (by omega) (by omega) hA (hN.q hz)).mono (fun r μ' q => ⟨q.1, q.2.1.up (by omega), hz.tr q.2.2⟩)

theorem u_f2_1 {nb K0 : Nat} (x : Int32) (t : zT) : (doingF (nI nb) K0 4 1 (x) t) = (doingF (nI nb) K0 4 0 (x) t) := by simp [doingF, aboN]

theorem u_f2_2 {nb K0 : Nat} (x : Int32) (t : zT) : (doingF (nI nb) K0 4 2 (x) t) = (doingF (nI nb) K0 4 0 (x) t) := by simp [doingF, aboN]

theorem u_f2_5 {nb K0 : Nat} (x : Int32) (t : zT) : (doingF (nI nb) K0 4 5 (x) t) = (doingF (nI nb) K0 4 3 (x) t) := by simp [doingF, aboN]

theorem u_f2_6 {nb K0 : Nat} (x : Int32) (t : zT) : (doingF (nI nb) K0 4 6 (x) t) = (doingF (nI nb) K0 4 0 (x) t) := by simp [doingF, aboN]

theorem u_f2_7 {nb K0 : Nat} (x : Int32) (t : zT) : (doingF (nI nb) K0 4 7 (x) t) = (doingF (nI nb) K0 4 4 (x) t) := by simp [doingF, aboN]

set_option maxRecDepth 100000 in
set_option maxHeartbeats 4000000 in
theorem x_f2 {k : Nat} {g : zG} {d dep m nb K0 : Nat} {x : Int32} {t : zT} {μ : zMem} (hk : k < 8) (hK0 : K0 < 8) (hnb : nb < 50) (hdep : dep + 3 < 40) (hm : m + 4 < 2 ^ 20) (hd : 6 ≤ d) (ht : aX m t μ) (hN : aN nb K0 μ) : zM g d A_from [.ref 9, .int (nI k), .int 2, .int x, .int (nI dep)] μ (fun r μ' => r = some (.int ((doingF (nI nb) K0 4 k (x) t)).1) ∧ aX (m + 4) ((doingF (nI nb) K0 4 k (x) t)).2 μ' ∧ zq sXA μ μ') := by
  rcases (show k = 0 ∨ k = 1 ∨ k = 2 ∨ k = 3 ∨ k = 4 ∨ k = 5 ∨ k = 6 ∨ k = 7 by omega) with rfl | rfl | rfl | rfl | rfl | rfl | rfl | rfl
  · exact (x_f2_0 (k := 0) (by omega) rfl hK0 hnb (by omega) (by omega) (by omega) ht hN).mono (fun r μ' q => ⟨q.1, q.2.1.up (by omega), q.2.2⟩)
  · rw [u_f2_1]
    exact (x_f2_0 (k := 1) (by omega) rfl hK0 hnb (by omega) (by omega) (by omega) ht hN).mono (fun r μ' q => ⟨q.1, q.2.1.up (by omega), q.2.2⟩)
  · rw [u_f2_2]
    exact (x_f2_0 (k := 2) (by omega) rfl hK0 hnb (by omega) (by omega) (by omega) ht hN).mono (fun r μ' q => ⟨q.1, q.2.1.up (by omega), q.2.2⟩)
  · exact (x_f2_3 (k := 3) (by omega) rfl hK0 hnb (by omega) (by omega) (by omega) ht hN).mono (fun r μ' q => ⟨q.1, q.2.1.up (by omega), q.2.2⟩)
  · exact (x_f2_4 (k := 4) (by omega) rfl hK0 hnb (by omega) (by omega) (by omega) ht hN).mono (fun r μ' q => ⟨q.1, q.2.1.up (by omega), q.2.2⟩)
  · rw [u_f2_5]
    exact (x_f2_3 (k := 5) (by omega) rfl hK0 hnb (by omega) (by omega) (by omega) ht hN).mono (fun r μ' q => ⟨q.1, q.2.1.up (by omega), q.2.2⟩)
  · rw [u_f2_6]
    exact (x_f2_0 (k := 6) (by omega) rfl hK0 hnb (by omega) (by omega) (by omega) ht hN).mono (fun r μ' q => ⟨q.1, q.2.1.up (by omega), q.2.2⟩)
  · rw [u_f2_7]
    exact (x_f2_4 (k := 7) (by omega) rfl hK0 hnb (by omega) (by omega) (by omega) ht hN).mono (fun r μ' q => ⟨q.1, q.2.1.up (by omega), q.2.2⟩)

set_option maxRecDepth 100000 in
set_option maxHeartbeats 4000000 in
theorem x_own2 {g : zG} {d dep m nb K0 : Nat} {x : Int32} {t : zT} {μ : zMem} (hK0 : K0 < 8) (hnb : nb < 50) (hdep : dep + 3 < 40) (hm : m + 4 < 2 ^ 20) (hd : 7 ≤ d) (ht : aX m t μ) (hN : aN nb K0 μ) : zM g d A_own [.ref 9, .int 2, .int x, .int (nI dep)] μ (fun r μ' => r = some (.int ((doingF (nI nb) K0 4 K0 (x) t)).1) ∧ aX (m + 4) ((doingF (nI nb) K0 4 K0 (x) t)).2 μ' ∧ zq sXA μ μ') := by
  refine zM_of (by decide +kernel) rfl rfl (Nat.le_of_ble_eq_true rfl) rfl ?_
  have e4 : μ.1 9 4 = nI nb := hN.1
  have e83 : μ.1 83 (nI nb).toNatClampNeg = nI K0 := by rw [nI_clamp (by omega)]; exact hN.2
  have hvb : vp_in (μ.1 9 4) 50 := by rw [e4]; exact vp_in_nI (by omega) (by omega)
  refine zb1 A_own_s0 rfl hvb ?_
  rw [e4, e83]
  refine zcallV A_own_d13 k0_45 (by omega) (x_f2 hK0 hK0 hnb (by omega) (by omega) (by omega) ht hN) rfl rfl rfl (Nat.le_of_ble_eq_true rfl) ?_
  rintro _ μ1 ⟨rfl, hA0, hz0⟩
  refine z_ret A_own_d16 rfl ?_
  exact ⟨rfl, hA0, hz0⟩

set_option maxRecDepth 100000 in
set_option maxHeartbeats 4000000 in
theorem x_r10 {g : zG} {d dep m nb K0 : Nat} {x : Int32} {t : zT} {μ : zMem} (hK0 : K0 < 8) (hnb : nb < 50) (hdep : dep + 2 < 40) (hm : m + 2 < 2 ^ 20) (hd : 5 ≤ d) (ht : aX m t μ) (hN : aN nb K0 μ) : zM g d A_run [.ref 9, .int 10, .int (-1), .int x, .int (nI dep)] μ (fun r μ' => r = some (.int (((ringsF (nI nb) 4 K0 (x) t).1 * 2, (ringsF (nI nb) 4 K0 (x) t).2)).1) ∧ aX (m + 2) (((ringsF (nI nb) 4 K0 (x) t).1 * 2, (ringsF (nI nb) 4 K0 (x) t).2)).2 μ' ∧ zq sXA μ μ') := by
  refine zM_of (by decide +kernel) rfl rfl (Nat.le_of_ble_eq_true rfl) rfl ?_
  refine zb A_run_s0 rfl ?_
  refine z_look A_run_d1 (off := 140) (tgt := 141) (by decide) (by decide) rfl ?_
  refine zb A_run_s141 rfl ?_
  refine zcallV A_run_d146 k0_41 (by omega) (x_own0 hK0 hnb (by omega) (by omega) (by omega) ht hN) rfl rfl rfl (Nat.le_of_ble_eq_true rfl) ?_
  rintro _ μ1 ⟨rfl, hA0, hz0⟩
  refine zb A_run_s149 rfl ?_
  refine z_ret A_run_d151 rfl ?_
  exact ⟨rfl, hA0, hz0⟩

theorem e_f1_0 {nb K0 : Nat} (x : Int32) (t : zT) : (hearsF (nI nb) K0 4 0 (x) t) = ((ringsF (nI nb) 4 K0 (x) (runsF 10 t)).1 * 2, (ringsF (nI nb) 4 K0 (x) (runsF 10 t)).2) := by
  simp [hearsF, aboN]

set_option maxRecDepth 100000 in
set_option maxHeartbeats 4000000 in
theorem x_f1_0 {k : Nat} {g : zG} {d dep m nb K0 : Nat} {x : Int32} {t : zT} {μ : zMem} (hk : k < 8) (hup : upN 1 4 k = 0) (hK0 : K0 < 8) (hnb : nb < 50) (hdep : dep + 3 < 40) (hm : m + 3 < 2 ^ 20) (hd : 6 ≤ d) (ht : aX m t μ) (hN : aN nb K0 μ) : zM g d A_from [.ref 9, .int (nI k), .int 1, .int x, .int (nI dep)] μ (fun r μ' => r = some (.int ((hearsF (nI nb) K0 4 0 (x) t)).1) ∧ aX (m + 3) ((hearsF (nI nb) K0 4 0 (x) t)).2 μ' ∧ zq sXA μ μ') := by
  rw [e_f1_0]
  refine x_fromG (a := 1) (K := 0) (c := 10) (ab := -1) (by omega) hk hup (by omega) rfl rfl (by omega) (by omega) (by omega) ht (fun μ1 hA hz => ?_)
  exact (x_r10 (t := runsF 10 t) hK0 hnb (by omega) (by omega) (by omega) hA (hN.q hz)).mono (fun r μ' q => ⟨q.1, q.2.1.up (by omega), hz.tr q.2.2⟩)

set_option maxRecDepth 100000 in
set_option maxHeartbeats 4000000 in
theorem x_r30 {g : zG} {d dep m nb K0 : Nat} {x : Int32} {t : zT} {μ : zMem} (hK0 : K0 < 8) (hnb : nb < 50) (hdep : dep + 3 < 40) (hm : m + 3 < 2 ^ 20) (hd : 7 ≤ d) (ht : aX m t μ) (hN : aN nb K0 μ) : zM g d A_run [.ref 9, .int 30, .int (0), .int x, .int (nI dep)] μ (fun r μ' => r = some (.int ((-(hearsF (nI nb) K0 4 0 (x) t).1, (hearsF (nI nb) K0 4 0 (x) t).2)).1) ∧ aX (m + 3) ((-(hearsF (nI nb) K0 4 0 (x) t).1, (hearsF (nI nb) K0 4 0 (x) t).2)).2 μ' ∧ zq sXA μ μ') := by
  refine zM_of (by decide +kernel) rfl rfl (Nat.le_of_ble_eq_true rfl) rfl ?_
  refine zb A_run_s0 rfl ?_
  refine z_look A_run_d1 (off := 170) (tgt := 171) (by decide) (by decide) rfl ?_
  refine zb A_run_s171 rfl ?_
  refine zcallV A_run_d177 k0_45 (by omega) (x_f1_0 (k := 0) (by omega) rfl hK0 hnb (by omega) (by omega) (by omega) ht hN) rfl rfl rfl (Nat.le_of_ble_eq_true rfl) ?_
  rintro _ μ1 ⟨rfl, hA0, hz0⟩
  refine zb A_run_s180 rfl ?_
  refine z_ret A_run_d181 rfl ?_
  exact ⟨rfl, hA0, hz0⟩

theorem e_f1_2 {nb K0 : Nat} (x : Int32) (t : zT) : (hearsF (nI nb) K0 4 2 (x) t) = (-(hearsF (nI nb) K0 4 0 (x) (runsF 30 t)).1, (hearsF (nI nb) K0 4 0 (x) (runsF 30 t)).2) := by
  simp [hearsF, aboN]

set_option maxRecDepth 100000 in
set_option maxHeartbeats 4000000 in
theorem x_f1_2 {k : Nat} {g : zG} {d dep m nb K0 : Nat} {x : Int32} {t : zT} {μ : zMem} (hk : k < 8) (hup : upN 1 4 k = 2) (hK0 : K0 < 8) (hnb : nb < 50) (hdep : dep + 4 < 40) (hm : m + 4 < 2 ^ 20) (hd : 8 ≤ d) (ht : aX m t μ) (hN : aN nb K0 μ) : zM g d A_from [.ref 9, .int (nI k), .int 1, .int x, .int (nI dep)] μ (fun r μ' => r = some (.int ((hearsF (nI nb) K0 4 2 (x) t)).1) ∧ aX (m + 4) ((hearsF (nI nb) K0 4 2 (x) t)).2 μ' ∧ zq sXA μ μ') := by
  rw [e_f1_2]
  refine x_fromG (a := 1) (K := 2) (c := 30) (ab := 0) (by omega) hk hup (by omega) rfl rfl (by omega) (by omega) (by omega) ht (fun μ1 hA hz => ?_)
  exact (x_r30 (t := runsF 30 t) hK0 hnb (by omega) (by omega) (by omega) hA (hN.q hz)).mono (fun r μ' q => ⟨q.1, q.2.1.up (by omega), hz.tr q.2.2⟩)

set_option maxRecDepth 100000 in
set_option maxHeartbeats 4000000 in
theorem x_r41 {g : zG} {d dep m nb K0 : Nat} {x : Int32} {t : zT} {μ : zMem} (hK0 : K0 < 8) (hnb : nb < 50) (hdep : dep + 4 < 40) (hm : m + 4 < 2 ^ 20) (hd : 9 ≤ d) (ht : aX m t μ) (hN : aN nb K0 μ) : zM g d A_run [.ref 9, .int 41, .int (2), .int x, .int (nI dep)] μ (fun r μ' => r = some (.int ((hearsF (nI nb) K0 4 2 (x + 1) t)).1) ∧ aX (m + 4) ((hearsF (nI nb) K0 4 2 (x + 1) t)).2 μ' ∧ zq sXA μ μ') := by
  refine zM_of (by decide +kernel) rfl rfl (Nat.le_of_ble_eq_true rfl) rfl ?_
  refine zb A_run_s0 rfl ?_
  refine z_look A_run_d1 (off := 193) (tgt := 194) (by decide) (by decide) rfl ?_
  refine zb A_run_s194 rfl ?_
  refine zcallV A_run_d202 k0_45 (by omega) (x_f1_2 (k := 2) (by omega) rfl hK0 hnb (by omega) (by omega) (by omega) ht hN) rfl rfl rfl (Nat.le_of_ble_eq_true rfl) ?_
  rintro _ μ1 ⟨rfl, hA0, hz0⟩
  refine z_ret A_run_d205 rfl ?_
  exact ⟨rfl, hA0, hz0⟩

theorem e_f1_3 {nb K0 : Nat} (x : Int32) (t : zT) : (hearsF (nI nb) K0 4 3 (x) t) = (hearsF (nI nb) K0 4 2 (x + 1) (runsF 41 t)) := by
  simp [hearsF, aboN]

set_option maxRecDepth 100000 in
set_option maxHeartbeats 4000000 in
theorem x_f1_3 {k : Nat} {g : zG} {d dep m nb K0 : Nat} {x : Int32} {t : zT} {μ : zMem} (hk : k < 8) (hup : upN 1 4 k = 3) (hK0 : K0 < 8) (hnb : nb < 50) (hdep : dep + 5 < 40) (hm : m + 5 < 2 ^ 20) (hd : 10 ≤ d) (ht : aX m t μ) (hN : aN nb K0 μ) : zM g d A_from [.ref 9, .int (nI k), .int 1, .int x, .int (nI dep)] μ (fun r μ' => r = some (.int ((hearsF (nI nb) K0 4 3 (x) t)).1) ∧ aX (m + 5) ((hearsF (nI nb) K0 4 3 (x) t)).2 μ' ∧ zq sXA μ μ') := by
  rw [e_f1_3]
  refine x_fromG (a := 1) (K := 3) (c := 41) (ab := 2) (by omega) hk hup (by omega) rfl rfl (by omega) (by omega) (by omega) ht (fun μ1 hA hz => ?_)
  exact (x_r41 (t := runsF 41 t) hK0 hnb (by omega) (by omega) (by omega) hA (hN.q hz)).mono (fun r μ' q => ⟨q.1, q.2.1.up (by omega), hz.tr q.2.2⟩)

set_option maxRecDepth 100000 in
set_option maxHeartbeats 4000000 in
theorem x_r80 {g : zG} {d dep m nb K0 : Nat} {x : Int32} {t : zT} {μ : zMem} (hK0 : K0 < 8) (hnb : nb < 50) (hdep : dep + 3 < 40) (hm : m + 7 < 2 ^ 20) (hd : 8 ≤ d) (ht : aX m t μ) (hN : aN nb K0 μ) : zM g d A_run [.ref 9, .int 80, .int (4), .int x, .int (nI dep)] μ (fun r μ' => r = some (.int (((hearsF (nI nb) K0 4 0 (x) t).1 + (doingF (nI nb) K0 4 K0 (2) (hearsF (nI nb) K0 4 0 (x) t).2).1, (doingF (nI nb) K0 4 K0 (2) (hearsF (nI nb) K0 4 0 (x) t).2).2)).1) ∧ aX (m + 7) (((hearsF (nI nb) K0 4 0 (x) t).1 + (doingF (nI nb) K0 4 K0 (2) (hearsF (nI nb) K0 4 0 (x) t).2).1, (doingF (nI nb) K0 4 K0 (2) (hearsF (nI nb) K0 4 0 (x) t).2).2)).2 μ' ∧ zq sXA μ μ') := by
  refine zM_of (by decide +kernel) rfl rfl (Nat.le_of_ble_eq_true rfl) rfl ?_
  refine zb A_run_s0 rfl ?_
  refine z_look A_run_d1 (off := 248) (tgt := 249) (by decide) (by decide) rfl ?_
  refine zb A_run_s249 rfl ?_
  refine zcallV A_run_d255 k0_45 (by omega) (x_f1_0 (k := 4) (by omega) rfl hK0 hnb (by omega) (by omega) (by omega) ht hN) rfl rfl rfl (Nat.le_of_ble_eq_true rfl) ?_
  rintro _ μ1 ⟨rfl, hA0, hz0⟩
  refine zb A_run_s258 rfl ?_
  refine zcallV A_run_d263 k0_41 (by omega) (x_own2 hK0 hnb (by omega) (by omega) (by omega) hA0 (hN.q hz0)) rfl rfl rfl (Nat.le_of_ble_eq_true rfl) ?_
  rintro _ μ2 ⟨rfl, hA1, hz1⟩
  refine zb A_run_s266 rfl ?_
  refine z_ret A_run_d267 rfl ?_
  exact ⟨rfl, hA1.up (by omega), hz0.tr hz1⟩

theorem e_f1_7 {nb K0 : Nat} (x : Int32) (t : zT) : (hearsF (nI nb) K0 4 7 (x) t) = ((hearsF (nI nb) K0 4 0 (x) (runsF 80 t)).1 + (doingF (nI nb) K0 4 K0 (2) (hearsF (nI nb) K0 4 0 (x) (runsF 80 t)).2).1, (doingF (nI nb) K0 4 K0 (2) (hearsF (nI nb) K0 4 0 (x) (runsF 80 t)).2).2) := by
  simp [hearsF, aboN]

set_option maxRecDepth 100000 in
set_option maxHeartbeats 4000000 in
theorem x_f1_7 {k : Nat} {g : zG} {d dep m nb K0 : Nat} {x : Int32} {t : zT} {μ : zMem} (hk : k < 8) (hup : upN 1 4 k = 7) (hK0 : K0 < 8) (hnb : nb < 50) (hdep : dep + 4 < 40) (hm : m + 8 < 2 ^ 20) (hd : 9 ≤ d) (ht : aX m t μ) (hN : aN nb K0 μ) : zM g d A_from [.ref 9, .int (nI k), .int 1, .int x, .int (nI dep)] μ (fun r μ' => r = some (.int ((hearsF (nI nb) K0 4 7 (x) t)).1) ∧ aX (m + 8) ((hearsF (nI nb) K0 4 7 (x) t)).2 μ' ∧ zq sXA μ μ') := by
  rw [e_f1_7]
  refine x_fromG (a := 1) (K := 7) (c := 80) (ab := 4) (by omega) hk hup (by omega) rfl rfl (by omega) (by omega) (by omega) ht (fun μ1 hA hz => ?_)
  exact (x_r80 (t := runsF 80 t) hK0 hnb (by omega) (by omega) (by omega) hA (hN.q hz)).mono (fun r μ' q => ⟨q.1, q.2.1.up (by omega), hz.tr q.2.2⟩)

theorem u_f1_1 {nb K0 : Nat} (x : Int32) (t : zT) : (hearsF (nI nb) K0 4 1 (x) t) = (hearsF (nI nb) K0 4 0 (x) t) := by simp [hearsF, aboN]

theorem u_f1_4 {nb K0 : Nat} (x : Int32) (t : zT) : (hearsF (nI nb) K0 4 4 (x) t) = (hearsF (nI nb) K0 4 0 (x) t) := by simp [hearsF, aboN]

theorem u_f1_5 {nb K0 : Nat} (x : Int32) (t : zT) : (hearsF (nI nb) K0 4 5 (x) t) = (hearsF (nI nb) K0 4 3 (x) t) := by simp [hearsF, aboN]

theorem u_f1_6 {nb K0 : Nat} (x : Int32) (t : zT) : (hearsF (nI nb) K0 4 6 (x) t) = (hearsF (nI nb) K0 4 0 (x) t) := by simp [hearsF, aboN]

set_option maxRecDepth 100000 in
set_option maxHeartbeats 4000000 in
theorem x_f1 {k : Nat} {g : zG} {d dep m nb K0 : Nat} {x : Int32} {t : zT} {μ : zMem} (hk : k < 8) (hK0 : K0 < 8) (hnb : nb < 50) (hdep : dep + 5 < 40) (hm : m + 8 < 2 ^ 20) (hd : 10 ≤ d) (ht : aX m t μ) (hN : aN nb K0 μ) : zM g d A_from [.ref 9, .int (nI k), .int 1, .int x, .int (nI dep)] μ (fun r μ' => r = some (.int ((hearsF (nI nb) K0 4 k (x) t)).1) ∧ aX (m + 8) ((hearsF (nI nb) K0 4 k (x) t)).2 μ' ∧ zq sXA μ μ') := by
  rcases (show k = 0 ∨ k = 1 ∨ k = 2 ∨ k = 3 ∨ k = 4 ∨ k = 5 ∨ k = 6 ∨ k = 7 by omega) with rfl | rfl | rfl | rfl | rfl | rfl | rfl | rfl
  · exact (x_f1_0 (k := 0) (by omega) rfl hK0 hnb (by omega) (by omega) (by omega) ht hN).mono (fun r μ' q => ⟨q.1, q.2.1.up (by omega), q.2.2⟩)
  · rw [u_f1_1]
    exact (x_f1_0 (k := 1) (by omega) rfl hK0 hnb (by omega) (by omega) (by omega) ht hN).mono (fun r μ' q => ⟨q.1, q.2.1.up (by omega), q.2.2⟩)
  · exact (x_f1_2 (k := 2) (by omega) rfl hK0 hnb (by omega) (by omega) (by omega) ht hN).mono (fun r μ' q => ⟨q.1, q.2.1.up (by omega), q.2.2⟩)
  · exact (x_f1_3 (k := 3) (by omega) rfl hK0 hnb (by omega) (by omega) (by omega) ht hN).mono (fun r μ' q => ⟨q.1, q.2.1.up (by omega), q.2.2⟩)
  · rw [u_f1_4]
    exact (x_f1_0 (k := 4) (by omega) rfl hK0 hnb (by omega) (by omega) (by omega) ht hN).mono (fun r μ' q => ⟨q.1, q.2.1.up (by omega), q.2.2⟩)
  · rw [u_f1_5]
    exact (x_f1_3 (k := 5) (by omega) rfl hK0 hnb (by omega) (by omega) (by omega) ht hN).mono (fun r μ' q => ⟨q.1, q.2.1.up (by omega), q.2.2⟩)
  · rw [u_f1_6]
    exact (x_f1_0 (k := 6) (by omega) rfl hK0 hnb (by omega) (by omega) (by omega) ht hN).mono (fun r μ' q => ⟨q.1, q.2.1.up (by omega), q.2.2⟩)
  · exact (x_f1_7 (k := 7) (by omega) rfl hK0 hnb (by omega) (by omega) (by omega) ht hN).mono (fun r μ' q => ⟨q.1, q.2.1.up (by omega), q.2.2⟩)

set_option maxRecDepth 100000 in
set_option maxHeartbeats 4000000 in
theorem x_own1 {g : zG} {d dep m nb K0 : Nat} {x : Int32} {t : zT} {μ : zMem} (hK0 : K0 < 8) (hnb : nb < 50) (hdep : dep + 5 < 40) (hm : m + 8 < 2 ^ 20) (hd : 11 ≤ d) (ht : aX m t μ) (hN : aN nb K0 μ) : zM g d A_own [.ref 9, .int 1, .int x, .int (nI dep)] μ (fun r μ' => r = some (.int ((hearsF (nI nb) K0 4 K0 (x) t)).1) ∧ aX (m + 8) ((hearsF (nI nb) K0 4 K0 (x) t)).2 μ' ∧ zq sXA μ μ') := by
  refine zM_of (by decide +kernel) rfl rfl (Nat.le_of_ble_eq_true rfl) rfl ?_
  have e4 : μ.1 9 4 = nI nb := hN.1
  have e83 : μ.1 83 (nI nb).toNatClampNeg = nI K0 := by rw [nI_clamp (by omega)]; exact hN.2
  have hvb : vp_in (μ.1 9 4) 50 := by rw [e4]; exact vp_in_nI (by omega) (by omega)
  refine zb1 A_own_s0 rfl hvb ?_
  rw [e4, e83]
  refine zcallV A_own_d13 k0_45 (by omega) (x_f1 hK0 hK0 hnb (by omega) (by omega) (by omega) ht hN) rfl rfl rfl (Nat.le_of_ble_eq_true rfl) ?_
  rintro _ μ1 ⟨rfl, hA0, hz0⟩
  refine z_ret A_own_d16 rfl ?_
  exact ⟨rfl, hA0, hz0⟩

set_option maxRecDepth 100000 in
set_option maxHeartbeats 4000000 in
theorem x_r2 {g : zG} {d dep m nb K0 : Nat} {x : Int32} {t : zT} {μ : zMem} (hK0 : K0 < 8) (hnb : nb < 50) (hdep : dep + 5 < 40) (hm : m + 12 < 2 ^ 20) (hd : 12 ≤ d) (ht : aX m t μ) (hN : aN nb K0 μ) : zM g d A_run [.ref 9, .int 2, .int (-1), .int x, .int (nI dep)] μ (fun r μ' => r = some (.int (((hearsF (nI nb) K0 4 K0 (x) t).1 - (doingF (nI nb) K0 4 K0 (1) (hearsF (nI nb) K0 4 K0 (x) t).2).1, (doingF (nI nb) K0 4 K0 (1) (hearsF (nI nb) K0 4 K0 (x) t).2).2)).1) ∧ aX (m + 12) (((hearsF (nI nb) K0 4 K0 (x) t).1 - (doingF (nI nb) K0 4 K0 (1) (hearsF (nI nb) K0 4 K0 (x) t).2).1, (doingF (nI nb) K0 4 K0 (1) (hearsF (nI nb) K0 4 K0 (x) t).2).2)).2 μ' ∧ zq sXA μ μ') := by
  refine zM_of (by decide +kernel) rfl rfl (Nat.le_of_ble_eq_true rfl) rfl ?_
  refine zb A_run_s0 rfl ?_
  refine z_look A_run_d1 (off := 122) (tgt := 123) (by decide) (by decide) rfl ?_
  refine zb A_run_s123 rfl ?_
  refine zcallV A_run_d128 k0_41 (by omega) (x_own1 hK0 hnb (by omega) (by omega) (by omega) ht hN) rfl rfl rfl (Nat.le_of_ble_eq_true rfl) ?_
  rintro _ μ1 ⟨rfl, hA0, hz0⟩
  refine zb A_run_s131 rfl ?_
  refine zcallV A_run_d136 k0_41 (by omega) (x_own2 hK0 hnb (by omega) (by omega) (by omega) hA0 (hN.q hz0)) rfl rfl rfl (Nat.le_of_ble_eq_true rfl) ?_
  rintro _ μ2 ⟨rfl, hA1, hz1⟩
  refine zb A_run_s139 rfl ?_
  refine z_ret A_run_d140 rfl ?_
  exact ⟨rfl, hA1.up (by omega), hz0.tr hz1⟩

theorem e_f3_0 {nb K0 : Nat} (x : Int32) (t : zT) : (tellsF (nI nb) K0 4 0 (x) t) = ((hearsF (nI nb) K0 4 K0 (x) (runsF 2 t)).1 - (doingF (nI nb) K0 4 K0 (1) (hearsF (nI nb) K0 4 K0 (x) (runsF 2 t)).2).1, (doingF (nI nb) K0 4 K0 (1) (hearsF (nI nb) K0 4 K0 (x) (runsF 2 t)).2).2) := by
  simp [tellsF, aboN]

set_option maxRecDepth 100000 in
set_option maxHeartbeats 4000000 in
theorem x_f3_0 {k : Nat} {g : zG} {d dep m nb K0 : Nat} {x : Int32} {t : zT} {μ : zMem} (hk : k < 8) (hup : upN 3 4 k = 0) (hK0 : K0 < 8) (hnb : nb < 50) (hdep : dep + 6 < 40) (hm : m + 13 < 2 ^ 20) (hd : 13 ≤ d) (ht : aX m t μ) (hN : aN nb K0 μ) : zM g d A_from [.ref 9, .int (nI k), .int 3, .int x, .int (nI dep)] μ (fun r μ' => r = some (.int ((tellsF (nI nb) K0 4 0 (x) t)).1) ∧ aX (m + 13) ((tellsF (nI nb) K0 4 0 (x) t)).2 μ' ∧ zq sXA μ μ') := by
  rw [e_f3_0]
  refine x_fromG (a := 3) (K := 0) (c := 2) (ab := -1) (by omega) hk hup (by omega) rfl rfl (by omega) (by omega) (by omega) ht (fun μ1 hA hz => ?_)
  exact (x_r2 (t := runsF 2 t) hK0 hnb (by omega) (by omega) (by omega) hA (hN.q hz)).mono (fun r μ' q => ⟨q.1, q.2.1.up (by omega), hz.tr q.2.2⟩)

set_option maxRecDepth 100000 in
set_option maxHeartbeats 4000000 in
theorem x_r60 {g : zG} {d dep m nb K0 : Nat} {x : Int32} {t : zT} {μ : zMem} (hK0 : K0 < 8) (hnb : nb < 50) (hdep : dep + 6 < 40) (hm : m + 13 < 2 ^ 20) (hd : 14 ≤ d) (ht : aX m t μ) (hN : aN nb K0 μ) : zM g d A_run [.ref 9, .int 60, .int (3), .int x, .int (nI dep)] μ (fun r μ' => r = some (.int (((tellsF (nI nb) K0 4 0 (x) t).1 ^^^ 5, (tellsF (nI nb) K0 4 0 (x) t).2)).1) ∧ aX (m + 13) (((tellsF (nI nb) K0 4 0 (x) t).1 ^^^ 5, (tellsF (nI nb) K0 4 0 (x) t).2)).2 μ' ∧ zq sXA μ μ') := by
  refine zM_of (by decide +kernel) rfl rfl (Nat.le_of_ble_eq_true rfl) rfl ?_
  refine zb A_run_s0 rfl ?_
  refine z_look A_run_d1 (off := 224) (tgt := 225) (by decide) (by decide) rfl ?_
  refine zb A_run_s225 rfl ?_
  refine zcallV A_run_d231 k0_45 (by omega) (x_f3_0 (k := 3) (by omega) rfl hK0 hnb (by omega) (by omega) (by omega) ht hN) rfl rfl rfl (Nat.le_of_ble_eq_true rfl) ?_
  rintro _ μ1 ⟨rfl, hA0, hz0⟩
  refine zb A_run_s234 rfl ?_
  refine z_ret A_run_d236 rfl ?_
  exact ⟨rfl, hA0, hz0⟩

theorem e_f3_5 {nb K0 : Nat} (x : Int32) (t : zT) : (tellsF (nI nb) K0 4 5 (x) t) = ((tellsF (nI nb) K0 4 0 (x) (runsF 60 t)).1 ^^^ 5, (tellsF (nI nb) K0 4 0 (x) (runsF 60 t)).2) := by
  simp [tellsF, aboN]

set_option maxRecDepth 100000 in
set_option maxHeartbeats 4000000 in
theorem x_f3_5 {k : Nat} {g : zG} {d dep m nb K0 : Nat} {x : Int32} {t : zT} {μ : zMem} (hk : k < 8) (hup : upN 3 4 k = 5) (hK0 : K0 < 8) (hnb : nb < 50) (hdep : dep + 7 < 40) (hm : m + 14 < 2 ^ 20) (hd : 15 ≤ d) (ht : aX m t μ) (hN : aN nb K0 μ) : zM g d A_from [.ref 9, .int (nI k), .int 3, .int x, .int (nI dep)] μ (fun r μ' => r = some (.int ((tellsF (nI nb) K0 4 5 (x) t)).1) ∧ aX (m + 14) ((tellsF (nI nb) K0 4 5 (x) t)).2 μ' ∧ zq sXA μ μ') := by
  rw [e_f3_5]
  refine x_fromG (a := 3) (K := 5) (c := 60) (ab := 3) (by omega) hk hup (by omega) rfl rfl (by omega) (by omega) (by omega) ht (fun μ1 hA hz => ?_)
  exact (x_r60 (t := runsF 60 t) hK0 hnb (by omega) (by omega) (by omega) hA (hN.q hz)).mono (fun r μ' q => ⟨q.1, q.2.1.up (by omega), hz.tr q.2.2⟩)

set_option maxRecDepth 100000 in
set_option maxHeartbeats 4000000 in
theorem x_r81 {g : zG} {d dep m nb K0 : Nat} {x : Int32} {t : zT} {μ : zMem} (hK0 : K0 < 8) (hnb : nb < 50) (hdep : dep + 6 < 40) (hm : m + 13 < 2 ^ 20) (hd : 14 ≤ d) (ht : aX m t μ) (hN : aN nb K0 μ) : zM g d A_run [.ref 9, .int 81, .int (4), .int x, .int (nI dep)] μ (fun r μ' => r = some (.int (((tellsF (nI nb) K0 4 0 (x) t).1 - 1, (tellsF (nI nb) K0 4 0 (x) t).2)).1) ∧ aX (m + 13) (((tellsF (nI nb) K0 4 0 (x) t).1 - 1, (tellsF (nI nb) K0 4 0 (x) t).2)).2 μ' ∧ zq sXA μ μ') := by
  refine zM_of (by decide +kernel) rfl rfl (Nat.le_of_ble_eq_true rfl) rfl ?_
  refine zb A_run_s0 rfl ?_
  refine z_look A_run_d1 (off := 267) (tgt := 268) (by decide) (by decide) rfl ?_
  refine zb A_run_s268 rfl ?_
  refine zcallV A_run_d274 k0_45 (by omega) (x_f3_0 (k := 4) (by omega) rfl hK0 hnb (by omega) (by omega) (by omega) ht hN) rfl rfl rfl (Nat.le_of_ble_eq_true rfl) ?_
  rintro _ μ1 ⟨rfl, hA0, hz0⟩
  refine zb A_run_s277 rfl ?_
  refine z_ret A_run_d279 rfl ?_
  exact ⟨rfl, hA0, hz0⟩

theorem e_f3_7 {nb K0 : Nat} (x : Int32) (t : zT) : (tellsF (nI nb) K0 4 7 (x) t) = ((tellsF (nI nb) K0 4 0 (x) (runsF 81 t)).1 - 1, (tellsF (nI nb) K0 4 0 (x) (runsF 81 t)).2) := by
  simp [tellsF, aboN]

set_option maxRecDepth 100000 in
set_option maxHeartbeats 4000000 in
theorem x_f3_7 {k : Nat} {g : zG} {d dep m nb K0 : Nat} {x : Int32} {t : zT} {μ : zMem} (hk : k < 8) (hup : upN 3 4 k = 7) (hK0 : K0 < 8) (hnb : nb < 50) (hdep : dep + 7 < 40) (hm : m + 14 < 2 ^ 20) (hd : 15 ≤ d) (ht : aX m t μ) (hN : aN nb K0 μ) : zM g d A_from [.ref 9, .int (nI k), .int 3, .int x, .int (nI dep)] μ (fun r μ' => r = some (.int ((tellsF (nI nb) K0 4 7 (x) t)).1) ∧ aX (m + 14) ((tellsF (nI nb) K0 4 7 (x) t)).2 μ' ∧ zq sXA μ μ') := by
  rw [e_f3_7]
  refine x_fromG (a := 3) (K := 7) (c := 81) (ab := 4) (by omega) hk hup (by omega) rfl rfl (by omega) (by omega) (by omega) ht (fun μ1 hA hz => ?_)
  exact (x_r81 (t := runsF 81 t) hK0 hnb (by omega) (by omega) (by omega) hA (hN.q hz)).mono (fun r μ' q => ⟨q.1, q.2.1.up (by omega), hz.tr q.2.2⟩)

theorem u_f3_1 {nb K0 : Nat} (x : Int32) (t : zT) : (tellsF (nI nb) K0 4 1 (x) t) = (tellsF (nI nb) K0 4 0 (x) t) := by simp [tellsF, aboN]

theorem u_f3_2 {nb K0 : Nat} (x : Int32) (t : zT) : (tellsF (nI nb) K0 4 2 (x) t) = (tellsF (nI nb) K0 4 0 (x) t) := by simp [tellsF, aboN]

theorem u_f3_3 {nb K0 : Nat} (x : Int32) (t : zT) : (tellsF (nI nb) K0 4 3 (x) t) = (tellsF (nI nb) K0 4 0 (x) t) := by simp [tellsF, aboN]

theorem u_f3_4 {nb K0 : Nat} (x : Int32) (t : zT) : (tellsF (nI nb) K0 4 4 (x) t) = (tellsF (nI nb) K0 4 0 (x) t) := by simp [tellsF, aboN]

theorem u_f3_6 {nb K0 : Nat} (x : Int32) (t : zT) : (tellsF (nI nb) K0 4 6 (x) t) = (tellsF (nI nb) K0 4 0 (x) t) := by simp [tellsF, aboN]

set_option maxRecDepth 100000 in
set_option maxHeartbeats 4000000 in
theorem x_f3 {k : Nat} {g : zG} {d dep m nb K0 : Nat} {x : Int32} {t : zT} {μ : zMem} (hk : k < 8) (hK0 : K0 < 8) (hnb : nb < 50) (hdep : dep + 7 < 40) (hm : m + 14 < 2 ^ 20) (hd : 15 ≤ d) (ht : aX m t μ) (hN : aN nb K0 μ) : zM g d A_from [.ref 9, .int (nI k), .int 3, .int x, .int (nI dep)] μ (fun r μ' => r = some (.int ((tellsF (nI nb) K0 4 k (x) t)).1) ∧ aX (m + 14) ((tellsF (nI nb) K0 4 k (x) t)).2 μ' ∧ zq sXA μ μ') := by
  rcases (show k = 0 ∨ k = 1 ∨ k = 2 ∨ k = 3 ∨ k = 4 ∨ k = 5 ∨ k = 6 ∨ k = 7 by omega) with rfl | rfl | rfl | rfl | rfl | rfl | rfl | rfl
  · exact (x_f3_0 (k := 0) (by omega) rfl hK0 hnb (by omega) (by omega) (by omega) ht hN).mono (fun r μ' q => ⟨q.1, q.2.1.up (by omega), q.2.2⟩)
  · rw [u_f3_1]
    exact (x_f3_0 (k := 1) (by omega) rfl hK0 hnb (by omega) (by omega) (by omega) ht hN).mono (fun r μ' q => ⟨q.1, q.2.1.up (by omega), q.2.2⟩)
  · rw [u_f3_2]
    exact (x_f3_0 (k := 2) (by omega) rfl hK0 hnb (by omega) (by omega) (by omega) ht hN).mono (fun r μ' q => ⟨q.1, q.2.1.up (by omega), q.2.2⟩)
  · rw [u_f3_3]
    exact (x_f3_0 (k := 3) (by omega) rfl hK0 hnb (by omega) (by omega) (by omega) ht hN).mono (fun r μ' q => ⟨q.1, q.2.1.up (by omega), q.2.2⟩)
  · rw [u_f3_4]
    exact (x_f3_0 (k := 4) (by omega) rfl hK0 hnb (by omega) (by omega) (by omega) ht hN).mono (fun r μ' q => ⟨q.1, q.2.1.up (by omega), q.2.2⟩)
  · exact (x_f3_5 (k := 5) (by omega) rfl hK0 hnb (by omega) (by omega) (by omega) ht hN).mono (fun r μ' q => ⟨q.1, q.2.1.up (by omega), q.2.2⟩)
  · rw [u_f3_6]
    exact (x_f3_0 (k := 6) (by omega) rfl hK0 hnb (by omega) (by omega) (by omega) ht hN).mono (fun r μ' q => ⟨q.1, q.2.1.up (by omega), q.2.2⟩)
  · exact (x_f3_7 (k := 7) (by omega) rfl hK0 hnb (by omega) (by omega) (by omega) ht hN).mono (fun r μ' q => ⟨q.1, q.2.1.up (by omega), q.2.2⟩)

set_option maxRecDepth 100000 in
set_option maxHeartbeats 4000000 in
theorem x_own3 {g : zG} {d dep m nb K0 : Nat} {x : Int32} {t : zT} {μ : zMem} (hK0 : K0 < 8) (hnb : nb < 50) (hdep : dep + 7 < 40) (hm : m + 14 < 2 ^ 20) (hd : 16 ≤ d) (ht : aX m t μ) (hN : aN nb K0 μ) : zM g d A_own [.ref 9, .int 3, .int x, .int (nI dep)] μ (fun r μ' => r = some (.int ((tellsF (nI nb) K0 4 K0 (x) t)).1) ∧ aX (m + 14) ((tellsF (nI nb) K0 4 K0 (x) t)).2 μ' ∧ zq sXA μ μ') := by
  refine zM_of (by decide +kernel) rfl rfl (Nat.le_of_ble_eq_true rfl) rfl ?_
  have e4 : μ.1 9 4 = nI nb := hN.1
  have e83 : μ.1 83 (nI nb).toNatClampNeg = nI K0 := by rw [nI_clamp (by omega)]; exact hN.2
  have hvb : vp_in (μ.1 9 4) 50 := by rw [e4]; exact vp_in_nI (by omega) (by omega)
  refine zb1 A_own_s0 rfl hvb ?_
  rw [e4, e83]
  refine zcallV A_own_d13 k0_45 (by omega) (x_f3 hK0 hK0 hnb (by omega) (by omega) (by omega) ht hN) rfl rfl rfl (Nat.le_of_ble_eq_true rfl) ?_
  rintro _ μ1 ⟨rfl, hA0, hz0⟩
  refine z_ret A_own_d16 rfl ?_
  exact ⟨rfl, hA0, hz0⟩
