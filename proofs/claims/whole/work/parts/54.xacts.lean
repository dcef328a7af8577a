/-! the class: bodies and their acts -/
def aX (m : Nat) (t : zT) (μ : zMem) : Prop := μ.1 9 3 = t.1 ∧ (∀ i, i < 24 → μ.1 84 i = t.2 i) ∧ ∃ q : Nat, q ≤ m ∧ t.1 = nI q
def sXA (c k : Nat) : Bool := (c == 9 && k == 3) || c == 84
theorem aX.up {m m' : Nat} {t : zT} {μ : zMem} (h : aX m t μ) (hm : m ≤ m') : aX m' t μ := by
  obtain ⟨h1, h2, q, h3, h4⟩ := h
  exact ⟨h1, h2, q, by omega, h4⟩
/-- who acts, of which kind -/
def aN (nb K0 : Nat) (μ : zMem) : Prop := μ.1 9 4 = nI nb ∧ μ.1 83 nb = nI K0
theorem aN.q {nb K0 : Nat} {μ μ' : zMem} (h : aN nb K0 μ) (hz : zq sXA μ μ') : aN nb K0 μ' := ⟨(hz.1 9 4 rfl).trans h.1, (hz.1 83 nb rfl).trans h.2⟩
def upN (a : Nat) : Nat → Nat → Nat
  | 0, k => k
  | f + 1, k => if k = 0 then k else if zOWN (4 * k + a) = 0 then upN a f (aboN k) else k
theorem upN_e {a f k : Nat} (h : k = 0 ∨ ¬ zOWN (4 * k + a) = 0) : upN a (f + 1) k = k := by
  unfold upN
  rcases h with h | h
  · rw [if_pos h]
  · rw [if_neg h, ite_self]
theorem upN_s {a f k : Nat} (h0 : ¬ k = 0) (h : zOWN (4 * k + a) = 0) : upN a (f + 1) k = upN a f (aboN k) := by
  conv => lhs; unfold upN
  rw [if_neg h0, if_pos h]
theorem zABOVE_N {k : Nat} (h : k < 8) (h0 : 0 < k) : zABOVE k = nI (aboN k) := by
  have : ∀ k : Fin 8, 0 < k.1 → zABOVE k.1 = nI (aboN k.1) := by decide
  exact this ⟨k, h⟩ h0
theorem ix4 {k a : Nat} (hk : k < 8) (ha : a < 4) : (4 : Int32) * nI k + nI a = nI (4 * k + a) := by rw [show (4 : Int32) = nI 4 from rfl, pk_mul, nI_add]
theorem aX.s {m : Nat} {t : zT} {μ : zMem} {c : Int32} (h : aX m t μ) (hlt : t.1 < 24) : aX (m + 1) (runsF c t) (zpI (zpI μ 84 t.1.toNatClampNeg c) 9 3 (t.1 + 1)) := by
  obtain ⟨e6, e47, q, hq, et⟩ := h
  refine ⟨rfl, fun i hi => ?_, q + 1, by omega, by show t.1 + 1 = _; rw [et, nI_1]⟩
  show _ = (if t.1 < 24 then fu t.2 t.1.toNatClampNeg c else t.2) i
  rw [if_pos hlt]
  unfold fu
  rw [zpI_ne (by decide), zpI_at, ← e47 i hi]
theorem aX.s2 {m : Nat} {t : zT} {μ : zMem} {c : Int32} (h : aX m t μ) (hlt : ¬ t.1 < 24) : aX (m + 1) (runsF c t) (zpI μ 9 3 (t.1 + 1)) := by
  obtain ⟨e6, e47, q, hq, et⟩ := h
  refine ⟨rfl, fun i hi => ?_, q + 1, by omega, by show t.1 + 1 = _; rw [et, nI_1]⟩
  show _ = (if t.1 < 24 then fu t.2 t.1.toNatClampNeg c else t.2) i
  rw [if_neg hlt]
  exact e47 i hi

set_option maxRecDepth 100000 in
set_option maxHeartbeats 4000000 in
theorem w_up {g : zG} {d a K : Nat} {r3 r4 : Option Value} {dp : Int32} {μ : zMem} {Q : Option Value → zMem → Prop} (ha : a < 4) (hQ : ∀ i' : Option Value, zW g A_from d 52 [some (.ref 9), r3, some (.int (nI a)), r4, some (.int dp), some (.int (nI K)), i'] [] μ Q) : ∀ (f k i : Nat), rkN k < f → i + f ≤ 8 → k < 8 → upN a f k = K → zW g A_from d 6 [some (.ref 9), r3, some (.int (nI a)), r4, some (.int dp), some (.int (nI k)), some (.int (nI i))] [] μ Q := by
  intro f
  induction f with
  | zero => intro k i h; omega
  | succ f ih =>
    intro k i hr hi hk hup
    have hva : vp_in (nI k) 8 := vp_in_nI (by omega) (by omega)
    have hvo : vp_in ((4 : Int32) * nI k + nI a) 32 := by rw [ix4 hk ha]; exact vp_in_nI (by omega) (by omega)
    have eo : ((4 : Int32) * nI k + nI a).toNatClampNeg = 4 * k + a := by rw [ix4 hk ha]; exact nI_clamp (by omega)
    have ek : (nI k).toNatClampNeg = k := nI_clamp (by omega)
    refine zb A_from_s6 rfl ?_
    refine z_cge A_from_d10 (tgt := 52) rfl (fun h10 => absurd h10 (nI_ge (b := 8) (by omega) (by omega))) (fun h10 => ?_)
    refine zb A_from_s13 rfl ?_
    refine z_le A_from_d15 (tgt := 52) rfl (fun h15 => ?_) (fun h15 => ?_)
    · first
        | (have z : k = 0 := by
             have := (nI_leI (a := k) (b := 0) (by omega) (by omega)).mp h15
             omega
           rw [upN_e (Or.inl z)] at hup
           rw [hup]
           exact hQ _)
        | (rw [eo] at h35
           rw [upN_e (f := f) (Or.inr h35)] at hup
           rw [hup]
           exact hQ _)
    · refine zb A_from_s18 rfl ?_
      refine z_cge A_from_d22 (tgt := 52) rfl (fun h22 => absurd h22 (nI_ge (b := 8) (by omega) (by omega))) (fun h22 => ?_)
      refine zb1 A_from_s25 rfl (by first | exact hva | exact hvo) ?_
      refine z_ne A_from_d35 (tgt := 52) rfl (fun h35 => ?_) (fun h35 => ?_)
      · first
          | (have z : k = 0 := by
               have := (nI_leI (a := k) (b := 0) (by omega) (by omega)).mp h15
               omega
             rw [upN_e (Or.inl z)] at hup
             rw [hup]
             exact hQ _)
          | (rw [eo] at h35
             rw [upN_e (f := f) (Or.inr h35)] at hup
             rw [hup]
             exact hQ _)
      · refine zb1 A_from_s38 rfl (by first | exact hva | exact hvo) ?_
        rw [eo] at h35
        have hk0 : 0 < k := by
          rcases Nat.eq_zero_or_pos k with z | z
          · subst z
            exact absurd (Int32.le_refl _) h15
          · exact z
        rw [nI_1, ek, show ((8, zABOVE) : Nat × (Nat → Int32)).2 k = nI (aboN k) from zABOVE_N hk hk0]
        have hr := rkN_lt hk hk0
        exact ih (aboN k) (i + 1) (by omega) (by omega) hr.2 (by rw [← upN_s (by omega) h35]; exact hup)

set_option maxRecDepth 100000 in
set_option maxHeartbeats 4000000 in
theorem x_fromG {g : zG} {d a k K dep m M : Nat} {c ab x : Int32} {t : zT} {R : Int32 × zT} {μ : zMem} (ha : a < 4) (hk : k < 8) (hup : upN a 4 k = K) (hK8 : K < 8) (hc : zOWN (4 * K + a) = c) (hab : zABOVE K = ab) (hdep : dep < 40) (hm : m < 2 ^ 20) (hd : 1 ≤ d) (ht : aX m t μ) (hrun : ∀ μ1, aX (m + 1) (runsF c t) μ1 → zq sXA μ μ1 → zM g (d - 1) A_run [.ref 9, .int c, .int ab, .int x, .int (nI (dep + 1))] μ1 (fun r μ' => r = some (.int R.1) ∧ aX M R.2 μ' ∧ zq sXA μ μ')) : zM g d A_from [.ref 9, .int (nI k), .int (nI a), .int x, .int (nI dep)] μ (fun r μ' => r = some (.int R.1) ∧ aX M R.2 μ' ∧ zq sXA μ μ') := by
  refine zM_of (by decide +kernel) rfl rfl (Nat.le_of_ble_eq_true rfl) rfl ?_
  have hrk : rkN k < 4 := by
    have : ∀ k : Fin 8, rkN k.1 < 4 := by decide
    exact this ⟨k, hk⟩
  have hht := ht
  obtain ⟨e6, e47, q, hq, et⟩ := hht
  have hva : vp_in (nI K) 8 := vp_in_nI (by omega) (by omega)
  have hvo : vp_in ((4 : Int32) * nI K + nI a) 32 := by rw [ix4 hK8 ha]; exact vp_in_nI (by omega) (by omega)
  have eo : ((4 : Int32) * nI K + nI a).toNatClampNeg = 4 * K + a := by rw [ix4 hK8 ha]; exact nI_clamp (by omega)
  have ek : (nI K).toNatClampNeg = K := nI_clamp (by omega)
  refine zb A_from_s0 rfl ?_
  refine w_up ha (fun i' => ?_) 4 k 0 hrk (by omega) hk hup
  refine zb A_from_s52 rfl ?_
  refine z_cge A_from_d56 (tgt := 71) rfl (fun h56 => absurd h56 (nI_ge (b := 40) hdep (by omega))) (fun h56 => ?_)
  refine zb A_from_s59 rfl ?_
  refine z_lt A_from_d61 (tgt := 71) rfl (fun h61 => absurd h61 (nI_pos (by omega))) (fun h61 => ?_)
  refine zb A_from_s64 rfl ?_
  refine z_clt A_from_d68 (tgt := 73) rfl (fun h68 => ?_) (fun h68 => absurd (nI_lt (b := 8) hK8 (by omega)) h68)
  refine zb1 A_from_s73 rfl (by first | exact hva | exact hvo | exact hvr) ?_
  refine z_cge A_from_d91 (tgt := 105) rfl (fun h91 => ?_) (fun h91 => ?_)
  · refine zb1 A_from_s105 rfl (by first | exact hva | exact hvo | exact hvr) ?_
    rw [eo, ek, show ((32, zOWN) : Nat × (Nat → Int32)).2 (4 * K + a) = c from hc, show ((8, zABOVE) : Nat × (Nat → Int32)).2 K = ab from hab, nI_1]
    simp (disch := decide) only [zpI_ne, e6]
    refine zcallV A_from_d129 k0_52 (by omega) (hrun _ (by first | exact ht.s hlt | exact ht.s2 (by rw [← e6]; exact Int32.not_lt.mpr h91)) (by first | exact (zq.w (m := sXA) rfl).tr (zq.w rfl) | exact zq.w rfl)) rfl rfl rfl (Nat.le_of_ble_eq_true rfl) ?_
    rintro _ μ2 ⟨rfl, hA2, hz2⟩
    refine z_ret A_from_d132 rfl ?_
    exact ⟨rfl, hA2, hz2⟩
  · have hlt : t.1 < 24 := by rw [← e6]; exact Int32.not_le.mp h91
    have hvr : vp_in (μ.1 9 3) 24 := by
      rw [e6, et]
      rw [et] at hlt
      exact vp_in_nI ((nI_ltI (b := 24) (by omega) (by omega)).mp hlt) (by omega)
    refine zb2 A_from_s94 rfl (by first | exact hva | exact hvo | exact hvr) (by first | exact hva | exact hvo | exact hvr) ?_
    rw [eo, ek, show ((32, zOWN) : Nat × (Nat → Int32)).2 (4 * K + a) = c from hc, show ((8, zABOVE) : Nat × (Nat → Int32)).2 K = ab from hab, nI_1]
    simp (disch := decide) only [zpI_ne, e6]
    refine zcallV A_from_d129 k0_52 (by omega) (hrun _ (by first | exact ht.s hlt | exact ht.s2 (by rw [← e6]; exact Int32.not_lt.mpr h91)) (by first | exact (zq.w (m := sXA) rfl).tr (zq.w rfl) | exact zq.w rfl)) rfl rfl rfl (Nat.le_of_ble_eq_true rfl) ?_
    rintro _ μ2 ⟨rfl, hA2, hz2⟩
    refine z_ret A_from_d132 rfl ?_
    exact ⟨rfl, hA2, hz2⟩
