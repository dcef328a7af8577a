/-! the class reads an O, a line, the text -/
theorem i2c_byte : ∀ n : Fin 256, ((nI n.1).toUInt32 % 65536).toInt32 = nI n.1 := by decide +kernel
theorem qnmI_some {c : Int32} {i : Nat} (h : qnm c = some i) : qnmI c = nI i := by unfold qnmI; rw [h]
theorem qnmI_none {c : Int32} (h : qnm c = none) : qnmI c = -1 := by unfold qnmI; rw [h]
theorem qnm_hi {c : Int32} {i : Nat} (h : qnm c = some i) : ¬ c ≤ 57 ∧ ¬ c < 0 := by
  unfold qnm at h
  repeat' (split at h)
  all_goals first | (cases h; done) | (rename_i e; subst e; exact ⟨by decide, by decide⟩)
theorem letb {T : Nat → Int32} {n p : Nat} (hb : ∀ i, i < n → 0 ≤ T i ∧ T i ≤ 255) (h : ¬ qnx T n p < 0) : ∃ k, k < 256 ∧ qnx T n p = nI k := by
  have hp : p < n := qnx_lt (fun e => by rw [e] at h; exact h (by decide))
  have e : qnx T n p = T p := if_pos hp
  rw [e]
  obtain ⟨k, hk, e2⟩ := nI_of2 (M := 255) (n := 255) rfl (Int32.not_lt.mpr (hb p hp).1) (hb p hp).2
  exact ⟨k, by omega, e2⟩

theorem rQ_01 {P st ar : Nat} {μ0 μ' : zMem} {c : qC} {z : qR} {v : Option Value} (h : rQ P st ar μ0 c z v μ') : ∃ w : Int32, v = some (.int w) ∧ (w = 0 ∨ w = 1) := by
  cases z with
  | inl q => exact ⟨0, h.1, Or.inl rfl⟩
  | inr z => exact ⟨1, h.1, Or.inr rfl⟩

set_option maxRecDepth 100000 in
set_option maxHeartbeats 4000000 in
theorem w_number_11 {g : zG} {μ0 : zMem} {n : Nat} (hR : μ0.2.2 = zR10) (hn : μ0.1 3 1 = nI n) (hn2 : n ≤ 120) {d : Nat} (hd : 1 ≤ d) {c : qC} : ∀ (j i p : Nat) (v : Int32) (μ : zMem), i + j = 4 → p ≤ n → c.length ≤ p → rS 11 89 90 μ0 p c μ → zW g R_number d 4 [some (.ref 3), some (.int v), some (.int (nI i))] [] μ (fun r μ' => r = none ∧ rS 11 89 90 μ0 (qnum (μ0.1 61) n j p v).1 (c ++ [(35, (qnum (μ0.1 61) n j p v).2)]) μ') := by
  intro j
  induction j with
  | zero =>
    intro i p v μ hi hp hl hs
    obtain ⟨m1, m2, R⟩ := μ
    obtain rfl : R = zR10 := hs.f.R hR
    have hi : i = 4 := by omega
    subst hi
    refine zb R_number_s4 rfl ?_
    refine z_cge R_number_d6 (tgt := 56) rfl (fun h6 => ?_) (fun h6 => absurd (show (4 : Int32) ≤ nI 4 by decide) h6)
    refine zb R_number_s56 rfl ?_
    refine zcallV R_number_d63 k7_45 (by omega) (x_add_11 (by omega) hs) rfl rfl rfl (Nat.le_of_ble_eq_true rfl) ?_
    rintro _ μ2 ⟨rfl, hs2⟩
    refine z_retV R_number_d66 rfl ?_
    exact ⟨rfl, hs2⟩
  | succ j ih =>
    intro i p v μ hi hp hl hs
    obtain ⟨m1, m2, R⟩ := μ
    obtain rfl : R = zR10 := hs.f.R hR
    simp only [qnum]
    by_cases hdg : qdig (qnx (μ0.1 61) n p)
    · rw [if_pos hdg]
      have hq1 : p < n := qnx_lt (fun e => by rw [e] at hdg; exact absurd hdg.1 (by decide))
      have eT : qnx (μ0.1 61) n p = μ0.1 61 p := if_pos hq1
      refine zb R_number_s4 rfl ?_
      refine z_cge R_number_d6 (tgt := 56) rfl (fun h6 => absurd h6 (nI_ge (b := 4) (by omega) (by omega))) (fun h6 => ?_)
      refine zb R_number_s9 rfl ?_
      refine zcallV R_number_d10 k7_38 (by omega) (x_next (Or.inl ⟨rfl, rfl, rfl⟩) hn hn2 (by omega) hs.f) rfl rfl rfl (Nat.le_of_ble_eq_true rfl) ?_
      rintro _ μx ⟨rfl, hx⟩
      rw [hx]
      clear hx μx
      refine zb R_number_s13 rfl ?_
      refine z_clt R_number_d15 (tgt := 56) rfl (fun h15 => absurd h15 (Int32.not_lt.mpr hdg.1)) (fun h15 => ?_)
      refine zb R_number_s18 rfl ?_
      refine zcallV R_number_d19 k7_38 (by omega) (x_next (Or.inl ⟨rfl, rfl, rfl⟩) hn hn2 (by omega) hs.f) rfl rfl rfl (Nat.le_of_ble_eq_true rfl) ?_
      rintro _ μx ⟨rfl, hx⟩
      rw [hx]
      clear hx μx
      refine zb R_number_s22 rfl ?_
      refine z_cgt R_number_d24 (tgt := 56) rfl (fun h24 => absurd h24 (Int32.not_lt.mpr hdg.2)) (fun h24 => ?_)
      refine zb R_number_s27 rfl ?_
      refine zcallV R_number_d32 k7_38 (by omega) (x_next (Or.inl ⟨rfl, rfl, rfl⟩) hn hn2 (by omega) hs.f) rfl rfl rfl (Nat.le_of_ble_eq_true rfl) ?_
      rintro _ μx ⟨rfl, hx⟩
      rw [hx]
      clear hx μx
      refine zb R_number_s35 rfl ?_
      rw [eT, show ((m1, m2, zR10) : zMem).1 3 2 = nI p from hs.2.1, nI_1, nI_1]
      exact ih (i + 1) (p + 1) _ _ (by omega) hq1 (by omega) (hs.adv (Or.inl ⟨rfl, rfl, rfl⟩))
    · rw [if_neg hdg]
      refine zb R_number_s4 rfl ?_
      refine z_cge R_number_d6 (tgt := 56) rfl (fun h6 => absurd h6 (nI_ge (b := 4) (by omega) (by omega))) (fun h6 => ?_)
      refine zb R_number_s9 rfl ?_
      refine zcallV R_number_d10 k7_38 (by omega) (x_next (Or.inl ⟨rfl, rfl, rfl⟩) hn hn2 (by omega) hs.f) rfl rfl rfl (Nat.le_of_ble_eq_true rfl) ?_
      rintro _ μx ⟨rfl, hx⟩
      rw [hx]
      clear hx μx
      refine zb R_number_s13 rfl ?_
      refine z_clt R_number_d15 (tgt := 56) rfl (fun h15 => ?_) (fun h15 => ?_)
      · refine zb R_number_s56 rfl ?_
        refine zcallV R_number_d63 k7_45 (by omega) (x_add_11 (by omega) hs) rfl rfl rfl (Nat.le_of_ble_eq_true rfl) ?_
        rintro _ μ2 ⟨rfl, hs2⟩
        refine z_retV R_number_d66 rfl ?_
        exact ⟨rfl, hs2⟩
      · refine zb R_number_s18 rfl ?_
        refine zcallV R_number_d19 k7_38 (by omega) (x_next (Or.inl ⟨rfl, rfl, rfl⟩) hn hn2 (by omega) hs.f) rfl rfl rfl (Nat.le_of_ble_eq_true rfl) ?_
        rintro _ μx ⟨rfl, hx⟩
        rw [hx]
        clear hx μx
        refine zb R_number_s22 rfl ?_
        refine z_cgt R_number_d24 (tgt := 56) rfl (fun h24 => ?_) (fun h24 => absurd (And.intro (Int32.not_lt.mp h15) (Int32.not_lt.mp h24)) hdg)
        refine zb R_number_s56 rfl ?_
        refine zcallV R_number_d63 k7_45 (by omega) (x_add_11 (by omega) hs) rfl rfl rfl (Nat.le_of_ble_eq_true rfl) ?_
        rintro _ μ2 ⟨rfl, hs2⟩
        refine z_retV R_number_d66 rfl ?_
        exact ⟨rfl, hs2⟩

set_option maxRecDepth 100000 in
set_option maxHeartbeats 4000000 in
theorem x_number_11 {g : zG} {μ0 : zMem} {n : Nat} (hR : μ0.2.2 = zR10) (hn : μ0.1 3 1 = nI n) (hn2 : n ≤ 120) {d : Nat} (hd : 1 ≤ d) {c : qC} {p : Nat} {μ : zMem} (hp : p ≤ n) (hl : c.length ≤ p) (hs : rS 11 89 90 μ0 p c μ) : zM g d R_number [.ref 3] μ (fun r μ' => r = none ∧ rS 11 89 90 μ0 (qnum (μ0.1 61) n 4 p 0).1 (c ++ [(35, (qnum (μ0.1 61) n 4 p 0).2)]) μ') := by
  refine zM_of (by decide +kernel) rfl rfl (Nat.le_of_ble_eq_true rfl) rfl ?_
  refine zb R_number_s0 rfl ?_
  exact w_number_11 hR hn hn2 hd 4 0 p 0 μ (by omega) hp hl hs

set_option maxRecDepth 100000 in
set_option maxHeartbeats 4000000 in
theorem x_eith_11 {g : zG} {μ0 : zMem} {n : Nat} (hR : μ0.2.2 = zR10) (hn : μ0.1 3 1 = nI n) (hn2 : n ≤ 120) {D k : Nat} (hD : 1 ≤ D) (HO : ∀ (d p : Nat) (c : qC) (μ : zMem), D ≤ d → p ≤ n → c.length ≤ p → rS 11 89 90 μ0 p c μ → zM g d R_one [.ref 3, .int (nI (6 - k))] μ (rQ 11 89 90 μ0 c (qO (μ0.1 61) n k p))) : ∀ (d p : Nat) (c : qC) (μ : zMem), D + 5 ≤ d → p ≤ n → c.length ≤ p → rS 11 89 90 μ0 p c μ → zM g d R_either [.ref 3, .int (nI (6 - k))] μ (rQ 11 89 90 μ0 c (qE (μ0.1 61) n (qO (μ0.1 61) n k) p)) := by
  have hpo := qO_ok (μ0.1 61) n k
  have h1 := x_R_product_11 hR hn hn2 hpo HO
  have h2 := x_R_sum_11 hR hn hn2 (qE_ok (T := (μ0.1 61)) hpo).1 h1
  have h3 := x_R_compared_11 hR hn hn2 (qE_ok (T := (μ0.1 61)) hpo).2.1 h2
  have h4 := x_R_both_11 hR hn hn2 (qE_ok (T := (μ0.1 61)) hpo).2.2.1 (by omega) h3
  exact x_R_either_11 hR hn hn2 (qE_ok (T := (μ0.1 61)) hpo).2.2.2.1 (by omega) h4

set_option maxRecDepth 100000 in
set_option maxHeartbeats 4000000 in
theorem x_open40_11 {g : zG} {μ0 : zMem} {n : Nat} (hR : μ0.2.2 = zR10) (hn : μ0.1 3 1 = nI n) (hn2 : n ≤ 120) {D k d p : Nat} {c : qC} {μ : zMem} (hk6 : k + 1 ≤ 6) (hd : D + 6 ≤ d) (hD : 1 ≤ D) (HO : ∀ (d p : Nat) (c : qC) (μ : zMem), D ≤ d → p ≤ n → c.length ≤ p → rS 11 89 90 μ0 p c μ → zM g d R_one [.ref 3, .int (nI (6 - k))] μ (rQ 11 89 90 μ0 c (qO (μ0.1 61) n k p))) (hp : p < n) (hl : c.length ≤ p) (hs : rS 11 89 90 μ0 p c μ) : zM g d R_opened [.ref 3, .int 40, .int (nI (6 - (k + 1)))] μ (rQ 11 89 90 μ0 c (match qE (μ0.1 61) n (qO (μ0.1 61) n k) (p + 1) with | .inl q => .inl q | .inr (q, c, e) => if qnx (μ0.1 61) n q = 41 then .inr (q + 1, c, e) else .inl q)) := by
  refine zM_of (by decide +kernel) rfl rfl (Nat.le_of_ble_eq_true rfl) rfl ?_
  obtain ⟨m1, m2, R⟩ := μ
  obtain rfl : R = zR10 := hs.f.R hR
  have ho1 : nI (6 - (k + 1)) + 1 = nI (6 - k) := by rw [nI_1]; congr 1; omega
  have hlt6 : nI (6 - (k + 1)) < 6 := nI_lt (b := 6) (by omega) (by omega)
  have hs1 := hs.adv (Or.inl ⟨rfl, rfl, rfl⟩)
  have hin := (qE_ok (T := (μ0.1 61)) (qO_ok (μ0.1 61) n k)).2.2.2.2 (p + 1)
  refine zb R_opened_s0 rfl ?_
  refine z_clt R_opened_d3 (tgt := 8) rfl (fun h3 => ?_) (fun h3 => absurd hlt6 h3)
  refine zb R_opened_s8 rfl ?_
  rw [show ((m1, m2, zR10) : zMem).1 3 2 = nI p from hs.2.1, nI_1]
  refine z_cne R_opened_d21 (tgt := 49) rfl (fun h21 => absurd rfl h21) (fun h21 => ?_)
  refine zb R_opened_s24 rfl ?_
  rw [ho1]
  refine zcallV R_opened_d28 k7_42 (by omega) (x_eith_11 hR hn hn2 hD HO (d - 1) (p + 1) c _ (by omega) (by omega) (by omega) hs1) rfl rfl rfl (Nat.le_of_ble_eq_true rfl) ?_
  rintro v μ1 hv
  cases hr : qE (μ0.1 61) n (qO (μ0.1 61) n k) (p + 1) with
  | inl q2 =>
    rw [hr] at hv
    obtain rfl := hv.1
    refine z_eq R_opened_d31 (tgt := 47) rfl (fun h31 => ?_) (fun h31 => absurd rfl h31)
    refine zb R_opened_s47 rfl ?_
    refine z_retZ R_opened_d48 rfl (by first | exact Or.inl rfl | exact Or.inr rfl) ?_
    exact ⟨rfl, hv.2⟩
  | inr z =>
    obtain ⟨q2, c2, e2⟩ := z
    rw [hr] at hv hin
    obtain rfl := hv.1
    have hq2 : q2 ≤ n := hin.2.1
    dsimp only
    by_cases h41 : qnx (μ0.1 61) n q2 = 41
    · rw [if_pos h41]
      refine z_eq R_opened_d31 (tgt := 47) rfl (fun h31 => absurd h31 (by decide)) (fun h31 => ?_)
      refine zb R_opened_s34 rfl ?_
      refine zcallV R_opened_d37 k7_34 (by omega) (x_take_y (by omega) (Or.inl ⟨rfl, rfl, rfl⟩) hn hn2 (by omega) hv.2 h41) rfl rfl rfl (Nat.le_of_ble_eq_true rfl) ?_
      rintro _ μ2 ⟨rfl, hs2⟩
      refine z_eq R_opened_d40 (tgt := 47) rfl (fun h40 => absurd h40 (by decide)) (fun h40 => ?_)
      refine zb R_opened_s43 rfl ?_
      refine z_retZ R_opened_d48 rfl (by first | exact Or.inl rfl | exact Or.inr rfl) ?_
      exact ⟨rfl, hs2⟩
    · rw [if_neg h41]
      refine z_eq R_opened_d31 (tgt := 47) rfl (fun h31 => absurd h31 (by decide)) (fun h31 => ?_)
      refine zb R_opened_s34 rfl ?_
      refine zcallV R_opened_d37 k7_34 (by omega) (x_take_n (by omega) (Or.inl ⟨rfl, rfl, rfl⟩) hn hn2 (by omega) hv.2.f h41) rfl rfl rfl (Nat.le_of_ble_eq_true rfl) ?_
      rintro _ μx ⟨rfl, hx⟩
      rw [hx]
      clear hx μx
      refine z_eq R_opened_d40 (tgt := 47) rfl (fun h40 => ?_) (fun h40 => absurd rfl h40)
      refine zb R_opened_s47 rfl ?_
      refine z_retZ R_opened_d48 rfl (by first | exact Or.inl rfl | exact Or.inr rfl) ?_
      exact ⟨rfl, hv.2.f⟩

set_option maxRecDepth 100000 in
set_option maxHeartbeats 4000000 in
theorem x_open33_11 {g : zG} {μ0 : zMem} {n : Nat} (hR : μ0.2.2 = zR10) (hn : μ0.1 3 1 = nI n) (hn2 : n ≤ 120) {D k d p : Nat} {c : qC} {μ : zMem} (hk6 : k + 1 ≤ 6) (hd : D + 6 ≤ d) (hD : 1 ≤ D) (HO : ∀ (d p : Nat) (c : qC) (μ : zMem), D ≤ d → p ≤ n → c.length ≤ p → rS 11 89 90 μ0 p c μ → zM g d R_one [.ref 3, .int (nI (6 - k))] μ (rQ 11 89 90 μ0 c (qO (μ0.1 61) n k p))) (hp : p < n) (hl : c.length ≤ p) (hs : rS 11 89 90 μ0 p c μ) : zM g d R_opened [.ref 3, .int 33, .int (nI (6 - (k + 1)))] μ (rQ 11 89 90 μ0 c (match qO (μ0.1 61) n k (p + 1) with | .inl q => .inl q | .inr (q, c, e) => .inr (q, c ++ [(33, 0)], fun ν => zB (e ν = 0)))) := by
  refine zM_of (by decide +kernel) rfl rfl (Nat.le_of_ble_eq_true rfl) rfl ?_
  obtain ⟨m1, m2, R⟩ := μ
  obtain rfl : R = zR10 := hs.f.R hR
  have ho1 : nI (6 - (k + 1)) + 1 = nI (6 - k) := by rw [nI_1]; congr 1; omega
  have hlt6 : nI (6 - (k + 1)) < 6 := nI_lt (b := 6) (by omega) (by omega)
  have hs1 := hs.adv (Or.inl ⟨rfl, rfl, rfl⟩)
  have hin := qO_ok (μ0.1 61) n k (p + 1)
  refine zb R_opened_s0 rfl ?_
  refine z_clt R_opened_d3 (tgt := 8) rfl (fun h3 => ?_) (fun h3 => absurd hlt6 h3)
  refine zb R_opened_s8 rfl ?_
  rw [show ((m1, m2, zR10) : zMem).1 3 2 = nI p from hs.2.1, nI_1]
  refine z_cne R_opened_d21 (tgt := 49) rfl (fun h21 => ?_) (fun h21 => absurd h21 (by decide))
  refine zb R_opened_s49 rfl ?_
  rw [ho1]
  refine zcallV R_opened_d53 k7_64 (by omega) (HO (d - 1) (p + 1) c _ (by omega) (by omega) (by omega) hs1) rfl rfl rfl (Nat.le_of_ble_eq_true rfl) ?_
  rintro v μ1 hv
  cases hr : qO (μ0.1 61) n k (p + 1) with
  | inl q2 =>
    rw [hr] at hv
    obtain rfl := hv.1
    refine z_ne R_opened_d56 (tgt := 61) rfl (fun h56 => absurd rfl h56) (fun h56 => ?_)
    refine zb R_opened_s59 rfl ?_
    refine z_retZ R_opened_d60 rfl (by first | exact Or.inl rfl | exact Or.inr rfl) ?_
    exact ⟨rfl, hv.2⟩
  | inr z =>
    obtain ⟨q2, c2, e2⟩ := z
    rw [hr] at hv hin
    obtain rfl := hv.1
    have hv2 := hv.2
    obtain ⟨m3, m4, R⟩ := μ1
    obtain rfl : R = zR10 := hv2.f.R hR
    refine z_ne R_opened_d56 (tgt := 61) rfl (fun h56 => ?_) (fun h56 => absurd h56 (by decide))
    refine zb R_opened_s61 rfl ?_
    refine z_cne R_opened_d68 (tgt := 76) rfl (fun h68 => ?_) (fun h68 => absurd h68 (by decide))
    refine zb R_opened_s76 rfl ?_
    refine zcallV R_opened_d78 k7_45 (by omega) (x_add_11 (by simp only [List.length_append]; omega) hv2) rfl rfl rfl (Nat.le_of_ble_eq_true rfl) ?_
    rintro _ μ2 ⟨rfl, hs2⟩
    refine zb R_opened_s81 rfl ?_
    refine z_retZ R_opened_d82 rfl (by first | exact Or.inl rfl | exact Or.inr rfl) ?_
    simp only [List.append_assoc] at hs2 ⊢
    exact ⟨rfl, hs2⟩

set_option maxRecDepth 100000 in
set_option maxHeartbeats 4000000 in
theorem x_open45_11 {g : zG} {μ0 : zMem} {n : Nat} (hR : μ0.2.2 = zR10) (hn : μ0.1 3 1 = nI n) (hn2 : n ≤ 120) {D k d p : Nat} {c : qC} {μ : zMem} (hk6 : k + 1 ≤ 6) (hd : D + 6 ≤ d) (hD : 1 ≤ D) (HO : ∀ (d p : Nat) (c : qC) (μ : zMem), D ≤ d → p ≤ n → c.length ≤ p → rS 11 89 90 μ0 p c μ → zM g d R_one [.ref 3, .int (nI (6 - k))] μ (rQ 11 89 90 μ0 c (qO (μ0.1 61) n k p))) (hp : p < n) (hl : c.length ≤ p) (hs : rS 11 89 90 μ0 p c μ) : zM g d R_opened [.ref 3, .int 45, .int (nI (6 - (k + 1)))] μ (rQ 11 89 90 μ0 c (match qO (μ0.1 61) n k (p + 1) with | .inl q => .inl q | .inr (q, c, e) => .inr (q, c ++ [(126, 0)], fun ν => - e ν))) := by
  refine zM_of (by decide +kernel) rfl rfl (Nat.le_of_ble_eq_true rfl) rfl ?_
  obtain ⟨m1, m2, R⟩ := μ
  obtain rfl : R = zR10 := hs.f.R hR
  have ho1 : nI (6 - (k + 1)) + 1 = nI (6 - k) := by rw [nI_1]; congr 1; omega
  have hlt6 : nI (6 - (k + 1)) < 6 := nI_lt (b := 6) (by omega) (by omega)
  have hs1 := hs.adv (Or.inl ⟨rfl, rfl, rfl⟩)
  have hin := qO_ok (μ0.1 61) n k (p + 1)
  refine zb R_opened_s0 rfl ?_
  refine z_clt R_opened_d3 (tgt := 8) rfl (fun h3 => ?_) (fun h3 => absurd hlt6 h3)
  refine zb R_opened_s8 rfl ?_
  rw [show ((m1, m2, zR10) : zMem).1 3 2 = nI p from hs.2.1, nI_1]
  refine z_cne R_opened_d21 (tgt := 49) rfl (fun h21 => ?_) (fun h21 => absurd h21 (by decide))
  refine zb R_opened_s49 rfl ?_
  rw [ho1]
  refine zcallV R_opened_d53 k7_64 (by omega) (HO (d - 1) (p + 1) c _ (by omega) (by omega) (by omega) hs1) rfl rfl rfl (Nat.le_of_ble_eq_true rfl) ?_
  rintro v μ1 hv
  cases hr : qO (μ0.1 61) n k (p + 1) with
  | inl q2 =>
    rw [hr] at hv
    obtain rfl := hv.1
    refine z_ne R_opened_d56 (tgt := 61) rfl (fun h56 => absurd rfl h56) (fun h56 => ?_)
    refine zb R_opened_s59 rfl ?_
    refine z_retZ R_opened_d60 rfl (by first | exact Or.inl rfl | exact Or.inr rfl) ?_
    exact ⟨rfl, hv.2⟩
  | inr z =>
    obtain ⟨q2, c2, e2⟩ := z
    rw [hr] at hv hin
    obtain rfl := hv.1
    have hv2 := hv.2
    obtain ⟨m3, m4, R⟩ := μ1
    obtain rfl : R = zR10 := hv2.f.R hR
    refine z_ne R_opened_d56 (tgt := 61) rfl (fun h56 => ?_) (fun h56 => absurd h56 (by decide))
    refine zb R_opened_s61 rfl ?_
    refine z_cne R_opened_d68 (tgt := 76) rfl (fun h68 => absurd rfl h68) (fun h68 => ?_)
    refine zb R_opened_s71 rfl ?_
    refine zcallV R_opened_d78 k7_45 (by omega) (x_add_11 (by simp only [List.length_append]; omega) hv2) rfl rfl rfl (Nat.le_of_ble_eq_true rfl) ?_
    rintro _ μ2 ⟨rfl, hs2⟩
    refine zb R_opened_s81 rfl ?_
    refine z_retZ R_opened_d82 rfl (by first | exact Or.inl rfl | exact Or.inr rfl) ?_
    simp only [List.append_assoc] at hs2 ⊢
    exact ⟨rfl, hs2⟩

set_option maxRecDepth 100000 in
set_option maxHeartbeats 4000000 in
theorem x_open0_11 {g : zG} {d : Nat} {s : Int32} {μ : zMem} : zM g d R_opened [.ref 3, .int s, .int 6] μ (fun v μ' => v = some (.int 0) ∧ μ' = μ) := by
  refine zM_of (by decide +kernel) rfl rfl (Nat.le_of_ble_eq_true rfl) rfl ?_
  refine zb R_opened_s0 rfl ?_
  refine z_clt R_opened_d3 (tgt := 8) rfl (fun h3 => absurd h3 (by decide)) (fun h3 => ?_)
  refine zb R_opened_s6 rfl ?_
  refine z_retZ R_opened_d7 rfl (by first | exact Or.inl rfl | exact Or.inr rfl) ?_
  exact ⟨rfl, rfl⟩

set_option maxRecDepth 100000 in
set_option maxHeartbeats 4000000 in
theorem w_one48_11 {g : zG} {μ0 : zMem} {n : Nat} (hR : μ0.2.2 = zR10) (hn : μ0.1 3 1 = nI n) (hn2 : n ≤ 120) (hb : ∀ i, i < n → 0 ≤ μ0.1 61 i ∧ μ0.1 61 i ≤ 255) {d p : Nat} {c : qC} {μ : zMem} {z : Int32} (hd : 4 ≤ d) (hp : p ≤ n) (hl : c.length ≤ p) (hs : rS 11 89 90 μ0 p c μ) : zW g R_one d 48 [some (.ref 3), some (.int z), some (.int (qnx (μ0.1 61) n p)), none] [] μ (rQ 11 89 90 μ0 c (match qnm (qnx (μ0.1 61) n p) with | some i => .inr (p + 1, [(97, nI i)], fun ν => ν i) | none => .inl p)) := by
  obtain ⟨m1, m2, R⟩ := μ
  obtain rfl : R = zR10 := hs.f.R hR
  refine zb R_one_s48 rfl ?_
  cases hnm : qnm (qnx (μ0.1 61) n p) with
  | some i =>
    have hh := qnm_hi hnm
    have hi6 := (qnm_lt hnm).1
    have hq1 : p < n := qnx_lt (qnm_lt hnm).2
    obtain ⟨k9, hk9, ek⟩ := letb hb hh.2
    refine z_ge R_one_d49 (tgt := 56) rfl (fun h49 => ?_) (fun h49 => absurd (Int32.not_lt.mp hh.2) h49)
    refine zldS R_one_d56 rfl ?_
    refine zb R_one_s58 rfl ?_
    rw [ek, i2c_byte ⟨k9, hk9⟩]
    refine zcallJ (av := [.int (nI k9)]) R_one_d60 kJ_76 (by omega) (x_indexOf (by omega) hk9) rfl rfl (Nat.le_of_ble_eq_true rfl) ?_
    rintro _ μx ⟨rfl, hx⟩
    rw [hx]
    clear hx μx
    rw [← ek]
    rw [qnmI_some hnm]
    refine zb R_one_s63 rfl ?_
    refine z_ge R_one_d65 (tgt := 70) rfl (fun h65 => ?_) (fun h65 => absurd (nI_pos' (by omega)) h65)
    refine zb R_one_s70 rfl ?_
    rw [show ((m1, m2, zR10) : zMem).1 3 2 = nI p from hs.2.1, nI_1]
    refine zcallV R_one_d87 k7_45 (by omega) (x_add_11 (by omega) (hs.adv (Or.inl ⟨rfl, rfl, rfl⟩))) rfl rfl rfl (Nat.le_of_ble_eq_true rfl) ?_
    rintro _ μ2 ⟨rfl, hs2⟩
    refine zb R_one_s90 rfl ?_
    refine z_retZ R_one_d91 rfl (by first | exact Or.inl rfl | exact Or.inr rfl) ?_
    exact ⟨rfl, hs2⟩
  | none =>
    refine z_ge R_one_d49 (tgt := 56) rfl (fun h49 => ?_) (fun h49 => ?_)
    · obtain ⟨k9, hk9, ek⟩ := letb hb (Int32.not_lt.mpr h49)
      refine zldS R_one_d56 rfl ?_
      refine zb R_one_s58 rfl ?_
      rw [ek, i2c_byte ⟨k9, hk9⟩]
      refine zcallJ (av := [.int (nI k9)]) R_one_d60 kJ_76 (by omega) (x_indexOf (by omega) hk9) rfl rfl (Nat.le_of_ble_eq_true rfl) ?_
      rintro _ μx ⟨rfl, hx⟩
      rw [hx]
      clear hx μx
      rw [← ek]
      rw [qnmI_none hnm]
      refine zb R_one_s63 rfl ?_
      refine z_ge R_one_d65 (tgt := 70) rfl (fun h65 => absurd h65 (by decide)) (fun h65 => ?_)
      refine zb R_one_s68 rfl ?_
      refine z_retZ R_one_d69 rfl (by first | exact Or.inl rfl | exact Or.inr rfl) ?_
      exact ⟨rfl, hs.f⟩
    · refine zb R_one_s52 rfl ?_
      refine z_ge R_one_d65 (tgt := 70) rfl (fun h65 => absurd h65 (by decide)) (fun h65 => ?_)
      refine zb R_one_s68 rfl ?_
      refine z_retZ R_one_d69 rfl (by first | exact Or.inl rfl | exact Or.inr rfl) ?_
      exact ⟨rfl, hs.f⟩

set_option maxRecDepth 100000 in
set_option maxHeartbeats 4000000 in
theorem x_one_11 {g : zG} {μ0 : zMem} {n : Nat} (hR : μ0.2.2 = zR10) (hn : μ0.1 3 1 = nI n) (hn2 : n ≤ 120) (hb : ∀ i, i < n → 0 ≤ μ0.1 61 i ∧ μ0.1 61 i ≤ 255) : ∀ k, k ≤ 6 → ∀ (d p : Nat) (c : qC) (μ : zMem), 5 + 7 * k ≤ d → p ≤ n → c.length ≤ p → rS 11 89 90 μ0 p c μ → zM g d R_one [.ref 3, .int (nI (6 - k))] μ (rQ 11 89 90 μ0 c (qO (μ0.1 61) n k p)) := by
  intro k
  induction k with
  | zero =>
    intro hk6 d p c μ hd hp hl hs
    refine zM_of (by decide +kernel) rfl rfl (Nat.le_of_ble_eq_true rfl) rfl ?_
    simp only [qO]
    by_cases hdg : qdig (qnx (μ0.1 61) n p)
    · rw [if_pos hdg]
      have n40 : ¬ qnx (μ0.1 61) n p = 40 := fun e => by rw [e] at hdg; exact absurd hdg (by unfold qdig; decide)
      have n33 : ¬ qnx (μ0.1 61) n p = 33 := fun e => by rw [e] at hdg; exact absurd hdg (by unfold qdig; decide)
      have n45 : ¬ qnx (μ0.1 61) n p = 45 := fun e => by rw [e] at hdg; exact absurd hdg (by unfold qdig; decide)
      refine zb R_one_s0 rfl ?_
      refine zcallV R_one_d1 k7_38 (by omega) (x_next (Or.inl ⟨rfl, rfl, rfl⟩) hn hn2 (by omega) hs.f) rfl rfl rfl (Nat.le_of_ble_eq_true rfl) ?_
      rintro _ μx ⟨rfl, hx⟩
      rw [hx]
      clear hx μx
      refine zb R_one_s4 rfl ?_
      refine z_ceq R_one_d8 (tgt := 23) rfl (fun h8 => absurd h8 n40) (fun h8 => ?_)
      refine zb R_one_s11 rfl ?_
      refine z_ceq R_one_d14 (tgt := 23) rfl (fun h14 => absurd h14 n33) (fun h14 => ?_)
      refine zb R_one_s17 rfl ?_
      refine z_cne R_one_d20 (tgt := 30) rfl (fun h20 => ?_) (fun h20 => absurd h20 n45)
      refine zb R_one_s30 rfl ?_
      refine z_clt R_one_d33 (tgt := 48) rfl (fun h33 => absurd h33 (Int32.not_lt.mpr hdg.1)) (fun h33 => ?_)
      refine zb R_one_s36 rfl ?_
      refine z_cgt R_one_d39 (tgt := 48) rfl (fun h39 => absurd h39 (Int32.not_lt.mpr hdg.2)) (fun h39 => ?_)
      refine zb R_one_s42 rfl ?_
      refine zcallV R_one_d43 k7_71 (by omega) (x_number_11 hR hn hn2 (by omega) hp hl hs) rfl rfl rfl (Nat.le_of_ble_eq_true rfl) ?_
      rintro _ μ2 ⟨rfl, hs2⟩
      refine zb R_one_s46 rfl ?_
      refine z_retZ R_one_d47 rfl (by first | exact Or.inl rfl | exact Or.inr rfl) ?_
      exact ⟨rfl, hs2⟩
    · rw [if_neg hdg]
      by_cases n40 : qnx (μ0.1 61) n p = 40
      · rw [show qnm (qnx (μ0.1 61) n p) = none by rw [n40]; rfl]
        refine zb R_one_s0 rfl ?_
        refine zcallV R_one_d1 k7_38 (by omega) (x_next (Or.inl ⟨rfl, rfl, rfl⟩) hn hn2 (by omega) hs.f) rfl rfl rfl (Nat.le_of_ble_eq_true rfl) ?_
        rintro _ μx ⟨rfl, hx⟩
        rw [hx]
        clear hx μx
        refine zb R_one_s4 rfl ?_
        refine z_ceq R_one_d8 (tgt := 23) rfl (fun h8 => ?_) (fun h8 => absurd n40 h8)
        refine zb R_one_s23 rfl ?_
        refine zcallV R_one_d26 k7_67 (by omega) (x_open0_11) rfl rfl rfl (Nat.le_of_ble_eq_true rfl) ?_
        rintro _ μx ⟨rfl, hx⟩
        rw [hx]
        clear hx μx
        refine z_retZ R_one_d29 rfl (Or.inl rfl) ?_
        exact ⟨rfl, hs.f⟩
      · by_cases n33 : qnx (μ0.1 61) n p = 33
        · rw [show qnm (qnx (μ0.1 61) n p) = none by rw [n33]; rfl]
          refine zb R_one_s0 rfl ?_
          refine zcallV R_one_d1 k7_38 (by omega) (x_next (Or.inl ⟨rfl, rfl, rfl⟩) hn hn2 (by omega) hs.f) rfl rfl rfl (Nat.le_of_ble_eq_true rfl) ?_
          rintro _ μx ⟨rfl, hx⟩
          rw [hx]
          clear hx μx
          refine zb R_one_s4 rfl ?_
          refine z_ceq R_one_d8 (tgt := 23) rfl (fun h8 => absurd h8 n40) (fun h8 => ?_)
          refine zb R_one_s11 rfl ?_
          refine z_ceq R_one_d14 (tgt := 23) rfl (fun h14 => ?_) (fun h14 => absurd n33 h14)
          refine zb R_one_s23 rfl ?_
          refine zcallV R_one_d26 k7_67 (by omega) (x_open0_11) rfl rfl rfl (Nat.le_of_ble_eq_true rfl) ?_
          rintro _ μx ⟨rfl, hx⟩
          rw [hx]
          clear hx μx
          refine z_retZ R_one_d29 rfl (Or.inl rfl) ?_
          exact ⟨rfl, hs.f⟩
        · by_cases n45 : qnx (μ0.1 61) n p = 45
          · rw [show qnm (qnx (μ0.1 61) n p) = none by rw [n45]; rfl]
            refine zb R_one_s0 rfl ?_
            refine zcallV R_one_d1 k7_38 (by omega) (x_next (Or.inl ⟨rfl, rfl, rfl⟩) hn hn2 (by omega) hs.f) rfl rfl rfl (Nat.le_of_ble_eq_true rfl) ?_
            rintro _ μx ⟨rfl, hx⟩
            rw [hx]
            clear hx μx
            refine zb R_one_s4 rfl ?_
            refine z_ceq R_one_d8 (tgt := 23) rfl (fun h8 => absurd h8 n40) (fun h8 => ?_)
            refine zb R_one_s11 rfl ?_
            refine z_ceq R_one_d14 (tgt := 23) rfl (fun h14 => absurd h14 n33) (fun h14 => ?_)
            refine zb R_one_s17 rfl ?_
            refine z_cne R_one_d20 (tgt := 30) rfl (fun h20 => absurd n45 h20) (fun h20 => ?_)
            refine zb R_one_s23 rfl ?_
            refine zcallV R_one_d26 k7_67 (by omega) (x_open0_11) rfl rfl rfl (Nat.le_of_ble_eq_true rfl) ?_
            rintro _ μx ⟨rfl, hx⟩
            rw [hx]
            clear hx μx
            refine z_retZ R_one_d29 rfl (Or.inl rfl) ?_
            exact ⟨rfl, hs.f⟩
          · refine zb R_one_s0 rfl ?_
            refine zcallV R_one_d1 k7_38 (by omega) (x_next (Or.inl ⟨rfl, rfl, rfl⟩) hn hn2 (by omega) hs.f) rfl rfl rfl (Nat.le_of_ble_eq_true rfl) ?_
            rintro _ μx ⟨rfl, hx⟩
            rw [hx]
            clear hx μx
            refine zb R_one_s4 rfl ?_
            refine z_ceq R_one_d8 (tgt := 23) rfl (fun h8 => absurd h8 n40) (fun h8 => ?_)
            refine zb R_one_s11 rfl ?_
            refine z_ceq R_one_d14 (tgt := 23) rfl (fun h14 => absurd h14 n33) (fun h14 => ?_)
            refine zb R_one_s17 rfl ?_
            refine z_cne R_one_d20 (tgt := 30) rfl (fun h20 => ?_) (fun h20 => absurd h20 n45)
            refine zb R_one_s30 rfl ?_
            refine z_clt R_one_d33 (tgt := 48) rfl (fun h33 => ?_) (fun h33 => ?_)
            · exact w_one48_11 hR hn hn2 hb (by omega) hp hl hs
            · refine zb R_one_s36 rfl ?_
              refine z_cgt R_one_d39 (tgt := 48) rfl (fun h39 => ?_) (fun h39 => ?_)
              · exact w_one48_11 hR hn hn2 hb (by omega) hp hl hs
              · exact absurd (show qdig _ from And.intro (Int32.not_lt.mp h33) (Int32.not_lt.mp h39)) hdg
  | succ k ih =>
    intro hk6 d p c μ hd hp hl hs
    refine zM_of (by decide +kernel) rfl rfl (Nat.le_of_ble_eq_true rfl) rfl ?_
    simp only [qO]
    by_cases hdg : qdig (qnx (μ0.1 61) n p)
    · rw [if_pos hdg]
      have n40 : ¬ qnx (μ0.1 61) n p = 40 := fun e => by rw [e] at hdg; exact absurd hdg (by unfold qdig; decide)
      have n33 : ¬ qnx (μ0.1 61) n p = 33 := fun e => by rw [e] at hdg; exact absurd hdg (by unfold qdig; decide)
      have n45 : ¬ qnx (μ0.1 61) n p = 45 := fun e => by rw [e] at hdg; exact absurd hdg (by unfold qdig; decide)
      refine zb R_one_s0 rfl ?_
      refine zcallV R_one_d1 k7_38 (by omega) (x_next (Or.inl ⟨rfl, rfl, rfl⟩) hn hn2 (by omega) hs.f) rfl rfl rfl (Nat.le_of_ble_eq_true rfl) ?_
      rintro _ μx ⟨rfl, hx⟩
      rw [hx]
      clear hx μx
      refine zb R_one_s4 rfl ?_
      refine z_ceq R_one_d8 (tgt := 23) rfl (fun h8 => absurd h8 n40) (fun h8 => ?_)
      refine zb R_one_s11 rfl ?_
      refine z_ceq R_one_d14 (tgt := 23) rfl (fun h14 => absurd h14 n33) (fun h14 => ?_)
      refine zb R_one_s17 rfl ?_
      refine z_cne R_one_d20 (tgt := 30) rfl (fun h20 => ?_) (fun h20 => absurd h20 n45)
      refine zb R_one_s30 rfl ?_
      refine z_clt R_one_d33 (tgt := 48) rfl (fun h33 => absurd h33 (Int32.not_lt.mpr hdg.1)) (fun h33 => ?_)
      refine zb R_one_s36 rfl ?_
      refine z_cgt R_one_d39 (tgt := 48) rfl (fun h39 => absurd h39 (Int32.not_lt.mpr hdg.2)) (fun h39 => ?_)
      refine zb R_one_s42 rfl ?_
      refine zcallV R_one_d43 k7_71 (by omega) (x_number_11 hR hn hn2 (by omega) hp hl hs) rfl rfl rfl (Nat.le_of_ble_eq_true rfl) ?_
      rintro _ μ2 ⟨rfl, hs2⟩
      refine zb R_one_s46 rfl ?_
      refine z_retZ R_one_d47 rfl (by first | exact Or.inl rfl | exact Or.inr rfl) ?_
      exact ⟨rfl, hs2⟩
    · rw [if_neg hdg]
      cases hnm : qnm (qnx (μ0.1 61) n p) with
      | some i =>
        obtain ⟨-, -, -, n33, n45, n40, -⟩ := qnm_facts hnm
        have hw := fun z => w_one48_11 (g := g) (d := d) (z := z) hR hn hn2 hb (by omega) hp hl hs
        rw [hnm] at hw
        refine zb R_one_s0 rfl ?_
        refine zcallV R_one_d1 k7_38 (by omega) (x_next (Or.inl ⟨rfl, rfl, rfl⟩) hn hn2 (by omega) hs.f) rfl rfl rfl (Nat.le_of_ble_eq_true rfl) ?_
        rintro _ μx ⟨rfl, hx⟩
        rw [hx]
        clear hx μx
        refine zb R_one_s4 rfl ?_
        refine z_ceq R_one_d8 (tgt := 23) rfl (fun h8 => absurd h8 n40) (fun h8 => ?_)
        refine zb R_one_s11 rfl ?_
        refine z_ceq R_one_d14 (tgt := 23) rfl (fun h14 => absurd h14 n33) (fun h14 => ?_)
        refine zb R_one_s17 rfl ?_
        refine z_cne R_one_d20 (tgt := 30) rfl (fun h20 => ?_) (fun h20 => absurd h20 n45)
        refine zb R_one_s30 rfl ?_
        refine z_clt R_one_d33 (tgt := 48) rfl (fun h33 => ?_) (fun h33 => ?_)
        · exact hw _
        · refine zb R_one_s36 rfl ?_
          refine z_cgt R_one_d39 (tgt := 48) rfl (fun h39 => ?_) (fun h39 => ?_)
          · exact hw _
          · exact absurd (show qdig _ from And.intro (Int32.not_lt.mp h33) (Int32.not_lt.mp h39)) hdg
      | none =>
        dsimp only
        by_cases n40 : qnx (μ0.1 61) n p = 40
        · rw [if_pos n40]
          have hq1 : p < n := qnx_lt (by rw [n40]; decide)
          refine zb R_one_s0 rfl ?_
          refine zcallV R_one_d1 k7_38 (by omega) (x_next (Or.inl ⟨rfl, rfl, rfl⟩) hn hn2 (by omega) hs.f) rfl rfl rfl (Nat.le_of_ble_eq_true rfl) ?_
          rintro _ μx ⟨rfl, hx⟩
          rw [hx]
          clear hx μx
          refine zb R_one_s4 rfl ?_
          refine z_ceq R_one_d8 (tgt := 23) rfl (fun h8 => ?_) (fun h8 => absurd n40 h8)
          refine zb R_one_s23 rfl ?_
          rw [n40]
          refine zcallV R_one_d26 k7_67 (by omega) (x_open40_11 hR hn hn2 hk6 (D := 5 + 7 * k) (by omega) (by omega) (ih (by omega)) hq1 hl hs) rfl rfl rfl (Nat.le_of_ble_eq_true rfl) ?_
          rintro v μ1 hv
          obtain ⟨w, rfl, hw⟩ := rQ_01 hv
          refine z_retZ R_one_d29 rfl hw ?_
          exact hv
        · rw [if_neg n40]
          by_cases n33 : qnx (μ0.1 61) n p = 33
          · rw [if_pos n33]
            have hq1 : p < n := qnx_lt (by rw [n33]; decide)
            refine zb R_one_s0 rfl ?_
            refine zcallV R_one_d1 k7_38 (by omega) (x_next (Or.inl ⟨rfl, rfl, rfl⟩) hn hn2 (by omega) hs.f) rfl rfl rfl (Nat.le_of_ble_eq_true rfl) ?_
            rintro _ μx ⟨rfl, hx⟩
            rw [hx]
            clear hx μx
            refine zb R_one_s4 rfl ?_
            refine z_ceq R_one_d8 (tgt := 23) rfl (fun h8 => absurd h8 n40) (fun h8 => ?_)
            refine zb R_one_s11 rfl ?_
            refine z_ceq R_one_d14 (tgt := 23) rfl (fun h14 => ?_) (fun h14 => absurd n33 h14)
            refine zb R_one_s23 rfl ?_
            rw [n33]
            refine zcallV R_one_d26 k7_67 (by omega) (x_open33_11 hR hn hn2 hk6 (D := 5 + 7 * k) (by omega) (by omega) (ih (by omega)) hq1 hl hs) rfl rfl rfl (Nat.le_of_ble_eq_true rfl) ?_
            rintro v μ1 hv
            obtain ⟨w, rfl, hw⟩ := rQ_01 hv
            refine z_retZ R_one_d29 rfl hw ?_
            exact hv
          · rw [if_neg n33]
            by_cases n45 : qnx (μ0.1 61) n p = 45
            · rw [if_pos n45]
              have hq1 : p < n := qnx_lt (by rw [n45]; decide)
              refine zb R_one_s0 rfl ?_
              refine zcallV R_one_d1 k7_38 (by omega) (x_next (Or.inl ⟨rfl, rfl, rfl⟩) hn hn2 (by omega) hs.f) rfl rfl rfl (Nat.le_of_ble_eq_true rfl) ?_
              rintro _ μx ⟨rfl, hx⟩
              rw [hx]
              clear hx μx
              refine zb R_one_s4 rfl ?_
              refine z_ceq R_one_d8 (tgt := 23) rfl (fun h8 => absurd h8 n40) (fun h8 => ?_)
              refine zb R_one_s11 rfl ?_
              refine z_ceq R_one_d14 (tgt := 23) rfl (fun h14 => absurd h14 n33) (fun h14 => ?_)
              refine zb R_one_s17 rfl ?_
              refine z_cne R_one_d20 (tgt := 30) rfl (fun h20 => absurd n45 h20) (fun h20 => ?_)
              refine zb R_one_s23 rfl ?_
              rw [n45]
              refine zcallV R_one_d26 k7_67 (by omega) (x_open45_11 hR hn hn2 hk6 (D := 5 + 7 * k) (by omega) (by omega) (ih (by omega)) hq1 hl hs) rfl rfl rfl (Nat.le_of_ble_eq_true rfl) ?_
              rintro v μ1 hv
              obtain ⟨w, rfl, hw⟩ := rQ_01 hv
              refine z_retZ R_one_d29 rfl hw ?_
              exact hv
            · rw [if_neg n45]
              have hw := fun z => w_one48_11 (g := g) (d := d) (z := z) hR hn hn2 hb (by omega) hp hl hs
              rw [hnm] at hw
              refine zb R_one_s0 rfl ?_
              refine zcallV R_one_d1 k7_38 (by omega) (x_next (Or.inl ⟨rfl, rfl, rfl⟩) hn hn2 (by omega) hs.f) rfl rfl rfl (Nat.le_of_ble_eq_true rfl) ?_
              rintro _ μx ⟨rfl, hx⟩
              rw [hx]
              clear hx μx
              refine zb R_one_s4 rfl ?_
              refine z_ceq R_one_d8 (tgt := 23) rfl (fun h8 => absurd h8 n40) (fun h8 => ?_)
              refine zb R_one_s11 rfl ?_
              refine z_ceq R_one_d14 (tgt := 23) rfl (fun h14 => absurd h14 n33) (fun h14 => ?_)
              refine zb R_one_s17 rfl ?_
              refine z_cne R_one_d20 (tgt := 30) rfl (fun h20 => ?_) (fun h20 => absurd h20 n45)
              refine zb R_one_s30 rfl ?_
              refine z_clt R_one_d33 (tgt := 48) rfl (fun h33 => ?_) (fun h33 => ?_)
              · exact hw _
              · refine zb R_one_s36 rfl ?_
                refine z_cgt R_one_d39 (tgt := 48) rfl (fun h39 => ?_) (fun h39 => ?_)
                · exact hw _
                · exact absurd (show qdig _ from And.intro (Int32.not_lt.mp h33) (Int32.not_lt.mp h39)) hdg

set_option maxRecDepth 100000 in
set_option maxHeartbeats 4000000 in
theorem w_number_10 {g : zG} {μ0 : zMem} {n : Nat} (hR : μ0.2.2 = zR11) (hn : μ0.1 3 1 = nI n) (hn2 : n ≤ 120) {d : Nat} (hd : 1 ≤ d) {c : qC} : ∀ (j i p : Nat) (v : Int32) (μ : zMem), i + j = 4 → p ≤ n → c.length ≤ p → rS 10 85 86 μ0 p c μ → zW g R_number d 4 [some (.ref 3), some (.int v), some (.int (nI i))] [] μ (fun r μ' => r = none ∧ rS 10 85 86 μ0 (qnum (μ0.1 61) n j p v).1 (c ++ [(35, (qnum (μ0.1 61) n j p v).2)]) μ') := by
  intro j
  induction j with
  | zero =>
    intro i p v μ hi hp hl hs
    obtain ⟨m1, m2, R⟩ := μ
    obtain rfl : R = zR11 := hs.f.R hR
    have hi : i = 4 := by omega
    subst hi
    refine zb R_number_s4 rfl ?_
    refine z_cge R_number_d6 (tgt := 56) rfl (fun h6 => ?_) (fun h6 => absurd (show (4 : Int32) ≤ nI 4 by decide) h6)
    refine zb R_number_s56 rfl ?_
    refine zcallV R_number_d63 k7_45 (by omega) (x_add_10 (by omega) hs) rfl rfl rfl (Nat.le_of_ble_eq_true rfl) ?_
    rintro _ μ2 ⟨rfl, hs2⟩
    refine z_retV R_number_d66 rfl ?_
    exact ⟨rfl, hs2⟩
  | succ j ih =>
    intro i p v μ hi hp hl hs
    obtain ⟨m1, m2, R⟩ := μ
    obtain rfl : R = zR11 := hs.f.R hR
    simp only [qnum]
    by_cases hdg : qdig (qnx (μ0.1 61) n p)
    · rw [if_pos hdg]
      have hq1 : p < n := qnx_lt (fun e => by rw [e] at hdg; exact absurd hdg.1 (by decide))
      have eT : qnx (μ0.1 61) n p = μ0.1 61 p := if_pos hq1
      refine zb R_number_s4 rfl ?_
      refine z_cge R_number_d6 (tgt := 56) rfl (fun h6 => absurd h6 (nI_ge (b := 4) (by omega) (by omega))) (fun h6 => ?_)
      refine zb R_number_s9 rfl ?_
      refine zcallV R_number_d10 k7_38 (by omega) (x_next (Or.inr ⟨rfl, rfl, rfl⟩) hn hn2 (by omega) hs.f) rfl rfl rfl (Nat.le_of_ble_eq_true rfl) ?_
      rintro _ μx ⟨rfl, hx⟩
      rw [hx]
      clear hx μx
      refine zb R_number_s13 rfl ?_
      refine z_clt R_number_d15 (tgt := 56) rfl (fun h15 => absurd h15 (Int32.not_lt.mpr hdg.1)) (fun h15 => ?_)
      refine zb R_number_s18 rfl ?_
      refine zcallV R_number_d19 k7_38 (by omega) (x_next (Or.inr ⟨rfl, rfl, rfl⟩) hn hn2 (by omega) hs.f) rfl rfl rfl (Nat.le_of_ble_eq_true rfl) ?_
      rintro _ μx ⟨rfl, hx⟩
      rw [hx]
      clear hx μx
      refine zb R_number_s22 rfl ?_
      refine z_cgt R_number_d24 (tgt := 56) rfl (fun h24 => absurd h24 (Int32.not_lt.mpr hdg.2)) (fun h24 => ?_)
      refine zb R_number_s27 rfl ?_
      refine zcallV R_number_d32 k7_38 (by omega) (x_next (Or.inr ⟨rfl, rfl, rfl⟩) hn hn2 (by omega) hs.f) rfl rfl rfl (Nat.le_of_ble_eq_true rfl) ?_
      rintro _ μx ⟨rfl, hx⟩
      rw [hx]
      clear hx μx
      refine zb R_number_s35 rfl ?_
      rw [eT, show ((m1, m2, zR11) : zMem).1 3 2 = nI p from hs.2.1, nI_1, nI_1]
      exact ih (i + 1) (p + 1) _ _ (by omega) hq1 (by omega) (hs.adv (Or.inr ⟨rfl, rfl, rfl⟩))
    · rw [if_neg hdg]
      refine zb R_number_s4 rfl ?_
      refine z_cge R_number_d6 (tgt := 56) rfl (fun h6 => absurd h6 (nI_ge (b := 4) (by omega) (by omega))) (fun h6 => ?_)
      refine zb R_number_s9 rfl ?_
      refine zcallV R_number_d10 k7_38 (by omega) (x_next (Or.inr ⟨rfl, rfl, rfl⟩) hn hn2 (by omega) hs.f) rfl rfl rfl (Nat.le_of_ble_eq_true rfl) ?_
      rintro _ μx ⟨rfl, hx⟩
      rw [hx]
      clear hx μx
      refine zb R_number_s13 rfl ?_
      refine z_clt R_number_d15 (tgt := 56) rfl (fun h15 => ?_) (fun h15 => ?_)
      · refine zb R_number_s56 rfl ?_
        refine zcallV R_number_d63 k7_45 (by omega) (x_add_10 (by omega) hs) rfl rfl rfl (Nat.le_of_ble_eq_true rfl) ?_
        rintro _ μ2 ⟨rfl, hs2⟩
        refine z_retV R_number_d66 rfl ?_
        exact ⟨rfl, hs2⟩
      · refine zb R_number_s18 rfl ?_
        refine zcallV R_number_d19 k7_38 (by omega) (x_next (Or.inr ⟨rfl, rfl, rfl⟩) hn hn2 (by omega) hs.f) rfl rfl rfl (Nat.le_of_ble_eq_true rfl) ?_
        rintro _ μx ⟨rfl, hx⟩
        rw [hx]
        clear hx μx
        refine zb R_number_s22 rfl ?_
        refine z_cgt R_number_d24 (tgt := 56) rfl (fun h24 => ?_) (fun h24 => absurd (And.intro (Int32.not_lt.mp h15) (Int32.not_lt.mp h24)) hdg)
        refine zb R_number_s56 rfl ?_
        refine zcallV R_number_d63 k7_45 (by omega) (x_add_10 (by omega) hs) rfl rfl rfl (Nat.le_of_ble_eq_true rfl) ?_
        rintro _ μ2 ⟨rfl, hs2⟩
        refine z_retV R_number_d66 rfl ?_
        exact ⟨rfl, hs2⟩

set_option maxRecDepth 100000 in
set_option maxHeartbeats 4000000 in
theorem x_number_10 {g : zG} {μ0 : zMem} {n : Nat} (hR : μ0.2.2 = zR11) (hn : μ0.1 3 1 = nI n) (hn2 : n ≤ 120) {d : Nat} (hd : 1 ≤ d) {c : qC} {p : Nat} {μ : zMem} (hp : p ≤ n) (hl : c.length ≤ p) (hs : rS 10 85 86 μ0 p c μ) : zM g d R_number [.ref 3] μ (fun r μ' => r = none ∧ rS 10 85 86 μ0 (qnum (μ0.1 61) n 4 p 0).1 (c ++ [(35, (qnum (μ0.1 61) n 4 p 0).2)]) μ') := by
  refine zM_of (by decide +kernel) rfl rfl (Nat.le_of_ble_eq_true rfl) rfl ?_
  refine zb R_number_s0 rfl ?_
  exact w_number_10 hR hn hn2 hd 4 0 p 0 μ (by omega) hp hl hs

set_option maxRecDepth 100000 in
set_option maxHeartbeats 4000000 in
theorem x_eith_10 {g : zG} {μ0 : zMem} {n : Nat} (hR : μ0.2.2 = zR11) (hn : μ0.1 3 1 = nI n) (hn2 : n ≤ 120) {D k : Nat} (hD : 1 ≤ D) (HO : ∀ (d p : Nat) (c : qC) (μ : zMem), D ≤ d → p ≤ n → c.length ≤ p → rS 10 85 86 μ0 p c μ → zM g d R_one [.ref 3, .int (nI (6 - k))] μ (rQ 10 85 86 μ0 c (qO (μ0.1 61) n k p))) : ∀ (d p : Nat) (c : qC) (μ : zMem), D + 5 ≤ d → p ≤ n → c.length ≤ p → rS 10 85 86 μ0 p c μ → zM g d R_either [.ref 3, .int (nI (6 - k))] μ (rQ 10 85 86 μ0 c (qE (μ0.1 61) n (qO (μ0.1 61) n k) p)) := by
  have hpo := qO_ok (μ0.1 61) n k
  have h1 := x_R_product_10 hR hn hn2 hpo HO
  have h2 := x_R_sum_10 hR hn hn2 (qE_ok (T := (μ0.1 61)) hpo).1 h1
  have h3 := x_R_compared_10 hR hn hn2 (qE_ok (T := (μ0.1 61)) hpo).2.1 h2
  have h4 := x_R_both_10 hR hn hn2 (qE_ok (T := (μ0.1 61)) hpo).2.2.1 (by omega) h3
  exact x_R_either_10 hR hn hn2 (qE_ok (T := (μ0.1 61)) hpo).2.2.2.1 (by omega) h4

set_option maxRecDepth 100000 in
set_option maxHeartbeats 4000000 in
theorem x_open40_10 {g : zG} {μ0 : zMem} {n : Nat} (hR : μ0.2.2 = zR11) (hn : μ0.1 3 1 = nI n) (hn2 : n ≤ 120) {D k d p : Nat} {c : qC} {μ : zMem} (hk6 : k + 1 ≤ 6) (hd : D + 6 ≤ d) (hD : 1 ≤ D) (HO : ∀ (d p : Nat) (c : qC) (μ : zMem), D ≤ d → p ≤ n → c.length ≤ p → rS 10 85 86 μ0 p c μ → zM g d R_one [.ref 3, .int (nI (6 - k))] μ (rQ 10 85 86 μ0 c (qO (μ0.1 61) n k p))) (hp : p < n) (hl : c.length ≤ p) (hs : rS 10 85 86 μ0 p c μ) : zM g d R_opened [.ref 3, .int 40, .int (nI (6 - (k + 1)))] μ (rQ 10 85 86 μ0 c (match qE (μ0.1 61) n (qO (μ0.1 61) n k) (p + 1) with | .inl q => .inl q | .inr (q, c, e) => if qnx (μ0.1 61) n q = 41 then .inr (q + 1, c, e) else .inl q)) := by
  refine zM_of (by decide +kernel) rfl rfl (Nat.le_of_ble_eq_true rfl) rfl ?_
  obtain ⟨m1, m2, R⟩ := μ
  obtain rfl : R = zR11 := hs.f.R hR
  have ho1 : nI (6 - (k + 1)) + 1 = nI (6 - k) := by rw [nI_1]; congr 1; omega
  have hlt6 : nI (6 - (k + 1)) < 6 := nI_lt (b := 6) (by omega) (by omega)
  have hs1 := hs.adv (Or.inr ⟨rfl, rfl, rfl⟩)
  have hin := (qE_ok (T := (μ0.1 61)) (qO_ok (μ0.1 61) n k)).2.2.2.2 (p + 1)
  refine zb R_opened_s0 rfl ?_
  refine z_clt R_opened_d3 (tgt := 8) rfl (fun h3 => ?_) (fun h3 => absurd hlt6 h3)
  refine zb R_opened_s8 rfl ?_
  rw [show ((m1, m2, zR11) : zMem).1 3 2 = nI p from hs.2.1, nI_1]
  refine z_cne R_opened_d21 (tgt := 49) rfl (fun h21 => absurd rfl h21) (fun h21 => ?_)
  refine zb R_opened_s24 rfl ?_
  rw [ho1]
  refine zcallV R_opened_d28 k7_42 (by omega) (x_eith_10 hR hn hn2 hD HO (d - 1) (p + 1) c _ (by omega) (by omega) (by omega) hs1) rfl rfl rfl (Nat.le_of_ble_eq_true rfl) ?_
  rintro v μ1 hv
  cases hr : qE (μ0.1 61) n (qO (μ0.1 61) n k) (p + 1) with
  | inl q2 =>
    rw [hr] at hv
    obtain rfl := hv.1
    refine z_eq R_opened_d31 (tgt := 47) rfl (fun h31 => ?_) (fun h31 => absurd rfl h31)
    refine zb R_opened_s47 rfl ?_
    refine z_retZ R_opened_d48 rfl (by first | exact Or.inl rfl | exact Or.inr rfl) ?_
    exact ⟨rfl, hv.2⟩
  | inr z =>
    obtain ⟨q2, c2, e2⟩ := z
    rw [hr] at hv hin
    obtain rfl := hv.1
    have hq2 : q2 ≤ n := hin.2.1
    dsimp only
    by_cases h41 : qnx (μ0.1 61) n q2 = 41
    · rw [if_pos h41]
      refine z_eq R_opened_d31 (tgt := 47) rfl (fun h31 => absurd h31 (by decide)) (fun h31 => ?_)
      refine zb R_opened_s34 rfl ?_
      refine zcallV R_opened_d37 k7_34 (by omega) (x_take_y (by omega) (Or.inr ⟨rfl, rfl, rfl⟩) hn hn2 (by omega) hv.2 h41) rfl rfl rfl (Nat.le_of_ble_eq_true rfl) ?_
      rintro _ μ2 ⟨rfl, hs2⟩
      refine z_eq R_opened_d40 (tgt := 47) rfl (fun h40 => absurd h40 (by decide)) (fun h40 => ?_)
      refine zb R_opened_s43 rfl ?_
      refine z_retZ R_opened_d48 rfl (by first | exact Or.inl rfl | exact Or.inr rfl) ?_
      exact ⟨rfl, hs2⟩
    · rw [if_neg h41]
      refine z_eq R_opened_d31 (tgt := 47) rfl (fun h31 => absurd h31 (by decide)) (fun h31 => ?_)
      refine zb R_opened_s34 rfl ?_
      refine zcallV R_opened_d37 k7_34 (by omega) (x_take_n (by omega) (Or.inr ⟨rfl, rfl, rfl⟩) hn hn2 (by omega) hv.2.f h41) rfl rfl rfl (Nat.le_of_ble_eq_true rfl) ?_
      rintro _ μx ⟨rfl, hx⟩
      rw [hx]
      clear hx μx
      refine z_eq R_opened_d40 (tgt := 47) rfl (fun h40 => ?_) (fun h40 => absurd rfl h40)
      refine zb R_opened_s47 rfl ?_
      refine z_retZ R_opened_d48 rfl (by first | exact Or.inl rfl | exact Or.inr rfl) ?_
      exact ⟨rfl, hv.2.f⟩

set_option maxRecDepth 100000 in
set_option maxHeartbeats 4000000 in
theorem x_open33_10 {g : zG} {μ0 : zMem} {n : Nat} (hR : μ0.2.2 = zR11) (hn : μ0.1 3 1 = nI n) (hn2 : n ≤ 120) {D k d p : Nat} {c : qC} {μ : zMem} (hk6 : k + 1 ≤ 6) (hd : D + 6 ≤ d) (hD : 1 ≤ D) (HO : ∀ (d p : Nat) (c : qC) (μ : zMem), D ≤ d → p ≤ n → c.length ≤ p → rS 10 85 86 μ0 p c μ → zM g d R_one [.ref 3, .int (nI (6 - k))] μ (rQ 10 85 86 μ0 c (qO (μ0.1 61) n k p))) (hp : p < n) (hl : c.length ≤ p) (hs : rS 10 85 86 μ0 p c μ) : zM g d R_opened [.ref 3, .int 33, .int (nI (6 - (k + 1)))] μ (rQ 10 85 86 μ0 c (match qO (μ0.1 61) n k (p + 1) with | .inl q => .inl q | .inr (q, c, e) => .inr (q, c ++ [(33, 0)], fun ν => zB (e ν = 0)))) := by
  refine zM_of (by decide +kernel) rfl rfl (Nat.le_of_ble_eq_true rfl) rfl ?_
  obtain ⟨m1, m2, R⟩ := μ
  obtain rfl : R = zR11 := hs.f.R hR
  have ho1 : nI (6 - (k + 1)) + 1 = nI (6 - k) := by rw [nI_1]; congr 1; omega
  have hlt6 : nI (6 - (k + 1)) < 6 := nI_lt (b := 6) (by omega) (by omega)
  have hs1 := hs.adv (Or.inr ⟨rfl, rfl, rfl⟩)
  have hin := qO_ok (μ0.1 61) n k (p + 1)
  refine zb R_opened_s0 rfl ?_
  refine z_clt R_opened_d3 (tgt := 8) rfl (fun h3 => ?_) (fun h3 => absurd hlt6 h3)
  refine zb R_opened_s8 rfl ?_
  rw [show ((m1, m2, zR11) : zMem).1 3 2 = nI p from hs.2.1, nI_1]
  refine z_cne R_opened_d21 (tgt := 49) rfl (fun h21 => ?_) (fun h21 => absurd h21 (by decide))
  refine zb R_opened_s49 rfl ?_
  rw [ho1]
  refine zcallV R_opened_d53 k7_64 (by omega) (HO (d - 1) (p + 1) c _ (by omega) (by omega) (by omega) hs1) rfl rfl rfl (Nat.le_of_ble_eq_true rfl) ?_
  rintro v μ1 hv
  cases hr : qO (μ0.1 61) n k (p + 1) with
  | inl q2 =>
    rw [hr] at hv
    obtain rfl := hv.1
    refine z_ne R_opened_d56 (tgt := 61) rfl (fun h56 => absurd rfl h56) (fun h56 => ?_)
    refine zb R_opened_s59 rfl ?_
    refine z_retZ R_opened_d60 rfl (by first | exact Or.inl rfl | exact Or.inr rfl) ?_
    exact ⟨rfl, hv.2⟩
  | inr z =>
    obtain ⟨q2, c2, e2⟩ := z
    rw [hr] at hv hin
    obtain rfl := hv.1
    have hv2 := hv.2
    obtain ⟨m3, m4, R⟩ := μ1
    obtain rfl : R = zR11 := hv2.f.R hR
    refine z_ne R_opened_d56 (tgt := 61) rfl (fun h56 => ?_) (fun h56 => absurd h56 (by decide))
    refine zb R_opened_s61 rfl ?_
    refine z_cne R_opened_d68 (tgt := 76) rfl (fun h68 => ?_) (fun h68 => absurd h68 (by decide))
    refine zb R_opened_s76 rfl ?_
    refine zcallV R_opened_d78 k7_45 (by omega) (x_add_10 (by simp only [List.length_append]; omega) hv2) rfl rfl rfl (Nat.le_of_ble_eq_true rfl) ?_
    rintro _ μ2 ⟨rfl, hs2⟩
    refine zb R_opened_s81 rfl ?_
    refine z_retZ R_opened_d82 rfl (by first | exact Or.inl rfl | exact Or.inr rfl) ?_
    simp only [List.append_assoc] at hs2 ⊢
    exact ⟨rfl, hs2⟩

set_option maxRecDepth 100000 in
set_option maxHeartbeats 4000000 in
theorem x_open45_10 {g : zG} {μ0 : zMem} {n : Nat} (hR : μ0.2.2 = zR11) (hn : μ0.1 3 1 = nI n) (hn2 : n ≤ 120) {D k d p : Nat} {c : qC} {μ : zMem} (hk6 : k + 1 ≤ 6) (hd : D + 6 ≤ d) (hD : 1 ≤ D) (HO : ∀ (d p : Nat) (c : qC) (μ : zMem), D ≤ d → p ≤ n → c.length ≤ p → rS 10 85 86 μ0 p c μ → zM g d R_one [.ref 3, .int (nI (6 - k))] μ (rQ 10 85 86 μ0 c (qO (μ0.1 61) n k p))) (hp : p < n) (hl : c.length ≤ p) (hs : rS 10 85 86 μ0 p c μ) : zM g d R_opened [.ref 3, .int 45, .int (nI (6 - (k + 1)))] μ (rQ 10 85 86 μ0 c (match qO (μ0.1 61) n k (p + 1) with | .inl q => .inl q | .inr (q, c, e) => .inr (q, c ++ [(126, 0)], fun ν => - e ν))) := by
  refine zM_of (by decide +kernel) rfl rfl (Nat.le_of_ble_eq_true rfl) rfl ?_
  obtain ⟨m1, m2, R⟩ := μ
  obtain rfl : R = zR11 := hs.f.R hR
  have ho1 : nI (6 - (k + 1)) + 1 = nI (6 - k) := by rw [nI_1]; congr 1; omega
  have hlt6 : nI (6 - (k + 1)) < 6 := nI_lt (b := 6) (by omega) (by omega)
  have hs1 := hs.adv (Or.inr ⟨rfl, rfl, rfl⟩)
  have hin := qO_ok (μ0.1 61) n k (p + 1)
  refine zb R_opened_s0 rfl ?_
  refine z_clt R_opened_d3 (tgt := 8) rfl (fun h3 => ?_) (fun h3 => absurd hlt6 h3)
  refine zb R_opened_s8 rfl ?_
  rw [show ((m1, m2, zR11) : zMem).1 3 2 = nI p from hs.2.1, nI_1]
  refine z_cne R_opened_d21 (tgt := 49) rfl (fun h21 => ?_) (fun h21 => absurd h21 (by decide))
  refine zb R_opened_s49 rfl ?_
  rw [ho1]
  refine zcallV R_opened_d53 k7_64 (by omega) (HO (d - 1) (p + 1) c _ (by omega) (by omega) (by omega) hs1) rfl rfl rfl (Nat.le_of_ble_eq_true rfl) ?_
  rintro v μ1 hv
  cases hr : qO (μ0.1 61) n k (p + 1) with
  | inl q2 =>
    rw [hr] at hv
    obtain rfl := hv.1
    refine z_ne R_opened_d56 (tgt := 61) rfl (fun h56 => absurd rfl h56) (fun h56 => ?_)
    refine zb R_opened_s59 rfl ?_
    refine z_retZ R_opened_d60 rfl (by first | exact Or.inl rfl | exact Or.inr rfl) ?_
    exact ⟨rfl, hv.2⟩
  | inr z =>
    obtain ⟨q2, c2, e2⟩ := z
    rw [hr] at hv hin
    obtain rfl := hv.1
    have hv2 := hv.2
    obtain ⟨m3, m4, R⟩ := μ1
    obtain rfl : R = zR11 := hv2.f.R hR
    refine z_ne R_opened_d56 (tgt := 61) rfl (fun h56 => ?_) (fun h56 => absurd h56 (by decide))
    refine zb R_opened_s61 rfl ?_
    refine z_cne R_opened_d68 (tgt := 76) rfl (fun h68 => absurd rfl h68) (fun h68 => ?_)
    refine zb R_opened_s71 rfl ?_
    refine zcallV R_opened_d78 k7_45 (by omega) (x_add_10 (by simp only [List.length_append]; omega) hv2) rfl rfl rfl (Nat.le_of_ble_eq_true rfl) ?_
    rintro _ μ2 ⟨rfl, hs2⟩
    refine zb R_opened_s81 rfl ?_
    refine z_retZ R_opened_d82 rfl (by first | exact Or.inl rfl | exact Or.inr rfl) ?_
    simp only [List.append_assoc] at hs2 ⊢
    exact ⟨rfl, hs2⟩

set_option maxRecDepth 100000 in
set_option maxHeartbeats 4000000 in
theorem x_open0_10 {g : zG} {d : Nat} {s : Int32} {μ : zMem} : zM g d R_opened [.ref 3, .int s, .int 6] μ (fun v μ' => v = some (.int 0) ∧ μ' = μ) := by
  refine zM_of (by decide +kernel) rfl rfl (Nat.le_of_ble_eq_true rfl) rfl ?_
  refine zb R_opened_s0 rfl ?_
  refine z_clt R_opened_d3 (tgt := 8) rfl (fun h3 => absurd h3 (by decide)) (fun h3 => ?_)
  refine zb R_opened_s6 rfl ?_
  refine z_retZ R_opened_d7 rfl (by first | exact Or.inl rfl | exact Or.inr rfl) ?_
  exact ⟨rfl, rfl⟩

set_option maxRecDepth 100000 in
set_option maxHeartbeats 4000000 in
theorem w_one48_10 {g : zG} {μ0 : zMem} {n : Nat} (hR : μ0.2.2 = zR11) (hn : μ0.1 3 1 = nI n) (hn2 : n ≤ 120) (hb : ∀ i, i < n → 0 ≤ μ0.1 61 i ∧ μ0.1 61 i ≤ 255) {d p : Nat} {c : qC} {μ : zMem} {z : Int32} (hd : 4 ≤ d) (hp : p ≤ n) (hl : c.length ≤ p) (hs : rS 10 85 86 μ0 p c μ) : zW g R_one d 48 [some (.ref 3), some (.int z), some (.int (qnx (μ0.1 61) n p)), none] [] μ (rQ 10 85 86 μ0 c (match qnm (qnx (μ0.1 61) n p) with | some i => .inr (p + 1, [(97, nI i)], fun ν => ν i) | none => .inl p)) := by
  obtain ⟨m1, m2, R⟩ := μ
  obtain rfl : R = zR11 := hs.f.R hR
  refine zb R_one_s48 rfl ?_
  cases hnm : qnm (qnx (μ0.1 61) n p) with
  | some i =>
    have hh := qnm_hi hnm
    have hi6 := (qnm_lt hnm).1
    have hq1 : p < n := qnx_lt (qnm_lt hnm).2
    obtain ⟨k9, hk9, ek⟩ := letb hb hh.2
    refine z_ge R_one_d49 (tgt := 56) rfl (fun h49 => ?_) (fun h49 => absurd (Int32.not_lt.mp hh.2) h49)
    refine zldS R_one_d56 rfl ?_
    refine zb R_one_s58 rfl ?_
    rw [ek, i2c_byte ⟨k9, hk9⟩]
    refine zcallJ (av := [.int (nI k9)]) R_one_d60 kJ_76 (by omega) (x_indexOf (by omega) hk9) rfl rfl (Nat.le_of_ble_eq_true rfl) ?_
    rintro _ μx ⟨rfl, hx⟩
    rw [hx]
    clear hx μx
    rw [← ek]
    rw [qnmI_some hnm]
    refine zb R_one_s63 rfl ?_
    refine z_ge R_one_d65 (tgt := 70) rfl (fun h65 => ?_) (fun h65 => absurd (nI_pos' (by omega)) h65)
    refine zb R_one_s70 rfl ?_
    rw [show ((m1, m2, zR11) : zMem).1 3 2 = nI p from hs.2.1, nI_1]
    refine zcallV R_one_d87 k7_45 (by omega) (x_add_10 (by omega) (hs.adv (Or.inr ⟨rfl, rfl, rfl⟩))) rfl rfl rfl (Nat.le_of_ble_eq_true rfl) ?_
    rintro _ μ2 ⟨rfl, hs2⟩
    refine zb R_one_s90 rfl ?_
    refine z_retZ R_one_d91 rfl (by first | exact Or.inl rfl | exact Or.inr rfl) ?_
    exact ⟨rfl, hs2⟩
  | none =>
    refine z_ge R_one_d49 (tgt := 56) rfl (fun h49 => ?_) (fun h49 => ?_)
    · obtain ⟨k9, hk9, ek⟩ := letb hb (Int32.not_lt.mpr h49)
      refine zldS R_one_d56 rfl ?_
      refine zb R_one_s58 rfl ?_
      rw [ek, i2c_byte ⟨k9, hk9⟩]
      refine zcallJ (av := [.int (nI k9)]) R_one_d60 kJ_76 (by omega) (x_indexOf (by omega) hk9) rfl rfl (Nat.le_of_ble_eq_true rfl) ?_
      rintro _ μx ⟨rfl, hx⟩
      rw [hx]
      clear hx μx
      rw [← ek]
      rw [qnmI_none hnm]
      refine zb R_one_s63 rfl ?_
      refine z_ge R_one_d65 (tgt := 70) rfl (fun h65 => absurd h65 (by decide)) (fun h65 => ?_)
      refine zb R_one_s68 rfl ?_
      refine z_retZ R_one_d69 rfl (by first | exact Or.inl rfl | exact Or.inr rfl) ?_
      exact ⟨rfl, hs.f⟩
    · refine zb R_one_s52 rfl ?_
      refine z_ge R_one_d65 (tgt := 70) rfl (fun h65 => absurd h65 (by decide)) (fun h65 => ?_)
      refine zb R_one_s68 rfl ?_
      refine z_retZ R_one_d69 rfl (by first | exact Or.inl rfl | exact Or.inr rfl) ?_
      exact ⟨rfl, hs.f⟩

set_option maxRecDepth 100000 in
set_option maxHeartbeats 4000000 in
theorem x_one_10 {g : zG} {μ0 : zMem} {n : Nat} (hR : μ0.2.2 = zR11) (hn : μ0.1 3 1 = nI n) (hn2 : n ≤ 120) (hb : ∀ i, i < n → 0 ≤ μ0.1 61 i ∧ μ0.1 61 i ≤ 255) : ∀ k, k ≤ 6 → ∀ (d p : Nat) (c : qC) (μ : zMem), 5 + 7 * k ≤ d → p ≤ n → c.length ≤ p → rS 10 85 86 μ0 p c μ → zM g d R_one [.ref 3, .int (nI (6 - k))] μ (rQ 10 85 86 μ0 c (qO (μ0.1 61) n k p)) := by
  intro k
  induction k with
  | zero =>
    intro hk6 d p c μ hd hp hl hs
    refine zM_of (by decide +kernel) rfl rfl (Nat.le_of_ble_eq_true rfl) rfl ?_
    simp only [qO]
    by_cases hdg : qdig (qnx (μ0.1 61) n p)
    · rw [if_pos hdg]
      have n40 : ¬ qnx (μ0.1 61) n p = 40 := fun e => by rw [e] at hdg; exact absurd hdg (by unfold qdig; decide)
      have n33 : ¬ qnx (μ0.1 61) n p = 33 := fun e => by rw [e] at hdg; exact absurd hdg (by unfold qdig; decide)
      have n45 : ¬ qnx (μ0.1 61) n p = 45 := fun e => by rw [e] at hdg; exact absurd hdg (by unfold qdig; decide)
      refine zb R_one_s0 rfl ?_
      refine zcallV R_one_d1 k7_38 (by omega) (x_next (Or.inr ⟨rfl, rfl, rfl⟩) hn hn2 (by omega) hs.f) rfl rfl rfl (Nat.le_of_ble_eq_true rfl) ?_
      rintro _ μx ⟨rfl, hx⟩
      rw [hx]
      clear hx μx
      refine zb R_one_s4 rfl ?_
      refine z_ceq R_one_d8 (tgt := 23) rfl (fun h8 => absurd h8 n40) (fun h8 => ?_)
      refine zb R_one_s11 rfl ?_
      refine z_ceq R_one_d14 (tgt := 23) rfl (fun h14 => absurd h14 n33) (fun h14 => ?_)
      refine zb R_one_s17 rfl ?_
      refine z_cne R_one_d20 (tgt := 30) rfl (fun h20 => ?_) (fun h20 => absurd h20 n45)
      refine zb R_one_s30 rfl ?_
      refine z_clt R_one_d33 (tgt := 48) rfl (fun h33 => absurd h33 (Int32.not_lt.mpr hdg.1)) (fun h33 => ?_)
      refine zb R_one_s36 rfl ?_
      refine z_cgt R_one_d39 (tgt := 48) rfl (fun h39 => absurd h39 (Int32.not_lt.mpr hdg.2)) (fun h39 => ?_)
      refine zb R_one_s42 rfl ?_
      refine zcallV R_one_d43 k7_71 (by omega) (x_number_10 hR hn hn2 (by omega) hp hl hs) rfl rfl rfl (Nat.le_of_ble_eq_true rfl) ?_
      rintro _ μ2 ⟨rfl, hs2⟩
      refine zb R_one_s46 rfl ?_
      refine z_retZ R_one_d47 rfl (by first | exact Or.inl rfl | exact Or.inr rfl) ?_
      exact ⟨rfl, hs2⟩
    · rw [if_neg hdg]
      by_cases n40 : qnx (μ0.1 61) n p = 40
      · rw [show qnm (qnx (μ0.1 61) n p) = none by rw [n40]; rfl]
        refine zb R_one_s0 rfl ?_
        refine zcallV R_one_d1 k7_38 (by omega) (x_next (Or.inr ⟨rfl, rfl, rfl⟩) hn hn2 (by omega) hs.f) rfl rfl rfl (Nat.le_of_ble_eq_true rfl) ?_
        rintro _ μx ⟨rfl, hx⟩
        rw [hx]
        clear hx μx
        refine zb R_one_s4 rfl ?_
        refine z_ceq R_one_d8 (tgt := 23) rfl (fun h8 => ?_) (fun h8 => absurd n40 h8)
        refine zb R_one_s23 rfl ?_
        refine zcallV R_one_d26 k7_67 (by omega) (x_open0_10) rfl rfl rfl (Nat.le_of_ble_eq_true rfl) ?_
        rintro _ μx ⟨rfl, hx⟩
        rw [hx]
        clear hx μx
        refine z_retZ R_one_d29 rfl (Or.inl rfl) ?_
        exact ⟨rfl, hs.f⟩
      · by_cases n33 : qnx (μ0.1 61) n p = 33
        · rw [show qnm (qnx (μ0.1 61) n p) = none by rw [n33]; rfl]
          refine zb R_one_s0 rfl ?_
          refine zcallV R_one_d1 k7_38 (by omega) (x_next (Or.inr ⟨rfl, rfl, rfl⟩) hn hn2 (by omega) hs.f) rfl rfl rfl (Nat.le_of_ble_eq_true rfl) ?_
          rintro _ μx ⟨rfl, hx⟩
          rw [hx]
          clear hx μx
          refine zb R_one_s4 rfl ?_
          refine z_ceq R_one_d8 (tgt := 23) rfl (fun h8 => absurd h8 n40) (fun h8 => ?_)
          refine zb R_one_s11 rfl ?_
          refine z_ceq R_one_d14 (tgt := 23) rfl (fun h14 => ?_) (fun h14 => absurd n33 h14)
          refine zb R_one_s23 rfl ?_
          refine zcallV R_one_d26 k7_67 (by omega) (x_open0_10) rfl rfl rfl (Nat.le_of_ble_eq_true rfl) ?_
          rintro _ μx ⟨rfl, hx⟩
          rw [hx]
          clear hx μx
          refine z_retZ R_one_d29 rfl (Or.inl rfl) ?_
          exact ⟨rfl, hs.f⟩
        · by_cases n45 : qnx (μ0.1 61) n p = 45
          · rw [show qnm (qnx (μ0.1 61) n p) = none by rw [n45]; rfl]
            refine zb R_one_s0 rfl ?_
            refine zcallV R_one_d1 k7_38 (by omega) (x_next (Or.inr ⟨rfl, rfl, rfl⟩) hn hn2 (by omega) hs.f) rfl rfl rfl (Nat.le_of_ble_eq_true rfl) ?_
            rintro _ μx ⟨rfl, hx⟩
            rw [hx]
            clear hx μx
            refine zb R_one_s4 rfl ?_
            refine z_ceq R_one_d8 (tgt := 23) rfl (fun h8 => absurd h8 n40) (fun h8 => ?_)
            refine zb R_one_s11 rfl ?_
            refine z_ceq R_one_d14 (tgt := 23) rfl (fun h14 => absurd h14 n33) (fun h14 => ?_)
            refine zb R_one_s17 rfl ?_
            refine z_cne R_one_d20 (tgt := 30) rfl (fun h20 => absurd n45 h20) (fun h20 => ?_)
            refine zb R_one_s23 rfl ?_
            refine zcallV R_one_d26 k7_67 (by omega) (x_open0_10) rfl rfl rfl (Nat.le_of_ble_eq_true rfl) ?_
            rintro _ μx ⟨rfl, hx⟩
            rw [hx]
            clear hx μx
            refine z_retZ R_one_d29 rfl (Or.inl rfl) ?_
            exact ⟨rfl, hs.f⟩
          · refine zb R_one_s0 rfl ?_
            refine zcallV R_one_d1 k7_38 (by omega) (x_next (Or.inr ⟨rfl, rfl, rfl⟩) hn hn2 (by omega) hs.f) rfl rfl rfl (Nat.le_of_ble_eq_true rfl) ?_
            rintro _ μx ⟨rfl, hx⟩
            rw [hx]
            clear hx μx
            refine zb R_one_s4 rfl ?_
            refine z_ceq R_one_d8 (tgt := 23) rfl (fun h8 => absurd h8 n40) (fun h8 => ?_)
            refine zb R_one_s11 rfl ?_
            refine z_ceq R_one_d14 (tgt := 23) rfl (fun h14 => absurd h14 n33) (fun h14 => ?_)
            refine zb R_one_s17 rfl ?_
            refine z_cne R_one_d20 (tgt := 30) rfl (fun h20 => ?_) (fun h20 => absurd h20 n45)
            refine zb R_one_s30 rfl ?_
            refine z_clt R_one_d33 (tgt := 48) rfl (fun h33 => ?_) (fun h33 => ?_)
            · exact w_one48_10 hR hn hn2 hb (by omega) hp hl hs
            · refine zb R_one_s36 rfl ?_
              refine z_cgt R_one_d39 (tgt := 48) rfl (fun h39 => ?_) (fun h39 => ?_)
              · exact w_one48_10 hR hn hn2 hb (by omega) hp hl hs
              · exact absurd (show qdig _ from And.intro (Int32.not_lt.mp h33) (Int32.not_lt.mp h39)) hdg
  | succ k ih =>
    intro hk6 d p c μ hd hp hl hs
    refine zM_of (by decide +kernel) rfl rfl (Nat.le_of_ble_eq_true rfl) rfl ?_
    simp only [qO]
    by_cases hdg : qdig (qnx (μ0.1 61) n p)
    · rw [if_pos hdg]
      have n40 : ¬ qnx (μ0.1 61) n p = 40 := fun e => by rw [e] at hdg; exact absurd hdg (by unfold qdig; decide)
      have n33 : ¬ qnx (μ0.1 61) n p = 33 := fun e => by rw [e] at hdg; exact absurd hdg (by unfold qdig; decide)
      have n45 : ¬ qnx (μ0.1 61) n p = 45 := fun e => by rw [e] at hdg; exact absurd hdg (by unfold qdig; decide)
      refine zb R_one_s0 rfl ?_
      refine zcallV R_one_d1 k7_38 (by omega) (x_next (Or.inr ⟨rfl, rfl, rfl⟩) hn hn2 (by omega) hs.f) rfl rfl rfl (Nat.le_of_ble_eq_true rfl) ?_
      rintro _ μx ⟨rfl, hx⟩
      rw [hx]
      clear hx μx
      refine zb R_one_s4 rfl ?_
      refine z_ceq R_one_d8 (tgt := 23) rfl (fun h8 => absurd h8 n40) (fun h8 => ?_)
      refine zb R_one_s11 rfl ?_
      refine z_ceq R_one_d14 (tgt := 23) rfl (fun h14 => absurd h14 n33) (fun h14 => ?_)
      refine zb R_one_s17 rfl ?_
      refine z_cne R_one_d20 (tgt := 30) rfl (fun h20 => ?_) (fun h20 => absurd h20 n45)
      refine zb R_one_s30 rfl ?_
      refine z_clt R_one_d33 (tgt := 48) rfl (fun h33 => absurd h33 (Int32.not_lt.mpr hdg.1)) (fun h33 => ?_)
      refine zb R_one_s36 rfl ?_
      refine z_cgt R_one_d39 (tgt := 48) rfl (fun h39 => absurd h39 (Int32.not_lt.mpr hdg.2)) (fun h39 => ?_)
      refine zb R_one_s42 rfl ?_
      refine zcallV R_one_d43 k7_71 (by omega) (x_number_10 hR hn hn2 (by omega) hp hl hs) rfl rfl rfl (Nat.le_of_ble_eq_true rfl) ?_
      rintro _ μ2 ⟨rfl, hs2⟩
      refine zb R_one_s46 rfl ?_
      refine z_retZ R_one_d47 rfl (by first | exact Or.inl rfl | exact Or.inr rfl) ?_
      exact ⟨rfl, hs2⟩
    · rw [if_neg hdg]
      cases hnm : qnm (qnx (μ0.1 61) n p) with
      | some i =>
        obtain ⟨-, -, -, n33, n45, n40, -⟩ := qnm_facts hnm
        have hw := fun z => w_one48_10 (g := g) (d := d) (z := z) hR hn hn2 hb (by omega) hp hl hs
        rw [hnm] at hw
        refine zb R_one_s0 rfl ?_
        refine zcallV R_one_d1 k7_38 (by omega) (x_next (Or.inr ⟨rfl, rfl, rfl⟩) hn hn2 (by omega) hs.f) rfl rfl rfl (Nat.le_of_ble_eq_true rfl) ?_
        rintro _ μx ⟨rfl, hx⟩
        rw [hx]
        clear hx μx
        refine zb R_one_s4 rfl ?_
        refine z_ceq R_one_d8 (tgt := 23) rfl (fun h8 => absurd h8 n40) (fun h8 => ?_)
        refine zb R_one_s11 rfl ?_
        refine z_ceq R_one_d14 (tgt := 23) rfl (fun h14 => absurd h14 n33) (fun h14 => ?_)
        refine zb R_one_s17 rfl ?_
        refine z_cne R_one_d20 (tgt := 30) rfl (fun h20 => ?_) (fun h20 => absurd h20 n45)
        refine zb R_one_s30 rfl ?_
        refine z_clt R_one_d33 (tgt := 48) rfl (fun h33 => ?_) (fun h33 => ?_)
        · exact hw _
        · refine zb R_one_s36 rfl ?_
          refine z_cgt R_one_d39 (tgt := 48) rfl (fun h39 => ?_) (fun h39 => ?_)
          · exact hw _
          · exact absurd (show qdig _ from And.intro (Int32.not_lt.mp h33) (Int32.not_lt.mp h39)) hdg
      | none =>
        dsimp only
        by_cases n40 : qnx (μ0.1 61) n p = 40
        · rw [if_pos n40]
          have hq1 : p < n := qnx_lt (by rw [n40]; decide)
          refine zb R_one_s0 rfl ?_
          refine zcallV R_one_d1 k7_38 (by omega) (x_next (Or.inr ⟨rfl, rfl, rfl⟩) hn hn2 (by omega) hs.f) rfl rfl rfl (Nat.le_of_ble_eq_true rfl) ?_
          rintro _ μx ⟨rfl, hx⟩
          rw [hx]
          clear hx μx
          refine zb R_one_s4 rfl ?_
          refine z_ceq R_one_d8 (tgt := 23) rfl (fun h8 => ?_) (fun h8 => absurd n40 h8)
          refine zb R_one_s23 rfl ?_
          rw [n40]
          refine zcallV R_one_d26 k7_67 (by omega) (x_open40_10 hR hn hn2 hk6 (D := 5 + 7 * k) (by omega) (by omega) (ih (by omega)) hq1 hl hs) rfl rfl rfl (Nat.le_of_ble_eq_true rfl) ?_
          rintro v μ1 hv
          obtain ⟨w, rfl, hw⟩ := rQ_01 hv
          refine z_retZ R_one_d29 rfl hw ?_
          exact hv
        · rw [if_neg n40]
          by_cases n33 : qnx (μ0.1 61) n p = 33
          · rw [if_pos n33]
            have hq1 : p < n := qnx_lt (by rw [n33]; decide)
            refine zb R_one_s0 rfl ?_
            refine zcallV R_one_d1 k7_38 (by omega) (x_next (Or.inr ⟨rfl, rfl, rfl⟩) hn hn2 (by omega) hs.f) rfl rfl rfl (Nat.le_of_ble_eq_true rfl) ?_
            rintro _ μx ⟨rfl, hx⟩
            rw [hx]
            clear hx μx
            refine zb R_one_s4 rfl ?_
            refine z_ceq R_one_d8 (tgt := 23) rfl (fun h8 => absurd h8 n40) (fun h8 => ?_)
            refine zb R_one_s11 rfl ?_
            refine z_ceq R_one_d14 (tgt := 23) rfl (fun h14 => ?_) (fun h14 => absurd n33 h14)
            refine zb R_one_s23 rfl ?_
            rw [n33]
            refine zcallV R_one_d26 k7_67 (by omega) (x_open33_10 hR hn hn2 hk6 (D := 5 + 7 * k) (by omega) (by omega) (ih (by omega)) hq1 hl hs) rfl rfl rfl (Nat.le_of_ble_eq_true rfl) ?_
            rintro v μ1 hv
            obtain ⟨w, rfl, hw⟩ := rQ_01 hv
            refine z_retZ R_one_d29 rfl hw ?_
            exact hv
          · rw [if_neg n33]
            by_cases n45 : qnx (μ0.1 61) n p = 45
            · rw [if_pos n45]
              have hq1 : p < n := qnx_lt (by rw [n45]; decide)
              refine zb R_one_s0 rfl ?_
              refine zcallV R_one_d1 k7_38 (by omega) (x_next (Or.inr ⟨rfl, rfl, rfl⟩) hn hn2 (by omega) hs.f) rfl rfl rfl (Nat.le_of_ble_eq_true rfl) ?_
              rintro _ μx ⟨rfl, hx⟩
              rw [hx]
              clear hx μx
              refine zb R_one_s4 rfl ?_
              refine z_ceq R_one_d8 (tgt := 23) rfl (fun h8 => absurd h8 n40) (fun h8 => ?_)
              refine zb R_one_s11 rfl ?_
              refine z_ceq R_one_d14 (tgt := 23) rfl (fun h14 => absurd h14 n33) (fun h14 => ?_)
              refine zb R_one_s17 rfl ?_
              refine z_cne R_one_d20 (tgt := 30) rfl (fun h20 => absurd n45 h20) (fun h20 => ?_)
              refine zb R_one_s23 rfl ?_
              rw [n45]
              refine zcallV R_one_d26 k7_67 (by omega) (x_open45_10 hR hn hn2 hk6 (D := 5 + 7 * k) (by omega) (by omega) (ih (by omega)) hq1 hl hs) rfl rfl rfl (Nat.le_of_ble_eq_true rfl) ?_
              rintro v μ1 hv
              obtain ⟨w, rfl, hw⟩ := rQ_01 hv
              refine z_retZ R_one_d29 rfl hw ?_
              exact hv
            · rw [if_neg n45]
              have hw := fun z => w_one48_10 (g := g) (d := d) (z := z) hR hn hn2 hb (by omega) hp hl hs
              rw [hnm] at hw
              refine zb R_one_s0 rfl ?_
              refine zcallV R_one_d1 k7_38 (by omega) (x_next (Or.inr ⟨rfl, rfl, rfl⟩) hn hn2 (by omega) hs.f) rfl rfl rfl (Nat.le_of_ble_eq_true rfl) ?_
              rintro _ μx ⟨rfl, hx⟩
              rw [hx]
              clear hx μx
              refine zb R_one_s4 rfl ?_
              refine z_ceq R_one_d8 (tgt := 23) rfl (fun h8 => absurd h8 n40) (fun h8 => ?_)
              refine zb R_one_s11 rfl ?_
              refine z_ceq R_one_d14 (tgt := 23) rfl (fun h14 => absurd h14 n33) (fun h14 => ?_)
              refine zb R_one_s17 rfl ?_
              refine z_cne R_one_d20 (tgt := 30) rfl (fun h20 => ?_) (fun h20 => absurd h20 n45)
              refine zb R_one_s30 rfl ?_
              refine z_clt R_one_d33 (tgt := 48) rfl (fun h33 => ?_) (fun h33 => ?_)
              · exact hw _
              · refine zb R_one_s36 rfl ?_
                refine z_cgt R_one_d39 (tgt := 48) rfl (fun h39 => ?_) (fun h39 => ?_)
                · exact hw _
                · exact absurd (show qdig _ from And.intro (Int32.not_lt.mp h33) (Int32.not_lt.mp h39)) hdg
