/-! the reference reads a text -/
def m3 (μ : zMem) (p o r : Int32) : zMem := (fun c j => if c = 0 then (if j = 24 then p else if j = 25 then o else if j = 26 then r else μ.1 c j) else μ.1 c j, μ.2)
theorem m3_24 (μ : zMem) (p o r x : Int32) : zpI (m3 μ p o r) 0 24 x = m3 μ x o r := by
  refine Prod.ext (funext fun c => funext fun j => ?_) rfl
  simp only [zpI, zu, m3]
  by_cases hc : c = 0 <;> by_cases h1 : j = 24 <;> by_cases h2 : j = 25 <;> by_cases h3 : j = 26 <;> simp_all
theorem m3_25 (μ : zMem) (p o r x : Int32) : zpI (m3 μ p o r) 0 25 x = m3 μ p x r := by
  refine Prod.ext (funext fun c => funext fun j => ?_) rfl
  simp only [zpI, zu, m3]
  by_cases hc : c = 0 <;> by_cases h1 : j = 24 <;> by_cases h2 : j = 25 <;> by_cases h3 : j = 26 <;> simp_all
theorem m3_26 (μ : zMem) (p o r x : Int32) : zpI (m3 μ p o r) 0 26 x = m3 μ p o x := by
  refine Prod.ext (funext fun c => funext fun j => ?_) rfl
  simp only [zpI, zu, m3]
  by_cases hc : c = 0 <;> by_cases h1 : j = 24 <;> by_cases h2 : j = 25 <;> by_cases h3 : j = 26 <;> simp_all
theorem m3_p (μ : zMem) (p o r : Int32) : (m3 μ p o r).1 0 24 = p := rfl
theorem m3_o (μ : zMem) (p o r : Int32) : (m3 μ p o r).1 0 25 = o := rfl
theorem m3_r (μ : zMem) (p o r : Int32) : (m3 μ p o r).1 0 26 = r := rfl
def qpos (z : qR) : Nat := match z with
  | .inl q => q
  | .inr w => w.1
def qfl (z : qR) : Int32 := match z with
  | .inl _ => 0
  | .inr _ => 1

set_option maxRecDepth 100000 in
set_option maxHeartbeats 4000000 in
theorem c_M_isDigit {g : zG} {d : Nat} {μ : zMem} (c : Int32) : zM g d M_isDigit [.ref 0, .int c] μ (fun r μ' => r = some (.int (zB (qdig c))) ∧ μ' = μ) := by
  refine zM_of (by decide +kernel) rfl rfl (Nat.le_of_ble_eq_true rfl) rfl ?_
  refine zb M_isDigit_s0 rfl ?_
  refine z_clt M_isDigit_d3 (tgt := 16) rfl (fun h3 => ?_) (fun h3 => ?_)
  · refine zb M_isDigit_s16 rfl ?_
    refine z_retZ M_isDigit_d17 rfl (by first | exact Or.inl rfl | exact Or.inr rfl) ?_
    first | exact ⟨by rw [zB_t (by grind)], rfl⟩ | exact ⟨by rw [zB_f (by grind)], rfl⟩
  · refine zb M_isDigit_s6 rfl ?_
    refine z_cgt M_isDigit_d9 (tgt := 16) rfl (fun h9 => ?_) (fun h9 => ?_)
    · refine zb M_isDigit_s16 rfl ?_
      refine z_retZ M_isDigit_d17 rfl (by first | exact Or.inl rfl | exact Or.inr rfl) ?_
      first | exact ⟨by rw [zB_t (by grind)], rfl⟩ | exact ⟨by rw [zB_f (by grind)], rfl⟩
    · refine zb M_isDigit_s12 rfl ?_
      refine z_retZ M_isDigit_d17 rfl (by first | exact Or.inl rfl | exact Or.inr rfl) ?_
      first | exact ⟨by rw [zB_t (by grind)], rfl⟩ | exact ⟨by rw [zB_f (by grind)], rfl⟩

set_option maxRecDepth 100000 in
set_option maxHeartbeats 4000000 in
theorem c_M_isName {g : zG} {d : Nat} {μ : zMem} (c : Int32) : zM g d M_isName [.ref 0, .int c] μ (fun r μ' => r = some (.int (zB (c = 119 ∨ c = 107 ∨ c = 100 ∨ c = 104 ∨ c = 98 ∨ c = 112))) ∧ μ' = μ) := by
  refine zM_of (by decide +kernel) rfl rfl (Nat.le_of_ble_eq_true rfl) rfl ?_
  refine zb M_isName_s0 rfl ?_
  refine z_ceq M_isName_d3 (tgt := 36) rfl (fun h3 => ?_) (fun h3 => ?_)
  · refine zb M_isName_s36 rfl ?_
    refine z_retZ M_isName_d41 rfl (by first | exact Or.inl rfl | exact Or.inr rfl) ?_
    first | exact ⟨by rw [zB_t (by grind)], rfl⟩ | exact ⟨by rw [zB_f (by grind)], rfl⟩
  · refine zb M_isName_s6 rfl ?_
    refine z_ceq M_isName_d9 (tgt := 36) rfl (fun h9 => ?_) (fun h9 => ?_)
    · refine zb M_isName_s36 rfl ?_
      refine z_retZ M_isName_d41 rfl (by first | exact Or.inl rfl | exact Or.inr rfl) ?_
      first | exact ⟨by rw [zB_t (by grind)], rfl⟩ | exact ⟨by rw [zB_f (by grind)], rfl⟩
    · refine zb M_isName_s12 rfl ?_
      refine z_ceq M_isName_d15 (tgt := 36) rfl (fun h15 => ?_) (fun h15 => ?_)
      · refine zb M_isName_s36 rfl ?_
        refine z_retZ M_isName_d41 rfl (by first | exact Or.inl rfl | exact Or.inr rfl) ?_
        first | exact ⟨by rw [zB_t (by grind)], rfl⟩ | exact ⟨by rw [zB_f (by grind)], rfl⟩
      · refine zb M_isName_s18 rfl ?_
        refine z_ceq M_isName_d21 (tgt := 36) rfl (fun h21 => ?_) (fun h21 => ?_)
        · refine zb M_isName_s36 rfl ?_
          refine z_retZ M_isName_d41 rfl (by first | exact Or.inl rfl | exact Or.inr rfl) ?_
          first | exact ⟨by rw [zB_t (by grind)], rfl⟩ | exact ⟨by rw [zB_f (by grind)], rfl⟩
        · refine zb M_isName_s24 rfl ?_
          refine z_ceq M_isName_d27 (tgt := 36) rfl (fun h27 => ?_) (fun h27 => ?_)
          · refine zb M_isName_s36 rfl ?_
            refine z_retZ M_isName_d41 rfl (by first | exact Or.inl rfl | exact Or.inr rfl) ?_
            first | exact ⟨by rw [zB_t (by grind)], rfl⟩ | exact ⟨by rw [zB_f (by grind)], rfl⟩
          · refine zb M_isName_s30 rfl ?_
            refine z_cne M_isName_d33 (tgt := 40) rfl (fun h33 => ?_) (fun h33 => ?_)
            · refine zb M_isName_s40 rfl ?_
              refine z_retZ M_isName_d41 rfl (by first | exact Or.inl rfl | exact Or.inr rfl) ?_
              first | exact ⟨by rw [zB_t (by grind)], rfl⟩ | exact ⟨by rw [zB_f (by grind)], rfl⟩
            · refine zb M_isName_s36 rfl ?_
              refine z_retZ M_isName_d41 rfl (by first | exact Or.inl rfl | exact Or.inr rfl) ?_
              first | exact ⟨by rw [zB_t (by grind)], rfl⟩ | exact ⟨by rw [zB_f (by grind)], rfl⟩

set_option maxRecDepth 100000 in
set_option maxHeartbeats 4000000 in
theorem c_M_next {g : zG} {d : Nat} {μ : zMem} {q n : Nat} {o r : Int32} (hn : μ.1 0 4 = nI n) (hn2 : n ≤ 120) (hq : q ≤ 120) : zM g d M_next [.ref 0] (m3 μ (nI q) o r) (fun v μ' => v = some (.int (qnx (μ.1 32) n q)) ∧ μ' = m3 μ (nI q) o r) := by
  refine zM_of (by decide +kernel) rfl rfl (Nat.le_of_ble_eq_true rfl) rfl ?_
  refine zb M_next_s0 rfl ?_
  refine z_cge M_next_d8 (tgt := 23) rfl (fun h8 => ?_) (fun h8 => ?_)
  · have hlt : n ≤ q := (nI_leI (by omega) (by omega)).mp (by rw [← hn]; exact h8)
    refine zb M_next_s23 rfl ?_
    refine z_ret M_next_d24 rfl ?_
    refine ⟨?_, rfl⟩
    first | (rw [show qnx (μ.1 32) n q = -1 from if_neg (by omega)]; done) | (show some (Value.int (μ.1 32 (nI q).toNatClampNeg)) = _; rw [nI_clamp (by omega), show qnx (μ.1 32) n q = μ.1 32 q from if_pos hlt])
  · have hlt : q < n := by
      rcases Nat.lt_or_ge q n with z | z
      · exact z
      · exact absurd (by show μ.1 0 4 ≤ nI q; rw [hn]; exact nI_le z (by omega)) h8
    refine zb1 M_next_s11 rfl (by first | assumption | exact vp_in_nI (by omega) (by omega) | decide) ?_
    refine z_ret M_next_d24 rfl ?_
    refine ⟨?_, rfl⟩
    first | (rw [show qnx (μ.1 32) n q = -1 from if_neg (by omega)]; done) | (show some (Value.int (μ.1 32 (nI q).toNatClampNeg)) = _; rw [nI_clamp (by omega), show qnx (μ.1 32) n q = μ.1 32 q from if_pos hlt])

set_option maxRecDepth 100000 in
set_option maxHeartbeats 4000000 in
theorem c_M_isNext_y {g : zG} {d : Nat} {μ : zMem} {q n : Nat} {o : Int32} (hd : 1 ≤ d) (hn : μ.1 0 4 = nI n) (hn2 : n ≤ 120) (hq : q ≤ 120) {c : Int32} (h : qnx (μ.1 32) n q = c) : zM g d M_isNext [.ref 0, .int c] (m3 μ (nI q) o 1) (fun v μ' => v = some (.int 1) ∧ μ' = m3 μ (nI (q + 1)) o 1) := by
  refine zM_of (by decide +kernel) rfl rfl (Nat.le_of_ble_eq_true rfl) rfl ?_
  refine zb M_isNext_s0 rfl ?_
  refine z_eq M_isNext_d4 (tgt := 15) rfl (fun h4 => absurd h4 (show ¬ (1 : Int32) = 0 by decide)) (fun h4 => ?_)
  refine zb M_isNext_s7 rfl ?_
  refine zcallV M_isNext_d8 k11_181 (by omega) (c_M_next hn hn2 hq) rfl rfl rfl (Nat.le_of_ble_eq_true rfl) ?_
  rintro _ _ ⟨rfl, rfl⟩
  refine zb M_isNext_s11 rfl ?_
  refine z_ceq M_isNext_d12 (tgt := 17) rfl (fun h12 => ?_) (fun h12 => absurd h h12)
  refine zb M_isNext_s17 rfl ?_
  refine z_retZ M_isNext_d28 rfl (by first | exact Or.inl rfl | exact Or.inr rfl) ?_
  rw [m3_24, m3_p, nI_1]
  exact ⟨rfl, rfl⟩

set_option maxRecDepth 100000 in
set_option maxHeartbeats 4000000 in
theorem c_M_isNext_n {g : zG} {d : Nat} {μ : zMem} {q n : Nat} {o : Int32} (hd : 1 ≤ d) (hn : μ.1 0 4 = nI n) (hn2 : n ≤ 120) (hq : q ≤ 120) {c : Int32} (h : ¬ qnx (μ.1 32) n q = c) : zM g d M_isNext [.ref 0, .int c] (m3 μ (nI q) o 1) (fun v μ' => v = some (.int 0) ∧ μ' = m3 μ (nI q) o 1) := by
  refine zM_of (by decide +kernel) rfl rfl (Nat.le_of_ble_eq_true rfl) rfl ?_
  refine zb M_isNext_s0 rfl ?_
  refine z_eq M_isNext_d4 (tgt := 15) rfl (fun h4 => absurd h4 (show ¬ (1 : Int32) = 0 by decide)) (fun h4 => ?_)
  refine zb M_isNext_s7 rfl ?_
  refine zcallV M_isNext_d8 k11_181 (by omega) (c_M_next hn hn2 hq) rfl rfl rfl (Nat.le_of_ble_eq_true rfl) ?_
  rintro _ _ ⟨rfl, rfl⟩
  refine zb M_isNext_s11 rfl ?_
  refine z_ceq M_isNext_d12 (tgt := 17) rfl (fun h12 => absurd h12 h) (fun h12 => ?_)
  refine zb M_isNext_s15 rfl ?_
  refine z_retZ M_isNext_d16 rfl (by first | exact Or.inl rfl | exact Or.inr rfl) ?_
  exact ⟨rfl, rfl⟩

set_option maxRecDepth 100000 in
set_option maxHeartbeats 4000000 in
theorem c_M_isNext_0 {g : zG} {d : Nat} {μ : zMem} {p o : Int32} {c : Int32} : zM g d M_isNext [.ref 0, .int c] (m3 μ p o 0) (fun v μ' => v = some (.int 0) ∧ μ' = m3 μ p o 0) := by
  refine zM_of (by decide +kernel) rfl rfl (Nat.le_of_ble_eq_true rfl) rfl ?_
  refine zb M_isNext_s0 rfl ?_
  refine z_eq M_isNext_d4 (tgt := 15) rfl (fun h4 => ?_) (fun h4 => absurd rfl h4)
  refine zb M_isNext_s15 rfl ?_
  refine z_retZ M_isNext_d16 rfl (by first | exact Or.inl rfl | exact Or.inr rfl) ?_
  exact ⟨rfl, rfl⟩

set_option maxRecDepth 100000 in
set_option maxHeartbeats 4000000 in
theorem w_M_readsP_0 {g : zG} {d : Nat} {μ : zMem} {p o : Int32} (hd : 1 ≤ d) : zW g M_readsP d 4 [some (.ref 0)] [] (m3 μ p o 0) (fun v μ' => v = none ∧ μ' = m3 μ p o 0) := by
  refine zb M_readsP_s4 rfl ?_
  refine zcallV M_readsP_d7 k11_197 (by omega) (c_M_isNext_0) rfl rfl rfl (Nat.le_of_ble_eq_true rfl) ?_
  rintro _ _ ⟨rfl, rfl⟩
  refine z_ne M_readsP_d10 (tgt := 31) rfl (fun h10 => absurd (rfl : (0 : Int32) = 0) h10) (fun h10 => ?_)
  refine zb M_readsP_s13 rfl ?_
  refine zcallV M_readsP_d16 k11_197 (by omega) (c_M_isNext_0) rfl rfl rfl (Nat.le_of_ble_eq_true rfl) ?_
  rintro _ _ ⟨rfl, rfl⟩
  refine z_ne M_readsP_d19 (tgt := 31) rfl (fun h19 => absurd (rfl : (0 : Int32) = 0) h19) (fun h19 => ?_)
  refine zb M_readsP_s22 rfl ?_
  refine zcallV M_readsP_d25 k11_197 (by omega) (c_M_isNext_0) rfl rfl rfl (Nat.le_of_ble_eq_true rfl) ?_
  rintro _ _ ⟨rfl, rfl⟩
  refine z_eq M_readsP_d28 (tgt := 38) rfl (fun h28 => ?_) (fun h28 => absurd (rfl : (0 : Int32) = 0) h28)
  refine z_retV M_readsP_d38 rfl ?_
  exact ⟨rfl, rfl⟩

set_option maxRecDepth 100000 in
set_option maxHeartbeats 4000000 in
theorem w_M_readsP {g : zG} {d : Nat} {μ : zMem} {n k : Nat} {po : Nat → qR} (hd : 2 + 6 * k + 1 ≤ d) (hn : μ.1 0 4 = nI n) (hn2 : n ≤ 120) (hk : qok n po) (hO : ∀ d q o, 2 + 6 * k ≤ d → q ≤ n → o = nI (6 - k) → zM g d M_readsO [.ref 0] (m3 μ (nI q) o 1) (fun v μ' => v = none ∧ μ' = m3 μ (nI (qpos (po q))) o (qfl (po q)))) : ∀ (f q : Nat) (c : qC) (e : qD), n ≤ q + f → q ≤ n → zW g M_readsP d 4 [some (.ref 0)] [] (m3 μ (nI q) (nI (6 - k)) 1) (fun v μ' => v = none ∧ μ' = m3 μ (nI (qpos (qlp (μ.1 32) n (po) qop3 f q c e))) (nI (6 - k)) (qfl (qlp (μ.1 32) n (po) qop3 f q c e))) := by
  intro f
  induction f with
  | zero =>
    intro q c e hf hq
    have hx : qnx (μ.1 32) n q = -1 := if_neg (by omega)
    have hs0 : ¬ qnx (μ.1 32) n q = 42 := by rw [hx]; decide
    have hs1 : ¬ qnx (μ.1 32) n q = 47 := by rw [hx]; decide
    have hs2 : ¬ qnx (μ.1 32) n q = 37 := by rw [hx]; decide
    refine zb M_readsP_s4 rfl ?_
    refine zcallV M_readsP_d7 k11_197 (by omega) (c_M_isNext_n (by omega) hn hn2 (by omega) hs0) rfl rfl rfl (Nat.le_of_ble_eq_true rfl) ?_
    rintro _ _ ⟨rfl, rfl⟩
    refine z_ne M_readsP_d10 (tgt := 31) rfl (fun h10 => absurd (rfl : (0 : Int32) = 0) h10) (fun h10 => ?_)
    refine zb M_readsP_s13 rfl ?_
    refine zcallV M_readsP_d16 k11_197 (by omega) (c_M_isNext_n (by omega) hn hn2 (by omega) hs1) rfl rfl rfl (Nat.le_of_ble_eq_true rfl) ?_
    rintro _ _ ⟨rfl, rfl⟩
    refine z_ne M_readsP_d19 (tgt := 31) rfl (fun h19 => absurd (rfl : (0 : Int32) = 0) h19) (fun h19 => ?_)
    refine zb M_readsP_s22 rfl ?_
    refine zcallV M_readsP_d25 k11_197 (by omega) (c_M_isNext_n (by omega) hn hn2 (by omega) hs2) rfl rfl rfl (Nat.le_of_ble_eq_true rfl) ?_
    rintro _ _ ⟨rfl, rfl⟩
    refine z_eq M_readsP_d28 (tgt := 38) rfl (fun h28 => ?_) (fun h28 => absurd (rfl : (0 : Int32) = 0) h28)
    refine z_retV M_readsP_d38 rfl ?_
    exact ⟨rfl, rfl⟩
  | succ f ih =>
    intro q c e hf hq
    by_cases hs0 : qnx (μ.1 32) n q = 42
    · have hq1 : q < n := qnx_lt (by rw [hs0]; decide)
      have hop : qop3 (qnx (μ.1 32) n q) = true := by rw [hs0]; rfl
      have hin := hk (q + 1)
      simp only [qlp, if_pos hop]
      cases hr : (po) (q + 1) with
      | inl q2 =>
        rw [hr] at hin
        refine zb M_readsP_s4 rfl ?_
        refine zcallV M_readsP_d7 k11_197 (by omega) (c_M_isNext_y (by omega) hn hn2 (by omega) hs0) rfl rfl rfl (Nat.le_of_ble_eq_true rfl) ?_
        rintro _ _ ⟨rfl, rfl⟩
        refine z_ne M_readsP_d10 (tgt := 31) rfl (fun h10 => ?_) (fun h10 => absurd h10 (show ¬ (1 : Int32) = 0 by decide))
        refine zb M_readsP_s31 rfl ?_
        refine zcallV M_readsP_d32 k11_201 (by omega) (hO (d - 1) (q + 1) _ (by omega) (by omega) rfl) rfl rfl rfl (Nat.le_of_ble_eq_true rfl) ?_
        rintro _ _ ⟨rfl, rfl⟩
        rw [hr]
        refine zb M_readsP_s35 rfl ?_
        exact w_M_readsP_0 (by omega)
      | inr z =>
        obtain ⟨q2, c2, e2⟩ := z
        rw [hr] at hin
        refine zb M_readsP_s4 rfl ?_
        refine zcallV M_readsP_d7 k11_197 (by omega) (c_M_isNext_y (by omega) hn hn2 (by omega) hs0) rfl rfl rfl (Nat.le_of_ble_eq_true rfl) ?_
        rintro _ _ ⟨rfl, rfl⟩
        refine z_ne M_readsP_d10 (tgt := 31) rfl (fun h10 => ?_) (fun h10 => absurd h10 (show ¬ (1 : Int32) = 0 by decide))
        refine zb M_readsP_s31 rfl ?_
        refine zcallV M_readsP_d32 k11_201 (by omega) (hO (d - 1) (q + 1) _ (by omega) (by omega) rfl) rfl rfl rfl (Nat.le_of_ble_eq_true rfl) ?_
        rintro _ _ ⟨rfl, rfl⟩
        rw [hr]
        refine zb M_readsP_s35 rfl ?_
        exact ih q2 _ _ (by omega) (by omega)
    · by_cases hs1 : qnx (μ.1 32) n q = 47
      · have hq1 : q < n := qnx_lt (by rw [hs1]; decide)
        have hop : qop3 (qnx (μ.1 32) n q) = true := by rw [hs1]; rfl
        have hin := hk (q + 1)
        simp only [qlp, if_pos hop]
        cases hr : (po) (q + 1) with
        | inl q2 =>
          rw [hr] at hin
          refine zb M_readsP_s4 rfl ?_
          refine zcallV M_readsP_d7 k11_197 (by omega) (c_M_isNext_n (by omega) hn hn2 (by omega) hs0) rfl rfl rfl (Nat.le_of_ble_eq_true rfl) ?_
          rintro _ _ ⟨rfl, rfl⟩
          refine z_ne M_readsP_d10 (tgt := 31) rfl (fun h10 => absurd (rfl : (0 : Int32) = 0) h10) (fun h10 => ?_)
          refine zb M_readsP_s13 rfl ?_
          refine zcallV M_readsP_d16 k11_197 (by omega) (c_M_isNext_y (by omega) hn hn2 (by omega) hs1) rfl rfl rfl (Nat.le_of_ble_eq_true rfl) ?_
          rintro _ _ ⟨rfl, rfl⟩
          refine z_ne M_readsP_d19 (tgt := 31) rfl (fun h19 => ?_) (fun h19 => absurd h19 (show ¬ (1 : Int32) = 0 by decide))
          refine zb M_readsP_s31 rfl ?_
          refine zcallV M_readsP_d32 k11_201 (by omega) (hO (d - 1) (q + 1) _ (by omega) (by omega) rfl) rfl rfl rfl (Nat.le_of_ble_eq_true rfl) ?_
          rintro _ _ ⟨rfl, rfl⟩
          rw [hr]
          refine zb M_readsP_s35 rfl ?_
          exact w_M_readsP_0 (by omega)
        | inr z =>
          obtain ⟨q2, c2, e2⟩ := z
          rw [hr] at hin
          refine zb M_readsP_s4 rfl ?_
          refine zcallV M_readsP_d7 k11_197 (by omega) (c_M_isNext_n (by omega) hn hn2 (by omega) hs0) rfl rfl rfl (Nat.le_of_ble_eq_true rfl) ?_
          rintro _ _ ⟨rfl, rfl⟩
          refine z_ne M_readsP_d10 (tgt := 31) rfl (fun h10 => absurd (rfl : (0 : Int32) = 0) h10) (fun h10 => ?_)
          refine zb M_readsP_s13 rfl ?_
          refine zcallV M_readsP_d16 k11_197 (by omega) (c_M_isNext_y (by omega) hn hn2 (by omega) hs1) rfl rfl rfl (Nat.le_of_ble_eq_true rfl) ?_
          rintro _ _ ⟨rfl, rfl⟩
          refine z_ne M_readsP_d19 (tgt := 31) rfl (fun h19 => ?_) (fun h19 => absurd h19 (show ¬ (1 : Int32) = 0 by decide))
          refine zb M_readsP_s31 rfl ?_
          refine zcallV M_readsP_d32 k11_201 (by omega) (hO (d - 1) (q + 1) _ (by omega) (by omega) rfl) rfl rfl rfl (Nat.le_of_ble_eq_true rfl) ?_
          rintro _ _ ⟨rfl, rfl⟩
          rw [hr]
          refine zb M_readsP_s35 rfl ?_
          exact ih q2 _ _ (by omega) (by omega)
      · by_cases hs2 : qnx (μ.1 32) n q = 37
        · have hq1 : q < n := qnx_lt (by rw [hs2]; decide)
          have hop : qop3 (qnx (μ.1 32) n q) = true := by rw [hs2]; rfl
          have hin := hk (q + 1)
          simp only [qlp, if_pos hop]
          cases hr : (po) (q + 1) with
          | inl q2 =>
            rw [hr] at hin
            refine zb M_readsP_s4 rfl ?_
            refine zcallV M_readsP_d7 k11_197 (by omega) (c_M_isNext_n (by omega) hn hn2 (by omega) hs0) rfl rfl rfl (Nat.le_of_ble_eq_true rfl) ?_
            rintro _ _ ⟨rfl, rfl⟩
            refine z_ne M_readsP_d10 (tgt := 31) rfl (fun h10 => absurd (rfl : (0 : Int32) = 0) h10) (fun h10 => ?_)
            refine zb M_readsP_s13 rfl ?_
            refine zcallV M_readsP_d16 k11_197 (by omega) (c_M_isNext_n (by omega) hn hn2 (by omega) hs1) rfl rfl rfl (Nat.le_of_ble_eq_true rfl) ?_
            rintro _ _ ⟨rfl, rfl⟩
            refine z_ne M_readsP_d19 (tgt := 31) rfl (fun h19 => absurd (rfl : (0 : Int32) = 0) h19) (fun h19 => ?_)
            refine zb M_readsP_s22 rfl ?_
            refine zcallV M_readsP_d25 k11_197 (by omega) (c_M_isNext_y (by omega) hn hn2 (by omega) hs2) rfl rfl rfl (Nat.le_of_ble_eq_true rfl) ?_
            rintro _ _ ⟨rfl, rfl⟩
            refine z_eq M_readsP_d28 (tgt := 38) rfl (fun h28 => absurd h28 (show ¬ (1 : Int32) = 0 by decide)) (fun h28 => ?_)
            refine zb M_readsP_s31 rfl ?_
            refine zcallV M_readsP_d32 k11_201 (by omega) (hO (d - 1) (q + 1) _ (by omega) (by omega) rfl) rfl rfl rfl (Nat.le_of_ble_eq_true rfl) ?_
            rintro _ _ ⟨rfl, rfl⟩
            rw [hr]
            refine zb M_readsP_s35 rfl ?_
            exact w_M_readsP_0 (by omega)
          | inr z =>
            obtain ⟨q2, c2, e2⟩ := z
            rw [hr] at hin
            refine zb M_readsP_s4 rfl ?_
            refine zcallV M_readsP_d7 k11_197 (by omega) (c_M_isNext_n (by omega) hn hn2 (by omega) hs0) rfl rfl rfl (Nat.le_of_ble_eq_true rfl) ?_
            rintro _ _ ⟨rfl, rfl⟩
            refine z_ne M_readsP_d10 (tgt := 31) rfl (fun h10 => absurd (rfl : (0 : Int32) = 0) h10) (fun h10 => ?_)
            refine zb M_readsP_s13 rfl ?_
            refine zcallV M_readsP_d16 k11_197 (by omega) (c_M_isNext_n (by omega) hn hn2 (by omega) hs1) rfl rfl rfl (Nat.le_of_ble_eq_true rfl) ?_
            rintro _ _ ⟨rfl, rfl⟩
            refine z_ne M_readsP_d19 (tgt := 31) rfl (fun h19 => absurd (rfl : (0 : Int32) = 0) h19) (fun h19 => ?_)
            refine zb M_readsP_s22 rfl ?_
            refine zcallV M_readsP_d25 k11_197 (by omega) (c_M_isNext_y (by omega) hn hn2 (by omega) hs2) rfl rfl rfl (Nat.le_of_ble_eq_true rfl) ?_
            rintro _ _ ⟨rfl, rfl⟩
            refine z_eq M_readsP_d28 (tgt := 38) rfl (fun h28 => absurd h28 (show ¬ (1 : Int32) = 0 by decide)) (fun h28 => ?_)
            refine zb M_readsP_s31 rfl ?_
            refine zcallV M_readsP_d32 k11_201 (by omega) (hO (d - 1) (q + 1) _ (by omega) (by omega) rfl) rfl rfl rfl (Nat.le_of_ble_eq_true rfl) ?_
            rintro _ _ ⟨rfl, rfl⟩
            rw [hr]
            refine zb M_readsP_s35 rfl ?_
            exact ih q2 _ _ (by omega) (by omega)
        · have hop : ¬ qop3 (qnx (μ.1 32) n q) = true := by simp only [qop3, Bool.or_eq_true, beq_iff_eq]; simp [hs0, hs1, hs2]
          simp only [qlp, if_neg hop]
          refine zb M_readsP_s4 rfl ?_
          refine zcallV M_readsP_d7 k11_197 (by omega) (c_M_isNext_n (by omega) hn hn2 (by omega) hs0) rfl rfl rfl (Nat.le_of_ble_eq_true rfl) ?_
          rintro _ _ ⟨rfl, rfl⟩
          refine z_ne M_readsP_d10 (tgt := 31) rfl (fun h10 => absurd (rfl : (0 : Int32) = 0) h10) (fun h10 => ?_)
          refine zb M_readsP_s13 rfl ?_
          refine zcallV M_readsP_d16 k11_197 (by omega) (c_M_isNext_n (by omega) hn hn2 (by omega) hs1) rfl rfl rfl (Nat.le_of_ble_eq_true rfl) ?_
          rintro _ _ ⟨rfl, rfl⟩
          refine z_ne M_readsP_d19 (tgt := 31) rfl (fun h19 => absurd (rfl : (0 : Int32) = 0) h19) (fun h19 => ?_)
          refine zb M_readsP_s22 rfl ?_
          refine zcallV M_readsP_d25 k11_197 (by omega) (c_M_isNext_n (by omega) hn hn2 (by omega) hs2) rfl rfl rfl (Nat.le_of_ble_eq_true rfl) ?_
          rintro _ _ ⟨rfl, rfl⟩
          refine z_eq M_readsP_d28 (tgt := 38) rfl (fun h28 => ?_) (fun h28 => absurd (rfl : (0 : Int32) = 0) h28)
          refine z_retV M_readsP_d38 rfl ?_
          exact ⟨rfl, rfl⟩

set_option maxRecDepth 100000 in
set_option maxHeartbeats 4000000 in
theorem c_M_readsP {g : zG} {d : Nat} {μ : zMem} {n k : Nat} {po : Nat → qR} (hd : 2 + 6 * k + 1 ≤ d) (hn : μ.1 0 4 = nI n) (hn2 : n ≤ 120) (hk : qok n po) (hO : ∀ d q o, 2 + 6 * k ≤ d → q ≤ n → o = nI (6 - k) → zM g d M_readsO [.ref 0] (m3 μ (nI q) o 1) (fun v μ' => v = none ∧ μ' = m3 μ (nI (qpos (po q))) o (qfl (po q)))) (q : Nat) (hq : q ≤ n) : zM g d M_readsP [.ref 0] (m3 μ (nI q) (nI (6 - k)) 1) (fun v μ' => v = none ∧ μ' = m3 μ (nI (qpos (qP (μ.1 32) n po q))) (nI (6 - k)) (qfl (qP (μ.1 32) n po q))) := by
  refine zM_of (by decide +kernel) rfl rfl (Nat.le_of_ble_eq_true rfl) rfl ?_
  have hin := hk q
  show zW g M_readsP d 0 _ [] _ (fun v μ' => v = none ∧ μ' = m3 μ (nI (qpos (qbin (μ.1 32) n (po) qop3 120 q))) (nI (6 - k)) (qfl (qbin (μ.1 32) n (po) qop3 120 q)))
  unfold qbin
  cases hr : (po) q with
  | inl q2 =>
    rw [hr] at hin
    refine zb M_readsP_s0 rfl ?_
    refine zcallV M_readsP_d1 k11_201 (by omega) (hO (d - 1) q _ (by omega) (by omega) rfl) rfl rfl rfl (Nat.le_of_ble_eq_true rfl) ?_
    rintro _ _ ⟨rfl, rfl⟩
    rw [hr]
    exact w_M_readsP_0 (by omega)
  | inr z =>
    obtain ⟨q2, c2, e2⟩ := z
    rw [hr] at hin
    refine zb M_readsP_s0 rfl ?_
    refine zcallV M_readsP_d1 k11_201 (by omega) (hO (d - 1) q _ (by omega) (by omega) rfl) rfl rfl rfl (Nat.le_of_ble_eq_true rfl) ?_
    rintro _ _ ⟨rfl, rfl⟩
    rw [hr]
    exact w_M_readsP hd hn hn2 hk hO 120 q2 c2 e2 (by omega) hin.2.1

set_option maxRecDepth 100000 in
set_option maxHeartbeats 4000000 in
theorem w_M_readsS_0 {g : zG} {d : Nat} {μ : zMem} {p o : Int32} (hd : 1 ≤ d) : zW g M_readsS d 4 [some (.ref 0)] [] (m3 μ p o 0) (fun v μ' => v = none ∧ μ' = m3 μ p o 0) := by
  refine zb M_readsS_s4 rfl ?_
  refine zcallV M_readsS_d7 k11_197 (by omega) (c_M_isNext_0) rfl rfl rfl (Nat.le_of_ble_eq_true rfl) ?_
  rintro _ _ ⟨rfl, rfl⟩
  refine z_ne M_readsS_d10 (tgt := 22) rfl (fun h10 => absurd (rfl : (0 : Int32) = 0) h10) (fun h10 => ?_)
  refine zb M_readsS_s13 rfl ?_
  refine zcallV M_readsS_d16 k11_197 (by omega) (c_M_isNext_0) rfl rfl rfl (Nat.le_of_ble_eq_true rfl) ?_
  rintro _ _ ⟨rfl, rfl⟩
  refine z_eq M_readsS_d19 (tgt := 29) rfl (fun h19 => ?_) (fun h19 => absurd (rfl : (0 : Int32) = 0) h19)
  refine z_retV M_readsS_d29 rfl ?_
  exact ⟨rfl, rfl⟩

set_option maxRecDepth 100000 in
set_option maxHeartbeats 4000000 in
theorem w_M_readsS {g : zG} {d : Nat} {μ : zMem} {n k : Nat} {po : Nat → qR} (hd : 2 + 6 * k + 2 ≤ d) (hn : μ.1 0 4 = nI n) (hn2 : n ≤ 120) (hk : qok n po) (hO : ∀ d q o, 2 + 6 * k ≤ d → q ≤ n → o = nI (6 - k) → zM g d M_readsO [.ref 0] (m3 μ (nI q) o 1) (fun v μ' => v = none ∧ μ' = m3 μ (nI (qpos (po q))) o (qfl (po q)))) : ∀ (f q : Nat) (c : qC) (e : qD), n ≤ q + f → q ≤ n → zW g M_readsS d 4 [some (.ref 0)] [] (m3 μ (nI q) (nI (6 - k)) 1) (fun v μ' => v = none ∧ μ' = m3 μ (nI (qpos (qlp (μ.1 32) n (qP (μ.1 32) n po) qop2 f q c e))) (nI (6 - k)) (qfl (qlp (μ.1 32) n (qP (μ.1 32) n po) qop2 f q c e))) := by
  intro f
  induction f with
  | zero =>
    intro q c e hf hq
    have hx : qnx (μ.1 32) n q = -1 := if_neg (by omega)
    have hs0 : ¬ qnx (μ.1 32) n q = 43 := by rw [hx]; decide
    have hs1 : ¬ qnx (μ.1 32) n q = 45 := by rw [hx]; decide
    refine zb M_readsS_s4 rfl ?_
    refine zcallV M_readsS_d7 k11_197 (by omega) (c_M_isNext_n (by omega) hn hn2 (by omega) hs0) rfl rfl rfl (Nat.le_of_ble_eq_true rfl) ?_
    rintro _ _ ⟨rfl, rfl⟩
    refine z_ne M_readsS_d10 (tgt := 22) rfl (fun h10 => absurd (rfl : (0 : Int32) = 0) h10) (fun h10 => ?_)
    refine zb M_readsS_s13 rfl ?_
    refine zcallV M_readsS_d16 k11_197 (by omega) (c_M_isNext_n (by omega) hn hn2 (by omega) hs1) rfl rfl rfl (Nat.le_of_ble_eq_true rfl) ?_
    rintro _ _ ⟨rfl, rfl⟩
    refine z_eq M_readsS_d19 (tgt := 29) rfl (fun h19 => ?_) (fun h19 => absurd (rfl : (0 : Int32) = 0) h19)
    refine z_retV M_readsS_d29 rfl ?_
    exact ⟨rfl, rfl⟩
  | succ f ih =>
    intro q c e hf hq
    by_cases hs0 : qnx (μ.1 32) n q = 43
    · have hq1 : q < n := qnx_lt (by rw [hs0]; decide)
      have hop : qop2 (qnx (μ.1 32) n q) = true := by rw [hs0]; rfl
      have hin := (qE_ok (T := μ.1 32) hk).1 (q + 1)
      simp only [qlp, if_pos hop]
      cases hr : (qP (μ.1 32) n po) (q + 1) with
      | inl q2 =>
        rw [hr] at hin
        refine zb M_readsS_s4 rfl ?_
        refine zcallV M_readsS_d7 k11_197 (by omega) (c_M_isNext_y (by omega) hn hn2 (by omega) hs0) rfl rfl rfl (Nat.le_of_ble_eq_true rfl) ?_
        rintro _ _ ⟨rfl, rfl⟩
        refine z_ne M_readsS_d10 (tgt := 22) rfl (fun h10 => ?_) (fun h10 => absurd h10 (show ¬ (1 : Int32) = 0 by decide))
        refine zb M_readsS_s22 rfl ?_
        refine zcallV M_readsS_d23 k11_204 (by omega) (c_M_readsP (by omega) hn hn2 hk hO (q + 1) (by omega)) rfl rfl rfl (Nat.le_of_ble_eq_true rfl) ?_
        rintro _ _ ⟨rfl, rfl⟩
        rw [hr]
        refine zb M_readsS_s26 rfl ?_
        exact w_M_readsS_0 (by omega)
      | inr z =>
        obtain ⟨q2, c2, e2⟩ := z
        rw [hr] at hin
        refine zb M_readsS_s4 rfl ?_
        refine zcallV M_readsS_d7 k11_197 (by omega) (c_M_isNext_y (by omega) hn hn2 (by omega) hs0) rfl rfl rfl (Nat.le_of_ble_eq_true rfl) ?_
        rintro _ _ ⟨rfl, rfl⟩
        refine z_ne M_readsS_d10 (tgt := 22) rfl (fun h10 => ?_) (fun h10 => absurd h10 (show ¬ (1 : Int32) = 0 by decide))
        refine zb M_readsS_s22 rfl ?_
        refine zcallV M_readsS_d23 k11_204 (by omega) (c_M_readsP (by omega) hn hn2 hk hO (q + 1) (by omega)) rfl rfl rfl (Nat.le_of_ble_eq_true rfl) ?_
        rintro _ _ ⟨rfl, rfl⟩
        rw [hr]
        refine zb M_readsS_s26 rfl ?_
        exact ih q2 _ _ (by omega) (by omega)
    · by_cases hs1 : qnx (μ.1 32) n q = 45
      · have hq1 : q < n := qnx_lt (by rw [hs1]; decide)
        have hop : qop2 (qnx (μ.1 32) n q) = true := by rw [hs1]; rfl
        have hin := (qE_ok (T := μ.1 32) hk).1 (q + 1)
        simp only [qlp, if_pos hop]
        cases hr : (qP (μ.1 32) n po) (q + 1) with
        | inl q2 =>
          rw [hr] at hin
          refine zb M_readsS_s4 rfl ?_
          refine zcallV M_readsS_d7 k11_197 (by omega) (c_M_isNext_n (by omega) hn hn2 (by omega) hs0) rfl rfl rfl (Nat.le_of_ble_eq_true rfl) ?_
          rintro _ _ ⟨rfl, rfl⟩
          refine z_ne M_readsS_d10 (tgt := 22) rfl (fun h10 => absurd (rfl : (0 : Int32) = 0) h10) (fun h10 => ?_)
          refine zb M_readsS_s13 rfl ?_
          refine zcallV M_readsS_d16 k11_197 (by omega) (c_M_isNext_y (by omega) hn hn2 (by omega) hs1) rfl rfl rfl (Nat.le_of_ble_eq_true rfl) ?_
          rintro _ _ ⟨rfl, rfl⟩
          refine z_eq M_readsS_d19 (tgt := 29) rfl (fun h19 => absurd h19 (show ¬ (1 : Int32) = 0 by decide)) (fun h19 => ?_)
          refine zb M_readsS_s22 rfl ?_
          refine zcallV M_readsS_d23 k11_204 (by omega) (c_M_readsP (by omega) hn hn2 hk hO (q + 1) (by omega)) rfl rfl rfl (Nat.le_of_ble_eq_true rfl) ?_
          rintro _ _ ⟨rfl, rfl⟩
          rw [hr]
          refine zb M_readsS_s26 rfl ?_
          exact w_M_readsS_0 (by omega)
        | inr z =>
          obtain ⟨q2, c2, e2⟩ := z
          rw [hr] at hin
          refine zb M_readsS_s4 rfl ?_
          refine zcallV M_readsS_d7 k11_197 (by omega) (c_M_isNext_n (by omega) hn hn2 (by omega) hs0) rfl rfl rfl (Nat.le_of_ble_eq_true rfl) ?_
          rintro _ _ ⟨rfl, rfl⟩
          refine z_ne M_readsS_d10 (tgt := 22) rfl (fun h10 => absurd (rfl : (0 : Int32) = 0) h10) (fun h10 => ?_)
          refine zb M_readsS_s13 rfl ?_
          refine zcallV M_readsS_d16 k11_197 (by omega) (c_M_isNext_y (by omega) hn hn2 (by omega) hs1) rfl rfl rfl (Nat.le_of_ble_eq_true rfl) ?_
          rintro _ _ ⟨rfl, rfl⟩
          refine z_eq M_readsS_d19 (tgt := 29) rfl (fun h19 => absurd h19 (show ¬ (1 : Int32) = 0 by decide)) (fun h19 => ?_)
          refine zb M_readsS_s22 rfl ?_
          refine zcallV M_readsS_d23 k11_204 (by omega) (c_M_readsP (by omega) hn hn2 hk hO (q + 1) (by omega)) rfl rfl rfl (Nat.le_of_ble_eq_true rfl) ?_
          rintro _ _ ⟨rfl, rfl⟩
          rw [hr]
          refine zb M_readsS_s26 rfl ?_
          exact ih q2 _ _ (by omega) (by omega)
      · have hop : ¬ qop2 (qnx (μ.1 32) n q) = true := by simp only [qop2, Bool.or_eq_true, beq_iff_eq]; simp [hs0, hs1]
        simp only [qlp, if_neg hop]
        refine zb M_readsS_s4 rfl ?_
        refine zcallV M_readsS_d7 k11_197 (by omega) (c_M_isNext_n (by omega) hn hn2 (by omega) hs0) rfl rfl rfl (Nat.le_of_ble_eq_true rfl) ?_
        rintro _ _ ⟨rfl, rfl⟩
        refine z_ne M_readsS_d10 (tgt := 22) rfl (fun h10 => absurd (rfl : (0 : Int32) = 0) h10) (fun h10 => ?_)
        refine zb M_readsS_s13 rfl ?_
        refine zcallV M_readsS_d16 k11_197 (by omega) (c_M_isNext_n (by omega) hn hn2 (by omega) hs1) rfl rfl rfl (Nat.le_of_ble_eq_true rfl) ?_
        rintro _ _ ⟨rfl, rfl⟩
        refine z_eq M_readsS_d19 (tgt := 29) rfl (fun h19 => ?_) (fun h19 => absurd (rfl : (0 : Int32) = 0) h19)
        refine z_retV M_readsS_d29 rfl ?_
        exact ⟨rfl, rfl⟩

set_option maxRecDepth 100000 in
set_option maxHeartbeats 4000000 in
theorem c_M_readsS {g : zG} {d : Nat} {μ : zMem} {n k : Nat} {po : Nat → qR} (hd : 2 + 6 * k + 2 ≤ d) (hn : μ.1 0 4 = nI n) (hn2 : n ≤ 120) (hk : qok n po) (hO : ∀ d q o, 2 + 6 * k ≤ d → q ≤ n → o = nI (6 - k) → zM g d M_readsO [.ref 0] (m3 μ (nI q) o 1) (fun v μ' => v = none ∧ μ' = m3 μ (nI (qpos (po q))) o (qfl (po q)))) (q : Nat) (hq : q ≤ n) : zM g d M_readsS [.ref 0] (m3 μ (nI q) (nI (6 - k)) 1) (fun v μ' => v = none ∧ μ' = m3 μ (nI (qpos (qS (μ.1 32) n po q))) (nI (6 - k)) (qfl (qS (μ.1 32) n po q))) := by
  refine zM_of (by decide +kernel) rfl rfl (Nat.le_of_ble_eq_true rfl) rfl ?_
  have hin := (qE_ok (T := μ.1 32) hk).1 q
  show zW g M_readsS d 0 _ [] _ (fun v μ' => v = none ∧ μ' = m3 μ (nI (qpos (qbin (μ.1 32) n (qP (μ.1 32) n po) qop2 120 q))) (nI (6 - k)) (qfl (qbin (μ.1 32) n (qP (μ.1 32) n po) qop2 120 q)))
  unfold qbin
  cases hr : (qP (μ.1 32) n po) q with
  | inl q2 =>
    rw [hr] at hin
    refine zb M_readsS_s0 rfl ?_
    refine zcallV M_readsS_d1 k11_204 (by omega) (c_M_readsP (by omega) hn hn2 hk hO q (by omega)) rfl rfl rfl (Nat.le_of_ble_eq_true rfl) ?_
    rintro _ _ ⟨rfl, rfl⟩
    rw [hr]
    exact w_M_readsS_0 (by omega)
  | inr z =>
    obtain ⟨q2, c2, e2⟩ := z
    rw [hr] at hin
    refine zb M_readsS_s0 rfl ?_
    refine zcallV M_readsS_d1 k11_204 (by omega) (c_M_readsP (by omega) hn hn2 hk hO q (by omega)) rfl rfl rfl (Nat.le_of_ble_eq_true rfl) ?_
    rintro _ _ ⟨rfl, rfl⟩
    rw [hr]
    exact w_M_readsS hd hn hn2 hk hO 120 q2 c2 e2 (by omega) hin.2.1

set_option maxRecDepth 100000 in
set_option maxHeartbeats 4000000 in
theorem w_M_readsB_0 {g : zG} {d : Nat} {μ : zMem} {p o : Int32} (hd : 1 ≤ d) : zW g M_readsB d 4 [some (.ref 0)] [] (m3 μ p o 0) (fun v μ' => v = none ∧ μ' = m3 μ p o 0) := by
  refine zb M_readsB_s4 rfl ?_
  refine zcallV M_readsB_d7 k11_197 (by omega) (c_M_isNext_0) rfl rfl rfl (Nat.le_of_ble_eq_true rfl) ?_
  rintro _ _ ⟨rfl, rfl⟩
  refine z_ne M_readsB_d10 (tgt := 31) rfl (fun h10 => absurd (rfl : (0 : Int32) = 0) h10) (fun h10 => ?_)
  refine zb M_readsB_s13 rfl ?_
  refine zcallV M_readsB_d16 k11_197 (by omega) (c_M_isNext_0) rfl rfl rfl (Nat.le_of_ble_eq_true rfl) ?_
  rintro _ _ ⟨rfl, rfl⟩
  refine z_ne M_readsB_d19 (tgt := 31) rfl (fun h19 => absurd (rfl : (0 : Int32) = 0) h19) (fun h19 => ?_)
  refine zb M_readsB_s22 rfl ?_
  refine zcallV M_readsB_d25 k11_197 (by omega) (c_M_isNext_0) rfl rfl rfl (Nat.le_of_ble_eq_true rfl) ?_
  rintro _ _ ⟨rfl, rfl⟩
  refine z_eq M_readsB_d28 (tgt := 35) rfl (fun h28 => ?_) (fun h28 => absurd (rfl : (0 : Int32) = 0) h28)
  refine z_retV M_readsB_d35 rfl ?_
  exact ⟨rfl, rfl⟩

set_option maxRecDepth 100000 in
set_option maxHeartbeats 4000000 in
theorem c_M_readsB {g : zG} {d : Nat} {μ : zMem} {n k : Nat} {po : Nat → qR} (hd : 2 + 6 * k + 3 ≤ d) (hn : μ.1 0 4 = nI n) (hn2 : n ≤ 120) (hk : qok n po) (hO : ∀ d q o, 2 + 6 * k ≤ d → q ≤ n → o = nI (6 - k) → zM g d M_readsO [.ref 0] (m3 μ (nI q) o 1) (fun v μ' => v = none ∧ μ' = m3 μ (nI (qpos (po q))) o (qfl (po q)))) (q : Nat) (hq : q ≤ n) : zM g d M_readsB [.ref 0] (m3 μ (nI q) (nI (6 - k)) 1) (fun v μ' => v = none ∧ μ' = m3 μ (nI (qpos (qBB (μ.1 32) n po q))) (nI (6 - k)) (qfl (qBB (μ.1 32) n po q))) := by
  refine zM_of (by decide +kernel) rfl rfl (Nat.le_of_ble_eq_true rfl) rfl ?_
  have hin := (qE_ok (T := μ.1 32) hk).2.1 q
  show zW g M_readsB d 0 _ [] _ (fun v μ' => v = none ∧ μ' = m3 μ (nI (qpos (qbin (μ.1 32) n (qS (μ.1 32) n po) qopB 1 q))) (nI (6 - k)) (qfl (qbin (μ.1 32) n (qS (μ.1 32) n po) qopB 1 q)))
  unfold qbin
  cases hr : (qS (μ.1 32) n po) q with
  | inl q2 =>
    rw [hr] at hin
    refine zb M_readsB_s0 rfl ?_
    refine zcallV M_readsB_d1 k11_207 (by omega) (c_M_readsS (by omega) hn hn2 hk hO q (by omega)) rfl rfl rfl (Nat.le_of_ble_eq_true rfl) ?_
    rintro _ _ ⟨rfl, rfl⟩
    rw [hr]
    exact w_M_readsB_0 (by omega)
  | inr z =>
    obtain ⟨q1, c1, e1⟩ := z
    rw [hr] at hin
    simp only [qlp]
    refine zb M_readsB_s0 rfl ?_
    refine zcallV M_readsB_d1 k11_207 (by omega) (c_M_readsS (by omega) hn hn2 hk hO q (by omega)) rfl rfl rfl (Nat.le_of_ble_eq_true rfl) ?_
    rintro _ _ ⟨rfl, rfl⟩
    rw [hr]
    have hq1n : q1 ≤ n := hin.2.1
    by_cases hs0 : qnx (μ.1 32) n q1 = 60
    · have hq1 : q1 < n := qnx_lt (by rw [hs0]; decide)
      have hop : qopB (qnx (μ.1 32) n q1) = true := by rw [hs0]; rfl
      rw [if_pos hop]
      cases hr2 : (qS (μ.1 32) n po) (q1 + 1) with
      | inl q2 =>
        refine zb M_readsB_s4 rfl ?_
        refine zcallV M_readsB_d7 k11_197 (by omega) (c_M_isNext_y (q := q1) (by omega) hn hn2 (by omega) hs0) rfl rfl rfl (Nat.le_of_ble_eq_true rfl) ?_
        rintro _ _ ⟨rfl, rfl⟩
        refine z_ne M_readsB_d10 (tgt := 31) rfl (fun h10 => ?_) (fun h10 => absurd h10 (show ¬ (1 : Int32) = 0 by decide))
        refine zb M_readsB_s31 rfl ?_
        refine zcallV M_readsB_d32 k11_207 (by omega) (c_M_readsS (by omega) hn hn2 hk hO (q1 + 1) (by omega)) rfl rfl rfl (Nat.le_of_ble_eq_true rfl) ?_
        rintro _ _ ⟨rfl, rfl⟩
        rw [hr2]
        refine z_retV M_readsB_d35 rfl ?_
        exact ⟨rfl, rfl⟩
      | inr z =>
        obtain ⟨q2, c2, e2⟩ := z
        refine zb M_readsB_s4 rfl ?_
        refine zcallV M_readsB_d7 k11_197 (by omega) (c_M_isNext_y (q := q1) (by omega) hn hn2 (by omega) hs0) rfl rfl rfl (Nat.le_of_ble_eq_true rfl) ?_
        rintro _ _ ⟨rfl, rfl⟩
        refine z_ne M_readsB_d10 (tgt := 31) rfl (fun h10 => ?_) (fun h10 => absurd h10 (show ¬ (1 : Int32) = 0 by decide))
        refine zb M_readsB_s31 rfl ?_
        refine zcallV M_readsB_d32 k11_207 (by omega) (c_M_readsS (by omega) hn hn2 hk hO (q1 + 1) (by omega)) rfl rfl rfl (Nat.le_of_ble_eq_true rfl) ?_
        rintro _ _ ⟨rfl, rfl⟩
        rw [hr2]
        refine z_retV M_readsB_d35 rfl ?_
        exact ⟨rfl, rfl⟩
    · by_cases hs1 : qnx (μ.1 32) n q1 = 61
      · have hq1 : q1 < n := qnx_lt (by rw [hs1]; decide)
        have hop : qopB (qnx (μ.1 32) n q1) = true := by rw [hs1]; rfl
        rw [if_pos hop]
        cases hr2 : (qS (μ.1 32) n po) (q1 + 1) with
        | inl q2 =>
          refine zb M_readsB_s4 rfl ?_
          refine zcallV M_readsB_d7 k11_197 (by omega) (c_M_isNext_n (q := q1) (by omega) hn hn2 (by omega) hs0) rfl rfl rfl (Nat.le_of_ble_eq_true rfl) ?_
          rintro _ _ ⟨rfl, rfl⟩
          refine z_ne M_readsB_d10 (tgt := 31) rfl (fun h10 => absurd (rfl : (0 : Int32) = 0) h10) (fun h10 => ?_)
          refine zb M_readsB_s13 rfl ?_
          refine zcallV M_readsB_d16 k11_197 (by omega) (c_M_isNext_y (q := q1) (by omega) hn hn2 (by omega) hs1) rfl rfl rfl (Nat.le_of_ble_eq_true rfl) ?_
          rintro _ _ ⟨rfl, rfl⟩
          refine z_ne M_readsB_d19 (tgt := 31) rfl (fun h19 => ?_) (fun h19 => absurd h19 (show ¬ (1 : Int32) = 0 by decide))
          refine zb M_readsB_s31 rfl ?_
          refine zcallV M_readsB_d32 k11_207 (by omega) (c_M_readsS (by omega) hn hn2 hk hO (q1 + 1) (by omega)) rfl rfl rfl (Nat.le_of_ble_eq_true rfl) ?_
          rintro _ _ ⟨rfl, rfl⟩
          rw [hr2]
          refine z_retV M_readsB_d35 rfl ?_
          exact ⟨rfl, rfl⟩
        | inr z =>
          obtain ⟨q2, c2, e2⟩ := z
          refine zb M_readsB_s4 rfl ?_
          refine zcallV M_readsB_d7 k11_197 (by omega) (c_M_isNext_n (q := q1) (by omega) hn hn2 (by omega) hs0) rfl rfl rfl (Nat.le_of_ble_eq_true rfl) ?_
          rintro _ _ ⟨rfl, rfl⟩
          refine z_ne M_readsB_d10 (tgt := 31) rfl (fun h10 => absurd (rfl : (0 : Int32) = 0) h10) (fun h10 => ?_)
          refine zb M_readsB_s13 rfl ?_
          refine zcallV M_readsB_d16 k11_197 (by omega) (c_M_isNext_y (q := q1) (by omega) hn hn2 (by omega) hs1) rfl rfl rfl (Nat.le_of_ble_eq_true rfl) ?_
          rintro _ _ ⟨rfl, rfl⟩
          refine z_ne M_readsB_d19 (tgt := 31) rfl (fun h19 => ?_) (fun h19 => absurd h19 (show ¬ (1 : Int32) = 0 by decide))
          refine zb M_readsB_s31 rfl ?_
          refine zcallV M_readsB_d32 k11_207 (by omega) (c_M_readsS (by omega) hn hn2 hk hO (q1 + 1) (by omega)) rfl rfl rfl (Nat.le_of_ble_eq_true rfl) ?_
          rintro _ _ ⟨rfl, rfl⟩
          rw [hr2]
          refine z_retV M_readsB_d35 rfl ?_
          exact ⟨rfl, rfl⟩
      · by_cases hs2 : qnx (μ.1 32) n q1 = 62
        · have hq1 : q1 < n := qnx_lt (by rw [hs2]; decide)
          have hop : qopB (qnx (μ.1 32) n q1) = true := by rw [hs2]; rfl
          rw [if_pos hop]
          cases hr2 : (qS (μ.1 32) n po) (q1 + 1) with
          | inl q2 =>
            refine zb M_readsB_s4 rfl ?_
            refine zcallV M_readsB_d7 k11_197 (by omega) (c_M_isNext_n (q := q1) (by omega) hn hn2 (by omega) hs0) rfl rfl rfl (Nat.le_of_ble_eq_true rfl) ?_
            rintro _ _ ⟨rfl, rfl⟩
            refine z_ne M_readsB_d10 (tgt := 31) rfl (fun h10 => absurd (rfl : (0 : Int32) = 0) h10) (fun h10 => ?_)
            refine zb M_readsB_s13 rfl ?_
            refine zcallV M_readsB_d16 k11_197 (by omega) (c_M_isNext_n (q := q1) (by omega) hn hn2 (by omega) hs1) rfl rfl rfl (Nat.le_of_ble_eq_true rfl) ?_
            rintro _ _ ⟨rfl, rfl⟩
            refine z_ne M_readsB_d19 (tgt := 31) rfl (fun h19 => absurd (rfl : (0 : Int32) = 0) h19) (fun h19 => ?_)
            refine zb M_readsB_s22 rfl ?_
            refine zcallV M_readsB_d25 k11_197 (by omega) (c_M_isNext_y (q := q1) (by omega) hn hn2 (by omega) hs2) rfl rfl rfl (Nat.le_of_ble_eq_true rfl) ?_
            rintro _ _ ⟨rfl, rfl⟩
            refine z_eq M_readsB_d28 (tgt := 35) rfl (fun h28 => absurd h28 (show ¬ (1 : Int32) = 0 by decide)) (fun h28 => ?_)
            refine zb M_readsB_s31 rfl ?_
            refine zcallV M_readsB_d32 k11_207 (by omega) (c_M_readsS (by omega) hn hn2 hk hO (q1 + 1) (by omega)) rfl rfl rfl (Nat.le_of_ble_eq_true rfl) ?_
            rintro _ _ ⟨rfl, rfl⟩
            rw [hr2]
            refine z_retV M_readsB_d35 rfl ?_
            exact ⟨rfl, rfl⟩
          | inr z =>
            obtain ⟨q2, c2, e2⟩ := z
            refine zb M_readsB_s4 rfl ?_
            refine zcallV M_readsB_d7 k11_197 (by omega) (c_M_isNext_n (q := q1) (by omega) hn hn2 (by omega) hs0) rfl rfl rfl (Nat.le_of_ble_eq_true rfl) ?_
            rintro _ _ ⟨rfl, rfl⟩
            refine z_ne M_readsB_d10 (tgt := 31) rfl (fun h10 => absurd (rfl : (0 : Int32) = 0) h10) (fun h10 => ?_)
            refine zb M_readsB_s13 rfl ?_
            refine zcallV M_readsB_d16 k11_197 (by omega) (c_M_isNext_n (q := q1) (by omega) hn hn2 (by omega) hs1) rfl rfl rfl (Nat.le_of_ble_eq_true rfl) ?_
            rintro _ _ ⟨rfl, rfl⟩
            refine z_ne M_readsB_d19 (tgt := 31) rfl (fun h19 => absurd (rfl : (0 : Int32) = 0) h19) (fun h19 => ?_)
            refine zb M_readsB_s22 rfl ?_
            refine zcallV M_readsB_d25 k11_197 (by omega) (c_M_isNext_y (q := q1) (by omega) hn hn2 (by omega) hs2) rfl rfl rfl (Nat.le_of_ble_eq_true rfl) ?_
            rintro _ _ ⟨rfl, rfl⟩
            refine z_eq M_readsB_d28 (tgt := 35) rfl (fun h28 => absurd h28 (show ¬ (1 : Int32) = 0 by decide)) (fun h28 => ?_)
            refine zb M_readsB_s31 rfl ?_
            refine zcallV M_readsB_d32 k11_207 (by omega) (c_M_readsS (by omega) hn hn2 hk hO (q1 + 1) (by omega)) rfl rfl rfl (Nat.le_of_ble_eq_true rfl) ?_
            rintro _ _ ⟨rfl, rfl⟩
            rw [hr2]
            refine z_retV M_readsB_d35 rfl ?_
            exact ⟨rfl, rfl⟩
        · have hop : ¬ qopB (qnx (μ.1 32) n q1) = true := by simp only [qopB, Bool.or_eq_true, beq_iff_eq]; simp [hs0, hs1, hs2]
          rw [if_neg hop]
          refine zb M_readsB_s4 rfl ?_
          refine zcallV M_readsB_d7 k11_197 (by omega) (c_M_isNext_n (q := q1) (by omega) hn hn2 (by omega) hs0) rfl rfl rfl (Nat.le_of_ble_eq_true rfl) ?_
          rintro _ _ ⟨rfl, rfl⟩
          refine z_ne M_readsB_d10 (tgt := 31) rfl (fun h10 => absurd (rfl : (0 : Int32) = 0) h10) (fun h10 => ?_)
          refine zb M_readsB_s13 rfl ?_
          refine zcallV M_readsB_d16 k11_197 (by omega) (c_M_isNext_n (q := q1) (by omega) hn hn2 (by omega) hs1) rfl rfl rfl (Nat.le_of_ble_eq_true rfl) ?_
          rintro _ _ ⟨rfl, rfl⟩
          refine z_ne M_readsB_d19 (tgt := 31) rfl (fun h19 => absurd (rfl : (0 : Int32) = 0) h19) (fun h19 => ?_)
          refine zb M_readsB_s22 rfl ?_
          refine zcallV M_readsB_d25 k11_197 (by omega) (c_M_isNext_n (q := q1) (by omega) hn hn2 (by omega) hs2) rfl rfl rfl (Nat.le_of_ble_eq_true rfl) ?_
          rintro _ _ ⟨rfl, rfl⟩
          refine z_eq M_readsB_d28 (tgt := 35) rfl (fun h28 => ?_) (fun h28 => absurd (rfl : (0 : Int32) = 0) h28)
          refine z_retV M_readsB_d35 rfl ?_
          exact ⟨rfl, rfl⟩

set_option maxRecDepth 100000 in
set_option maxHeartbeats 4000000 in
theorem w_M_readsA_0 {g : zG} {d : Nat} {μ : zMem} {p o : Int32} (hd : 1 ≤ d) : zW g M_readsA d 4 [some (.ref 0)] [] (m3 μ p o 0) (fun v μ' => v = none ∧ μ' = m3 μ p o 0) := by
  refine zb M_readsA_s4 rfl ?_
  refine zcallV M_readsA_d7 k11_197 (by omega) (c_M_isNext_0) rfl rfl rfl (Nat.le_of_ble_eq_true rfl) ?_
  rintro _ _ ⟨rfl, rfl⟩
  refine z_eq M_readsA_d10 (tgt := 20) rfl (fun h10 => ?_) (fun h10 => absurd (rfl : (0 : Int32) = 0) h10)
  refine z_retV M_readsA_d20 rfl ?_
  exact ⟨rfl, rfl⟩

set_option maxRecDepth 100000 in
set_option maxHeartbeats 4000000 in
theorem w_M_readsA {g : zG} {d : Nat} {μ : zMem} {n k : Nat} {po : Nat → qR} (hd : 2 + 6 * k + 4 ≤ d) (hn : μ.1 0 4 = nI n) (hn2 : n ≤ 120) (hk : qok n po) (hO : ∀ d q o, 2 + 6 * k ≤ d → q ≤ n → o = nI (6 - k) → zM g d M_readsO [.ref 0] (m3 μ (nI q) o 1) (fun v μ' => v = none ∧ μ' = m3 μ (nI (qpos (po q))) o (qfl (po q)))) : ∀ (f q : Nat) (c : qC) (e : qD), n ≤ q + f → q ≤ n → zW g M_readsA d 4 [some (.ref 0)] [] (m3 μ (nI q) (nI (6 - k)) 1) (fun v μ' => v = none ∧ μ' = m3 μ (nI (qpos (qlp (μ.1 32) n (qBB (μ.1 32) n po) qopA f q c e))) (nI (6 - k)) (qfl (qlp (μ.1 32) n (qBB (μ.1 32) n po) qopA f q c e))) := by
  intro f
  induction f with
  | zero =>
    intro q c e hf hq
    have hx : qnx (μ.1 32) n q = -1 := if_neg (by omega)
    have hs0 : ¬ qnx (μ.1 32) n q = 38 := by rw [hx]; decide
    refine zb M_readsA_s4 rfl ?_
    refine zcallV M_readsA_d7 k11_197 (by omega) (c_M_isNext_n (by omega) hn hn2 (by omega) hs0) rfl rfl rfl (Nat.le_of_ble_eq_true rfl) ?_
    rintro _ _ ⟨rfl, rfl⟩
    refine z_eq M_readsA_d10 (tgt := 20) rfl (fun h10 => ?_) (fun h10 => absurd (rfl : (0 : Int32) = 0) h10)
    refine z_retV M_readsA_d20 rfl ?_
    exact ⟨rfl, rfl⟩
  | succ f ih =>
    intro q c e hf hq
    by_cases hs0 : qnx (μ.1 32) n q = 38
    · have hq1 : q < n := qnx_lt (by rw [hs0]; decide)
      have hop : qopA (qnx (μ.1 32) n q) = true := by rw [hs0]; rfl
      have hin := (qE_ok (T := μ.1 32) hk).2.2.1 (q + 1)
      simp only [qlp, if_pos hop]
      cases hr : (qBB (μ.1 32) n po) (q + 1) with
      | inl q2 =>
        rw [hr] at hin
        refine zb M_readsA_s4 rfl ?_
        refine zcallV M_readsA_d7 k11_197 (by omega) (c_M_isNext_y (by omega) hn hn2 (by omega) hs0) rfl rfl rfl (Nat.le_of_ble_eq_true rfl) ?_
        rintro _ _ ⟨rfl, rfl⟩
        refine z_eq M_readsA_d10 (tgt := 20) rfl (fun h10 => absurd h10 (show ¬ (1 : Int32) = 0 by decide)) (fun h10 => ?_)
        refine zb M_readsA_s13 rfl ?_
        refine zcallV M_readsA_d14 k11_210 (by omega) (c_M_readsB (by omega) hn hn2 hk hO (q + 1) (by omega)) rfl rfl rfl (Nat.le_of_ble_eq_true rfl) ?_
        rintro _ _ ⟨rfl, rfl⟩
        rw [hr]
        refine zb M_readsA_s17 rfl ?_
        exact w_M_readsA_0 (by omega)
      | inr z =>
        obtain ⟨q2, c2, e2⟩ := z
        rw [hr] at hin
        refine zb M_readsA_s4 rfl ?_
        refine zcallV M_readsA_d7 k11_197 (by omega) (c_M_isNext_y (by omega) hn hn2 (by omega) hs0) rfl rfl rfl (Nat.le_of_ble_eq_true rfl) ?_
        rintro _ _ ⟨rfl, rfl⟩
        refine z_eq M_readsA_d10 (tgt := 20) rfl (fun h10 => absurd h10 (show ¬ (1 : Int32) = 0 by decide)) (fun h10 => ?_)
        refine zb M_readsA_s13 rfl ?_
        refine zcallV M_readsA_d14 k11_210 (by omega) (c_M_readsB (by omega) hn hn2 hk hO (q + 1) (by omega)) rfl rfl rfl (Nat.le_of_ble_eq_true rfl) ?_
        rintro _ _ ⟨rfl, rfl⟩
        rw [hr]
        refine zb M_readsA_s17 rfl ?_
        exact ih q2 _ _ (by omega) (by omega)
    · have hop : ¬ qopA (qnx (μ.1 32) n q) = true := by simp only [qopA, Bool.or_eq_true, beq_iff_eq]; simp [hs0]
      simp only [qlp, if_neg hop]
      refine zb M_readsA_s4 rfl ?_
      refine zcallV M_readsA_d7 k11_197 (by omega) (c_M_isNext_n (by omega) hn hn2 (by omega) hs0) rfl rfl rfl (Nat.le_of_ble_eq_true rfl) ?_
      rintro _ _ ⟨rfl, rfl⟩
      refine z_eq M_readsA_d10 (tgt := 20) rfl (fun h10 => ?_) (fun h10 => absurd (rfl : (0 : Int32) = 0) h10)
      refine z_retV M_readsA_d20 rfl ?_
      exact ⟨rfl, rfl⟩

set_option maxRecDepth 100000 in
set_option maxHeartbeats 4000000 in
theorem c_M_readsA {g : zG} {d : Nat} {μ : zMem} {n k : Nat} {po : Nat → qR} (hd : 2 + 6 * k + 4 ≤ d) (hn : μ.1 0 4 = nI n) (hn2 : n ≤ 120) (hk : qok n po) (hO : ∀ d q o, 2 + 6 * k ≤ d → q ≤ n → o = nI (6 - k) → zM g d M_readsO [.ref 0] (m3 μ (nI q) o 1) (fun v μ' => v = none ∧ μ' = m3 μ (nI (qpos (po q))) o (qfl (po q)))) (q : Nat) (hq : q ≤ n) : zM g d M_readsA [.ref 0] (m3 μ (nI q) (nI (6 - k)) 1) (fun v μ' => v = none ∧ μ' = m3 μ (nI (qpos (qA (μ.1 32) n po q))) (nI (6 - k)) (qfl (qA (μ.1 32) n po q))) := by
  refine zM_of (by decide +kernel) rfl rfl (Nat.le_of_ble_eq_true rfl) rfl ?_
  have hin := (qE_ok (T := μ.1 32) hk).2.2.1 q
  show zW g M_readsA d 0 _ [] _ (fun v μ' => v = none ∧ μ' = m3 μ (nI (qpos (qbin (μ.1 32) n (qBB (μ.1 32) n po) qopA 120 q))) (nI (6 - k)) (qfl (qbin (μ.1 32) n (qBB (μ.1 32) n po) qopA 120 q)))
  unfold qbin
  cases hr : (qBB (μ.1 32) n po) q with
  | inl q2 =>
    rw [hr] at hin
    refine zb M_readsA_s0 rfl ?_
    refine zcallV M_readsA_d1 k11_210 (by omega) (c_M_readsB (by omega) hn hn2 hk hO q (by omega)) rfl rfl rfl (Nat.le_of_ble_eq_true rfl) ?_
    rintro _ _ ⟨rfl, rfl⟩
    rw [hr]
    exact w_M_readsA_0 (by omega)
  | inr z =>
    obtain ⟨q2, c2, e2⟩ := z
    rw [hr] at hin
    refine zb M_readsA_s0 rfl ?_
    refine zcallV M_readsA_d1 k11_210 (by omega) (c_M_readsB (by omega) hn hn2 hk hO q (by omega)) rfl rfl rfl (Nat.le_of_ble_eq_true rfl) ?_
    rintro _ _ ⟨rfl, rfl⟩
    rw [hr]
    exact w_M_readsA hd hn hn2 hk hO 120 q2 c2 e2 (by omega) hin.2.1

set_option maxRecDepth 100000 in
set_option maxHeartbeats 4000000 in
theorem w_M_readsE_0 {g : zG} {d : Nat} {μ : zMem} {p o : Int32} (hd : 1 ≤ d) : zW g M_readsE d 4 [some (.ref 0)] [] (m3 μ p o 0) (fun v μ' => v = none ∧ μ' = m3 μ p o 0) := by
  refine zb M_readsE_s4 rfl ?_
  refine zcallV M_readsE_d7 k11_197 (by omega) (c_M_isNext_0) rfl rfl rfl (Nat.le_of_ble_eq_true rfl) ?_
  rintro _ _ ⟨rfl, rfl⟩
  refine z_eq M_readsE_d10 (tgt := 20) rfl (fun h10 => ?_) (fun h10 => absurd (rfl : (0 : Int32) = 0) h10)
  refine z_retV M_readsE_d20 rfl ?_
  exact ⟨rfl, rfl⟩

set_option maxRecDepth 100000 in
set_option maxHeartbeats 4000000 in
theorem w_M_readsE {g : zG} {d : Nat} {μ : zMem} {n k : Nat} {po : Nat → qR} (hd : 2 + 6 * k + 5 ≤ d) (hn : μ.1 0 4 = nI n) (hn2 : n ≤ 120) (hk : qok n po) (hO : ∀ d q o, 2 + 6 * k ≤ d → q ≤ n → o = nI (6 - k) → zM g d M_readsO [.ref 0] (m3 μ (nI q) o 1) (fun v μ' => v = none ∧ μ' = m3 μ (nI (qpos (po q))) o (qfl (po q)))) : ∀ (f q : Nat) (c : qC) (e : qD), n ≤ q + f → q ≤ n → zW g M_readsE d 4 [some (.ref 0)] [] (m3 μ (nI q) (nI (6 - k)) 1) (fun v μ' => v = none ∧ μ' = m3 μ (nI (qpos (qlp (μ.1 32) n (qA (μ.1 32) n po) qopE f q c e))) (nI (6 - k)) (qfl (qlp (μ.1 32) n (qA (μ.1 32) n po) qopE f q c e))) := by
  intro f
  induction f with
  | zero =>
    intro q c e hf hq
    have hx : qnx (μ.1 32) n q = -1 := if_neg (by omega)
    have hs0 : ¬ qnx (μ.1 32) n q = 124 := by rw [hx]; decide
    refine zb M_readsE_s4 rfl ?_
    refine zcallV M_readsE_d7 k11_197 (by omega) (c_M_isNext_n (by omega) hn hn2 (by omega) hs0) rfl rfl rfl (Nat.le_of_ble_eq_true rfl) ?_
    rintro _ _ ⟨rfl, rfl⟩
    refine z_eq M_readsE_d10 (tgt := 20) rfl (fun h10 => ?_) (fun h10 => absurd (rfl : (0 : Int32) = 0) h10)
    refine z_retV M_readsE_d20 rfl ?_
    exact ⟨rfl, rfl⟩
  | succ f ih =>
    intro q c e hf hq
    by_cases hs0 : qnx (μ.1 32) n q = 124
    · have hq1 : q < n := qnx_lt (by rw [hs0]; decide)
      have hop : qopE (qnx (μ.1 32) n q) = true := by rw [hs0]; rfl
      have hin := (qE_ok (T := μ.1 32) hk).2.2.2.1 (q + 1)
      simp only [qlp, if_pos hop]
      cases hr : (qA (μ.1 32) n po) (q + 1) with
      | inl q2 =>
        rw [hr] at hin
        refine zb M_readsE_s4 rfl ?_
        refine zcallV M_readsE_d7 k11_197 (by omega) (c_M_isNext_y (by omega) hn hn2 (by omega) hs0) rfl rfl rfl (Nat.le_of_ble_eq_true rfl) ?_
        rintro _ _ ⟨rfl, rfl⟩
        refine z_eq M_readsE_d10 (tgt := 20) rfl (fun h10 => absurd h10 (show ¬ (1 : Int32) = 0 by decide)) (fun h10 => ?_)
        refine zb M_readsE_s13 rfl ?_
        refine zcallV M_readsE_d14 k11_213 (by omega) (c_M_readsA (by omega) hn hn2 hk hO (q + 1) (by omega)) rfl rfl rfl (Nat.le_of_ble_eq_true rfl) ?_
        rintro _ _ ⟨rfl, rfl⟩
        rw [hr]
        refine zb M_readsE_s17 rfl ?_
        exact w_M_readsE_0 (by omega)
      | inr z =>
        obtain ⟨q2, c2, e2⟩ := z
        rw [hr] at hin
        refine zb M_readsE_s4 rfl ?_
        refine zcallV M_readsE_d7 k11_197 (by omega) (c_M_isNext_y (by omega) hn hn2 (by omega) hs0) rfl rfl rfl (Nat.le_of_ble_eq_true rfl) ?_
        rintro _ _ ⟨rfl, rfl⟩
        refine z_eq M_readsE_d10 (tgt := 20) rfl (fun h10 => absurd h10 (show ¬ (1 : Int32) = 0 by decide)) (fun h10 => ?_)
        refine zb M_readsE_s13 rfl ?_
        refine zcallV M_readsE_d14 k11_213 (by omega) (c_M_readsA (by omega) hn hn2 hk hO (q + 1) (by omega)) rfl rfl rfl (Nat.le_of_ble_eq_true rfl) ?_
        rintro _ _ ⟨rfl, rfl⟩
        rw [hr]
        refine zb M_readsE_s17 rfl ?_
        exact ih q2 _ _ (by omega) (by omega)
    · have hop : ¬ qopE (qnx (μ.1 32) n q) = true := by simp only [qopE, Bool.or_eq_true, beq_iff_eq]; simp [hs0]
      simp only [qlp, if_neg hop]
      refine zb M_readsE_s4 rfl ?_
      refine zcallV M_readsE_d7 k11_197 (by omega) (c_M_isNext_n (by omega) hn hn2 (by omega) hs0) rfl rfl rfl (Nat.le_of_ble_eq_true rfl) ?_
      rintro _ _ ⟨rfl, rfl⟩
      refine z_eq M_readsE_d10 (tgt := 20) rfl (fun h10 => ?_) (fun h10 => absurd (rfl : (0 : Int32) = 0) h10)
      refine z_retV M_readsE_d20 rfl ?_
      exact ⟨rfl, rfl⟩

set_option maxRecDepth 100000 in
set_option maxHeartbeats 4000000 in
theorem c_M_readsE {g : zG} {d : Nat} {μ : zMem} {n k : Nat} {po : Nat → qR} (hd : 2 + 6 * k + 5 ≤ d) (hn : μ.1 0 4 = nI n) (hn2 : n ≤ 120) (hk : qok n po) (hO : ∀ d q o, 2 + 6 * k ≤ d → q ≤ n → o = nI (6 - k) → zM g d M_readsO [.ref 0] (m3 μ (nI q) o 1) (fun v μ' => v = none ∧ μ' = m3 μ (nI (qpos (po q))) o (qfl (po q)))) (q : Nat) (hq : q ≤ n) : zM g d M_readsE [.ref 0] (m3 μ (nI q) (nI (6 - k)) 1) (fun v μ' => v = none ∧ μ' = m3 μ (nI (qpos (qE (μ.1 32) n po q))) (nI (6 - k)) (qfl (qE (μ.1 32) n po q))) := by
  refine zM_of (by decide +kernel) rfl rfl (Nat.le_of_ble_eq_true rfl) rfl ?_
  have hin := (qE_ok (T := μ.1 32) hk).2.2.2.1 q
  show zW g M_readsE d 0 _ [] _ (fun v μ' => v = none ∧ μ' = m3 μ (nI (qpos (qbin (μ.1 32) n (qA (μ.1 32) n po) qopE 120 q))) (nI (6 - k)) (qfl (qbin (μ.1 32) n (qA (μ.1 32) n po) qopE 120 q)))
  unfold qbin
  cases hr : (qA (μ.1 32) n po) q with
  | inl q2 =>
    rw [hr] at hin
    refine zb M_readsE_s0 rfl ?_
    refine zcallV M_readsE_d1 k11_213 (by omega) (c_M_readsA (by omega) hn hn2 hk hO q (by omega)) rfl rfl rfl (Nat.le_of_ble_eq_true rfl) ?_
    rintro _ _ ⟨rfl, rfl⟩
    rw [hr]
    exact w_M_readsE_0 (by omega)
  | inr z =>
    obtain ⟨q2, c2, e2⟩ := z
    rw [hr] at hin
    refine zb M_readsE_s0 rfl ?_
    refine zcallV M_readsE_d1 k11_213 (by omega) (c_M_readsA (by omega) hn hn2 hk hO q (by omega)) rfl rfl rfl (Nat.le_of_ble_eq_true rfl) ?_
    rintro _ _ ⟨rfl, rfl⟩
    rw [hr]
    exact w_M_readsE hd hn hn2 hk hO 120 q2 c2 e2 (by omega) hin.2.1
