/-! the class reads a text -/
def sR (P st ar c k : Nat) : Bool := (c == 3 && k == 2) || (c == P && k == 4) || c == st || c == ar
abbrev rK (P st ar : Nat) : Prop := (P = 11 ∧ st = 89 ∧ ar = 90) ∨ (P = 10 ∧ st = 85 ∧ ar = 86)
def rF (P st ar : Nat) (μ0 : zMem) (p : Nat) (μ : zMem) : Prop := zq (sR P st ar) μ0 μ ∧ μ.1 3 2 = nI p
def rS (P st ar : Nat) (μ0 : zMem) (p : Nat) (c : qC) (μ : zMem) : Prop := zq (sR P st ar) μ0 μ ∧ μ.1 3 2 = nI p ∧ μ.1 P 4 = nI c.length ∧ ∀ i, i < c.length → (μ.1 st i, μ.1 ar i) = zget c i (0, 0)
def rQ (P st ar : Nat) (μ0 : zMem) (c : qC) (z : qR) (v : Option Value) (μ' : zMem) : Prop := match z with
  | .inl q => v = some (.int 0) ∧ rF P st ar μ0 q μ'
  | .inr (q, c1, _) => v = some (.int 1) ∧ rS P st ar μ0 q (c ++ c1) μ'
section RS
variable {P st ar : Nat} {μ0 μ : zMem} {p : Nat} {c : qC}
theorem rS.f (h : rS P st ar μ0 p c μ) : rF P st ar μ0 p μ := ⟨h.1, h.2.1⟩
theorem rF.R {z : Nat → Nat} (h : rF P st ar μ0 p μ) (hR : μ0.2.2 = z) : μ.2.2 = z := (congrArg Prod.snd h.1.2).trans hR
theorem rF.n (hk : rK P st ar) (h : rF P st ar μ0 p μ) : μ.1 3 1 = μ0.1 3 1 := by
  rcases hk with ⟨rfl, rfl, rfl⟩ | ⟨rfl, rfl, rfl⟩ <;> exact h.1.1 3 1 rfl
theorem rF.T (hk : rK P st ar) (h : rF P st ar μ0 p μ) : μ.1 61 = μ0.1 61 := by
  funext k
  rcases hk with ⟨rfl, rfl, rfl⟩ | ⟨rfl, rfl, rfl⟩ <;> exact h.1.1 61 k rfl
theorem rS.adv (hk : rK P st ar) (h : rS P st ar μ0 p c μ) : rS P st ar μ0 (p + 1) c (zpI μ 3 2 (nI (p + 1))) := by
  obtain ⟨h1, h2, h3, h4⟩ := h
  rcases hk with ⟨rfl, rfl, rfl⟩ | ⟨rfl, rfl, rfl⟩ <;> exact ⟨h1.put rfl, zpI_at.trans (if_pos rfl), h3, h4⟩
theorem rS.add (hk : rK P st ar) {s a : Int32} (h : rS P st ar μ0 p c μ) : rS P st ar μ0 p (c ++ [(s, a)]) (zpI (zpI (zpI μ st c.length s) ar c.length a) P 4 (nI (c.length + 1))) := by
  obtain ⟨h1, h2, h3, h4⟩ := h
  have key : ∀ f g : Nat → Int32, (∀ i, i < c.length → (f i, g i) = zget c i (0, 0)) → ∀ i, i < (c ++ [(s, a)]).length → ((if i = c.length then s else f i), (if i = c.length then a else g i)) = zget (c ++ [(s, a)]) i (0, 0) := by
    intro f g hfg i hi
    rw [List.length_append, List.length_cons, List.length_nil] at hi
    by_cases e : i = c.length
    · rw [if_pos e, if_pos e, e]
      have := zget_r (a := c) (b := [(s, a)]) (j := 0)
      rw [Nat.add_zero] at this
      rw [this]
      rfl
    · rw [if_neg e, if_neg e, zget_l (by omega)]
      exact hfg i (by omega)
  have hl : nI (c.length + 1) = nI (c ++ [(s, a)]).length := by rw [List.length_append]; rfl
  rcases hk with ⟨rfl, rfl, rfl⟩ | ⟨rfl, rfl, rfl⟩
  · refine ⟨((h1.put rfl).put rfl).put rfl, h2, (zpI_at.trans (if_pos rfl)).trans hl, fun i hi => ?_⟩
    rw [← key _ _ h4 i hi]
    simp (disch := decide) only [zpI_ne, zpI_at]
  · refine ⟨((h1.put rfl).put rfl).put rfl, h2, (zpI_at.trans (if_pos rfl)).trans hl, fun i hi => ?_⟩
    rw [← key _ _ h4 i hi]
    simp (disch := decide) only [zpI_ne, zpI_at]
theorem zget_set {a b : qC} {s x y : Int32} {j : Nat} (h : ¬ j = a.length) : zget (a ++ [(s, x)] ++ b) j (0, 0) = zget (a ++ [(s, y)] ++ b) j (0, 0) := by
  rw [zget_at, zget_at, List.append_assoc, List.append_assoc, List.singleton_append, List.singleton_append]
  by_cases z : j < a.length
  · rw [List.getElem?_append_left z, List.getElem?_append_left z]
  · have z2 : a.length ≤ j := by omega
    rw [List.getElem?_append_right z2, List.getElem?_append_right z2]
    obtain ⟨k, hk⟩ : ∃ k, j - a.length = k + 1 := ⟨j - a.length - 1, by omega⟩
    rw [hk]
    rfl
theorem zget_mid {a b : qC} {s x : Int32} : zget (a ++ [(s, x)] ++ b) a.length (0, 0) = (s, x) := by
  rw [zget_at, List.append_assoc, List.getElem?_append_right (by omega), Nat.sub_self]
  rfl
theorem rS.arg (hk : rK P st ar) {a b : qC} {s x y : Int32} (h : rS P st ar μ0 p (a ++ [(s, x)] ++ b) μ) : rS P st ar μ0 p (a ++ [(s, y)] ++ b) (zpI μ ar a.length y) := by
  obtain ⟨h1, h2, h3, h4⟩ := h
  have hl : (a ++ [(s, x)] ++ b).length = (a ++ [(s, y)] ++ b).length := by simp
  have hin : a.length < (a ++ [(s, x)] ++ b).length := by simp
  have key : ∀ f g : Nat → Int32, (∀ i, i < (a ++ [(s, x)] ++ b).length → (f i, g i) = zget (a ++ [(s, x)] ++ b) i (0, 0)) → ∀ i, i < (a ++ [(s, y)] ++ b).length → (f i, (if i = a.length then y else g i)) = zget (a ++ [(s, y)] ++ b) i (0, 0) := by
    intro f g hfg i hi
    by_cases e : i = a.length
    · rw [if_pos e, e, zget_mid]
      have := hfg a.length hin
      rw [zget_mid] at this
      rw [(Prod.mk.inj this).1]
    · rw [if_neg e, zget_set (y := x) e]
      exact hfg i (by rw [hl]; exact hi)
  rcases hk with ⟨rfl, rfl, rfl⟩ | ⟨rfl, rfl, rfl⟩
  · refine ⟨h1.put rfl, h2, h3.trans (by rw [hl]), fun i hi => ?_⟩
    rw [← key _ _ h4 i hi, zpI_ne (by decide), zpI_at]
  · refine ⟨h1.put rfl, h2, h3.trans (by rw [hl]), fun i hi => ?_⟩
    rw [← key _ _ h4 i hi, zpI_ne (by decide), zpI_at]
end RS

set_option maxRecDepth 100000 in
set_option maxHeartbeats 4000000 in
theorem x_next {g : zG} {d : Nat} {P st ar : Nat} {μ0 μ : zMem} {n q : Nat} (hk : rK P st ar) (hn : μ0.1 3 1 = nI n) (hn2 : n ≤ 120) (hq : q ≤ 120) (h : rF P st ar μ0 q μ) : zM g d R_next [.ref 3] μ (fun v μ' => v = some (.int (qnx (μ0.1 61) n q)) ∧ μ' = μ) := by
  refine zM_of (by decide +kernel) rfl rfl (Nat.le_of_ble_eq_true rfl) rfl ?_
  have e2 := h.2
  have e1 : μ.1 3 1 = nI n := (h.n hk).trans hn
  have eT := h.T hk
  refine zb R_next_s0 rfl ?_
  refine z_lt R_next_d4 (tgt := 30) rfl (fun h4 => absurd h4 (by rw [e2]; exact nI_pos (by omega))) (fun h4 => ?_)
  refine zb R_next_s7 rfl ?_
  refine z_cge R_next_d15 (tgt := 30) rfl (fun h15 => ?_) (fun h15 => ?_)
  · have hge : n ≤ q := by
      rw [e2, e1] at h15
      exact (nI_leI (by omega) (by omega)).mp h15
    refine zb R_next_s30 rfl ?_
    refine z_ret R_next_d31 rfl ?_
    first
      | exact ⟨by rw [show qnx (μ0.1 61) n q = -1 from if_neg (by omega)], rfl⟩
      | exact ⟨by rw [show qnx (μ0.1 61) n q = μ0.1 61 q from if_pos hlt, eT, e2, nI_clamp (by omega)], rfl⟩
  · have hlt : q < n := by
      rw [e2, e1] at h15
      exact (nI_ltI (by omega) (by omega)).mp (Int32.not_le.mp h15)
    refine zb1 R_next_s18 rfl (by rw [e2]; exact vp_in_nI (by omega) (by omega)) ?_
    refine z_ret R_next_d31 rfl ?_
    first
      | exact ⟨by rw [show qnx (μ0.1 61) n q = -1 from if_neg (by omega)], rfl⟩
      | exact ⟨by rw [show qnx (μ0.1 61) n q = μ0.1 61 q from if_pos hlt, eT, e2, nI_clamp (by omega)], rfl⟩

set_option maxRecDepth 100000 in
set_option maxHeartbeats 4000000 in
theorem x_take_n {g : zG} {d : Nat} {ch : Int32} (hd : 1 ≤ d) {P st ar : Nat} {μ0 μ : zMem} {n q : Nat} (hk : rK P st ar) (hn : μ0.1 3 1 = nI n) (hn2 : n ≤ 120) (hq : q ≤ 120) (h : rF P st ar μ0 q μ) (hc : ¬ qnx (μ0.1 61) n q = ch) : zM g d R_take [.ref 3, .int ch] μ (fun v μ' => v = some (.int 0) ∧ μ' = μ) := by
  refine zM_of (by decide +kernel) rfl rfl (Nat.le_of_ble_eq_true rfl) rfl ?_
  refine zb R_take_s0 rfl ?_
  refine zcallV R_take_d1 k7_38 (by omega) (x_next hk hn hn2 hq h) rfl rfl rfl (Nat.le_of_ble_eq_true rfl) ?_
  rintro _ μx ⟨rfl, hx⟩
  rw [hx]
  clear hx μx
  refine zb R_take_s4 rfl ?_
  refine z_ceq R_take_d5 (tgt := 10) rfl (fun h5 => absurd h5 hc) (fun h5 => ?_)
  refine zb R_take_s8 rfl ?_
  refine z_retZ R_take_d9 rfl (by first | exact Or.inl rfl | exact Or.inr rfl) ?_
  exact ⟨rfl, rfl⟩

set_option maxRecDepth 100000 in
set_option maxHeartbeats 4000000 in
theorem x_take_y {g : zG} {d : Nat} {ch : Int32} (hd : 1 ≤ d) {P st ar : Nat} {μ0 μ : zMem} {n q : Nat} {c : qC} (hk : rK P st ar) (hn : μ0.1 3 1 = nI n) (hn2 : n ≤ 120) (hq : q ≤ 120) (h : rS P st ar μ0 q c μ) (hc : qnx (μ0.1 61) n q = ch) : zM g d R_take [.ref 3, .int ch] μ (fun v μ' => v = some (.int 1) ∧ rS P st ar μ0 (q + 1) c μ') := by
  refine zM_of (by decide +kernel) rfl rfl (Nat.le_of_ble_eq_true rfl) rfl ?_
  refine zb R_take_s0 rfl ?_
  refine zcallV R_take_d1 k7_38 (by omega) (x_next hk hn hn2 hq h.f) rfl rfl rfl (Nat.le_of_ble_eq_true rfl) ?_
  rintro _ μx ⟨rfl, hx⟩
  rw [hx]
  clear hx μx
  refine zb R_take_s4 rfl ?_
  refine z_ceq R_take_d5 (tgt := 10) rfl (fun h5 => ?_) (fun h5 => absurd hc h5)
  refine zb R_take_s10 rfl ?_
  refine z_retZ R_take_d21 rfl (by first | exact Or.inl rfl | exact Or.inr rfl) ?_
  rw [h.2.1, nI_1]
  exact ⟨rfl, h.adv hk⟩

set_option maxRecDepth 100000 in
set_option maxHeartbeats 4000000 in
theorem x_add_11 {g : zG} {d : Nat} {μ0 μ : zMem} {p : Nat} {c : qC} {s a : Int32} (hl : c.length < 121) (h : rS 11 89 90 μ0 p c μ) : zM g d P_add [.ref 11, .int s, .int a] μ (fun v μ' => v = none ∧ rS 11 89 90 μ0 p (c ++ [(s, a)]) μ') := by
  refine zM_of (by decide +kernel) rfl rfl (Nat.le_of_ble_eq_true rfl) rfl ?_
  have e4 := h.2.2.1
  have hv4 : vp_in (μ.1 11 4) 121 := by rw [e4]; exact vp_in_nI hl (by omega)
  refine zb P_add_s0 rfl ?_
  refine z_cge P_add_d6 (tgt := 39) rfl (fun h6 => absurd h6 (by rw [e4]; exact nI_ge (b := 121) hl (by omega))) (fun h6 => ?_)
  refine zb2 P_add_s9 rfl hv4 hv4 ?_
  refine z_retV P_add_d39 rfl ?_
  simp (disch := decide) only [zpI_ne, e4, nI_clamp (show c.length < 2 ^ 31 by omega), nI_1]
  exact ⟨by first | rfl | trivial, h.add (Or.inl ⟨rfl, rfl, rfl⟩)⟩

set_option maxRecDepth 100000 in
set_option maxHeartbeats 4000000 in
theorem w_R_product_11 {g : zG} {μ0 : zMem} {n D : Nat} {o : Int32} {po : Nat → qR} (hR : μ0.2.2 = zR10) (hn : μ0.1 3 1 = nI n) (hn2 : n ≤ 120) (hpo : qok n (po)) (HO : ∀ (d p : Nat) (c : qC) (μ : zMem), D ≤ d → p ≤ n → c.length ≤ p → rS 11 89 90 μ0 p c μ → zM g d R_one [.ref 3, .int o] μ (rQ 11 89 90 μ0 c (po p))) {d : Nat} (hd : D + 1 ≤ d) {c : qC} : ∀ (f i q : Nat) (c1 : qC) (e : qD) (μ : zMem), i + f = 120 → q ≤ n → (c ++ c1).length ≤ q → rS 11 89 90 μ0 q (c ++ c1) μ → zW g R_product d 17 [some (.ref 3), some (.int o), some (.int (qnx (μ0.1 61) n q)), some (.int (nI i))] [] μ (rQ 11 89 90 μ0 c (qlp (μ0.1 61) n (po) qop3 f q c1 e)) := by
  intro f
  induction f with
  | zero =>
    intro i q c1 e μ hi hq hl hs
    have hi : i = 120 := by omega
    subst hi
    refine zb R_product_s17 rfl ?_
    refine z_cge R_product_d20 (tgt := 81) rfl (fun h20 => ?_) (fun h20 => absurd (show (120 : Int32) ≤ nI 120 by decide) h20)
    refine zb R_product_s81 rfl ?_
    refine z_retZ R_product_d82 rfl (by first | exact Or.inl rfl | exact Or.inr rfl) ?_
    exact ⟨rfl, hs⟩
  | succ f ih =>
    intro i q c1 e μ hi hq hl hs
    obtain ⟨m1, m2, R⟩ := μ
    obtain rfl : R = zR10 := hs.f.R hR
    have hgo : qop3 (qnx (μ0.1 61) n q) = true → zW g R_product d 41 [some (.ref 3), some (.int o), some (.int (qnx (μ0.1 61) n q)), some (.int (nI i))] [] (m1, m2, zR10) (rQ 11 89 90 μ0 c (qlp (μ0.1 61) n (po) qop3 (f + 1) q c1 e)) := by
      intro hop
      have hq1 : q < n := qnx_lt (qop3_ok _ hop).2
      have hin := hpo (q + 1)
      simp only [qlp, if_pos hop]
      refine zb R_product_s41 rfl ?_
      rw [show ((m1, m2, zR10) : zMem).1 3 2 = nI q from hs.2.1, nI_1]
      refine zcallV R_product_d53 k7_64 (by omega) (HO (d - 1) (q + 1) (c ++ c1) _ (by omega) (by omega) (by omega) (hs.adv (Or.inl ⟨rfl, rfl, rfl⟩))) rfl rfl rfl (Nat.le_of_ble_eq_true rfl) ?_
      rintro v μ1 hv
      cases hr : (po) (q + 1) with
      | inl q2 =>
        rw [hr] at hv
        obtain rfl := hv.1
        refine z_ne R_product_d56 (tgt := 61) rfl (fun h56 => absurd rfl h56) (fun h56 => ?_)
        refine zb R_product_s59 rfl ?_
        refine z_retZ R_product_d60 rfl (by first | exact Or.inl rfl | exact Or.inr rfl) ?_
        exact ⟨rfl, hv.2⟩
      | inr z =>
        obtain ⟨q2, c2, e2⟩ := z
        rw [hr] at hv hin
        obtain rfl := hv.1
        have hv2 := hv.2
        obtain ⟨m1, m2, R⟩ := μ1
        obtain rfl : R = zR10 := hv2.f.R hR
        replace hin := hin
        refine z_ne R_product_d56 (tgt := 61) rfl (fun h56 => ?_) (fun h56 => absurd h56 (by decide))
        refine zb R_product_s61 rfl ?_
        refine zcallV R_product_d67 k7_45 (by omega) (x_add_11 (by simp only [List.length_append] at hl ⊢; omega) hv2) rfl rfl rfl (Nat.le_of_ble_eq_true rfl) ?_
        rintro _ μ2 ⟨rfl, hs2⟩
        obtain ⟨m1, m2, R⟩ := μ2
        obtain rfl : R = zR10 := hs2.f.R hR
        refine zb R_product_s70 rfl ?_
        refine zcallV R_product_d71 k7_38 (by omega) (x_next (Or.inl ⟨rfl, rfl, rfl⟩) hn hn2 (by omega) hs2.f) rfl rfl rfl (Nat.le_of_ble_eq_true rfl) ?_
        rintro _ μx ⟨rfl, hx⟩
        rw [hx]
        clear hx μx
        refine zb R_product_s74 rfl ?_
        rw [nI_1]
        refine ih (i + 1) q2 _ _ _ (by omega) hin.2.1 ?_ ?_
        · simp only [List.length_append, List.length_cons, List.length_nil] at hl ⊢
          omega
        · simp only [List.append_assoc] at hs2 ⊢
          exact hs2
    refine zb R_product_s17 rfl ?_
    refine z_cge R_product_d20 (tgt := 81) rfl (fun h20 => absurd h20 (nI_ge (b := 120) (by omega) (by omega))) (fun h20 => ?_)
    refine zb R_product_s23 rfl ?_
    refine z_ceq R_product_d26 (tgt := 41) rfl (fun h26 => ?_) (fun h26 => ?_)
    · exact hgo (by first | (rw [h26]; rfl) | (rw [h32]; rfl) | (rw [h38]; rfl))
    · refine zb R_product_s29 rfl ?_
      refine z_ceq R_product_d32 (tgt := 41) rfl (fun h32 => ?_) (fun h32 => ?_)
      · exact hgo (by first | (rw [h26]; rfl) | (rw [h32]; rfl) | (rw [h38]; rfl))
      · refine zb R_product_s35 rfl ?_
        refine z_cne R_product_d38 (tgt := 81) rfl (fun h38 => ?_) (fun h38 => ?_)
        · have hno : ¬ qop3 (qnx (μ0.1 61) n q) = true := by
            unfold qop3
            simp only [Bool.or_eq_true, beq_iff_eq]
            exact fun z => z.elim (fun y => y.elim h26 h32) h38
          simp only [qlp, if_neg hno]
          refine zb R_product_s81 rfl ?_
          refine z_retZ R_product_d82 rfl (by first | exact Or.inl rfl | exact Or.inr rfl) ?_
          exact ⟨rfl, hs⟩
        · exact hgo (by first | (rw [h26]; rfl) | (rw [h32]; rfl) | (rw [h38]; rfl))

set_option maxRecDepth 100000 in
set_option maxHeartbeats 4000000 in
theorem x_R_product_11 {g : zG} {μ0 : zMem} {n D : Nat} {o : Int32} {po : Nat → qR} (hR : μ0.2.2 = zR10) (hn : μ0.1 3 1 = nI n) (hn2 : n ≤ 120) (hpo : qok n (po)) (HO : ∀ (d p : Nat) (c : qC) (μ : zMem), D ≤ d → p ≤ n → c.length ≤ p → rS 11 89 90 μ0 p c μ → zM g d R_one [.ref 3, .int o] μ (rQ 11 89 90 μ0 c (po p))) : ∀ (d p : Nat) (c : qC) (μ : zMem), D + 1 ≤ d → p ≤ n → c.length ≤ p → rS 11 89 90 μ0 p c μ → zM g d R_product [.ref 3, .int o] μ (rQ 11 89 90 μ0 c (qP (μ0.1 61) n po p)) := by
  intro d p c μ hd hp hl hs
  refine zM_of (by decide +kernel) rfl rfl (Nat.le_of_ble_eq_true rfl) rfl ?_
  have hin := hpo p
  show zW g R_product d 0 _ [] _ (rQ 11 89 90 μ0 c (qbin (μ0.1 61) n (po) qop3 120 p))
  unfold qbin
  refine zb R_product_s0 rfl ?_
  refine zcallV R_product_d2 k7_64 (by omega) (HO (d - 1) p c _ (by omega) hp hl hs) rfl rfl rfl (Nat.le_of_ble_eq_true rfl) ?_
  rintro v μ1 hv
  cases hr : (po) p with
  | inl q =>
    rw [hr] at hv
    obtain rfl := hv.1
    refine z_ne R_product_d5 (tgt := 10) rfl (fun h5 => absurd rfl h5) (fun h5 => ?_)
    refine zb R_product_s8 rfl ?_
    refine z_retZ R_product_d9 rfl (by first | exact Or.inl rfl | exact Or.inr rfl) ?_
    exact ⟨rfl, hv.2⟩
  | inr z =>
    obtain ⟨q, c1, e1⟩ := z
    rw [hr] at hv hin
    obtain rfl := hv.1
    refine z_ne R_product_d5 (tgt := 10) rfl (fun h5 => ?_) (fun h5 => absurd h5 (by decide))
    refine zb R_product_s10 rfl ?_
    refine zcallV R_product_d11 k7_38 (by omega) (x_next (Or.inl ⟨rfl, rfl, rfl⟩) hn hn2 (by omega) hv.2.f) rfl rfl rfl (Nat.le_of_ble_eq_true rfl) ?_
    rintro _ μx ⟨rfl, hx⟩
    rw [hx]
    clear hx μx
    refine zb R_product_s14 rfl ?_
    exact w_R_product_11 hR hn hn2 hpo HO (by omega) 120 0 q c1 e1 μ1 (by omega) hin.2.1 (by simp only [List.length_append]; omega) hv.2

set_option maxRecDepth 100000 in
set_option maxHeartbeats 4000000 in
theorem w_R_sum_11 {g : zG} {μ0 : zMem} {n D : Nat} {o : Int32} {po : Nat → qR} (hR : μ0.2.2 = zR10) (hn : μ0.1 3 1 = nI n) (hn2 : n ≤ 120) (hpo : qok n (qP (μ0.1 61) n po)) (HO : ∀ (d p : Nat) (c : qC) (μ : zMem), D ≤ d → p ≤ n → c.length ≤ p → rS 11 89 90 μ0 p c μ → zM g d R_product [.ref 3, .int o] μ (rQ 11 89 90 μ0 c (qP (μ0.1 61) n po p))) {d : Nat} (hd : D + 1 ≤ d) {c : qC} : ∀ (f i q : Nat) (c1 : qC) (e : qD) (μ : zMem), i + f = 120 → q ≤ n → (c ++ c1).length ≤ q → rS 11 89 90 μ0 q (c ++ c1) μ → zW g R_sum d 17 [some (.ref 3), some (.int o), some (.int (qnx (μ0.1 61) n q)), some (.int (nI i))] [] μ (rQ 11 89 90 μ0 c (qlp (μ0.1 61) n (qP (μ0.1 61) n po) qop2 f q c1 e)) := by
  intro f
  induction f with
  | zero =>
    intro i q c1 e μ hi hq hl hs
    have hi : i = 120 := by omega
    subst hi
    refine zb R_sum_s17 rfl ?_
    refine z_cge R_sum_d20 (tgt := 75) rfl (fun h20 => ?_) (fun h20 => absurd (show (120 : Int32) ≤ nI 120 by decide) h20)
    refine zb R_sum_s75 rfl ?_
    refine z_retZ R_sum_d76 rfl (by first | exact Or.inl rfl | exact Or.inr rfl) ?_
    exact ⟨rfl, hs⟩
  | succ f ih =>
    intro i q c1 e μ hi hq hl hs
    obtain ⟨m1, m2, R⟩ := μ
    obtain rfl : R = zR10 := hs.f.R hR
    have hgo : qop2 (qnx (μ0.1 61) n q) = true → zW g R_sum d 35 [some (.ref 3), some (.int o), some (.int (qnx (μ0.1 61) n q)), some (.int (nI i))] [] (m1, m2, zR10) (rQ 11 89 90 μ0 c (qlp (μ0.1 61) n (qP (μ0.1 61) n po) qop2 (f + 1) q c1 e)) := by
      intro hop
      have hq1 : q < n := qnx_lt (qop2_ok _ hop).2
      have hin := hpo (q + 1)
      simp only [qlp, if_pos hop]
      refine zb R_sum_s35 rfl ?_
      rw [show ((m1, m2, zR10) : zMem).1 3 2 = nI q from hs.2.1, nI_1]
      refine zcallV R_sum_d47 k7_61 (by omega) (HO (d - 1) (q + 1) (c ++ c1) _ (by omega) (by omega) (by omega) (hs.adv (Or.inl ⟨rfl, rfl, rfl⟩))) rfl rfl rfl (Nat.le_of_ble_eq_true rfl) ?_
      rintro v μ1 hv
      cases hr : (qP (μ0.1 61) n po) (q + 1) with
      | inl q2 =>
        rw [hr] at hv
        obtain rfl := hv.1
        refine z_ne R_sum_d50 (tgt := 55) rfl (fun h50 => absurd rfl h50) (fun h50 => ?_)
        refine zb R_sum_s53 rfl ?_
        refine z_retZ R_sum_d54 rfl (by first | exact Or.inl rfl | exact Or.inr rfl) ?_
        exact ⟨rfl, hv.2⟩
      | inr z =>
        obtain ⟨q2, c2, e2⟩ := z
        rw [hr] at hv hin
        obtain rfl := hv.1
        have hv2 := hv.2
        obtain ⟨m1, m2, R⟩ := μ1
        obtain rfl : R = zR10 := hv2.f.R hR
        replace hin := hin
        refine z_ne R_sum_d50 (tgt := 55) rfl (fun h50 => ?_) (fun h50 => absurd h50 (by decide))
        refine zb R_sum_s55 rfl ?_
        refine zcallV R_sum_d61 k7_45 (by omega) (x_add_11 (by simp only [List.length_append] at hl ⊢; omega) hv2) rfl rfl rfl (Nat.le_of_ble_eq_true rfl) ?_
        rintro _ μ2 ⟨rfl, hs2⟩
        obtain ⟨m1, m2, R⟩ := μ2
        obtain rfl : R = zR10 := hs2.f.R hR
        refine zb R_sum_s64 rfl ?_
        refine zcallV R_sum_d65 k7_38 (by omega) (x_next (Or.inl ⟨rfl, rfl, rfl⟩) hn hn2 (by omega) hs2.f) rfl rfl rfl (Nat.le_of_ble_eq_true rfl) ?_
        rintro _ μx ⟨rfl, hx⟩
        rw [hx]
        clear hx μx
        refine zb R_sum_s68 rfl ?_
        rw [nI_1]
        refine ih (i + 1) q2 _ _ _ (by omega) hin.2.1 ?_ ?_
        · simp only [List.length_append, List.length_cons, List.length_nil] at hl ⊢
          omega
        · simp only [List.append_assoc] at hs2 ⊢
          exact hs2
    refine zb R_sum_s17 rfl ?_
    refine z_cge R_sum_d20 (tgt := 75) rfl (fun h20 => absurd h20 (nI_ge (b := 120) (by omega) (by omega))) (fun h20 => ?_)
    refine zb R_sum_s23 rfl ?_
    refine z_ceq R_sum_d26 (tgt := 35) rfl (fun h26 => ?_) (fun h26 => ?_)
    · exact hgo (by first | (rw [h26]; rfl) | (rw [h32]; rfl))
    · refine zb R_sum_s29 rfl ?_
      refine z_cne R_sum_d32 (tgt := 75) rfl (fun h32 => ?_) (fun h32 => ?_)
      · have hno : ¬ qop2 (qnx (μ0.1 61) n q) = true := by
          unfold qop2
          simp only [Bool.or_eq_true, beq_iff_eq]
          exact fun z => z.elim h26 h32
        simp only [qlp, if_neg hno]
        refine zb R_sum_s75 rfl ?_
        refine z_retZ R_sum_d76 rfl (by first | exact Or.inl rfl | exact Or.inr rfl) ?_
        exact ⟨rfl, hs⟩
      · exact hgo (by first | (rw [h26]; rfl) | (rw [h32]; rfl))

set_option maxRecDepth 100000 in
set_option maxHeartbeats 4000000 in
theorem x_R_sum_11 {g : zG} {μ0 : zMem} {n D : Nat} {o : Int32} {po : Nat → qR} (hR : μ0.2.2 = zR10) (hn : μ0.1 3 1 = nI n) (hn2 : n ≤ 120) (hpo : qok n (qP (μ0.1 61) n po)) (HO : ∀ (d p : Nat) (c : qC) (μ : zMem), D ≤ d → p ≤ n → c.length ≤ p → rS 11 89 90 μ0 p c μ → zM g d R_product [.ref 3, .int o] μ (rQ 11 89 90 μ0 c (qP (μ0.1 61) n po p))) : ∀ (d p : Nat) (c : qC) (μ : zMem), D + 1 ≤ d → p ≤ n → c.length ≤ p → rS 11 89 90 μ0 p c μ → zM g d R_sum [.ref 3, .int o] μ (rQ 11 89 90 μ0 c (qS (μ0.1 61) n po p)) := by
  intro d p c μ hd hp hl hs
  refine zM_of (by decide +kernel) rfl rfl (Nat.le_of_ble_eq_true rfl) rfl ?_
  have hin := hpo p
  show zW g R_sum d 0 _ [] _ (rQ 11 89 90 μ0 c (qbin (μ0.1 61) n (qP (μ0.1 61) n po) qop2 120 p))
  unfold qbin
  refine zb R_sum_s0 rfl ?_
  refine zcallV R_sum_d2 k7_61 (by omega) (HO (d - 1) p c _ (by omega) hp hl hs) rfl rfl rfl (Nat.le_of_ble_eq_true rfl) ?_
  rintro v μ1 hv
  cases hr : (qP (μ0.1 61) n po) p with
  | inl q =>
    rw [hr] at hv
    obtain rfl := hv.1
    refine z_ne R_sum_d5 (tgt := 10) rfl (fun h5 => absurd rfl h5) (fun h5 => ?_)
    refine zb R_sum_s8 rfl ?_
    refine z_retZ R_sum_d9 rfl (by first | exact Or.inl rfl | exact Or.inr rfl) ?_
    exact ⟨rfl, hv.2⟩
  | inr z =>
    obtain ⟨q, c1, e1⟩ := z
    rw [hr] at hv hin
    obtain rfl := hv.1
    refine z_ne R_sum_d5 (tgt := 10) rfl (fun h5 => ?_) (fun h5 => absurd h5 (by decide))
    refine zb R_sum_s10 rfl ?_
    refine zcallV R_sum_d11 k7_38 (by omega) (x_next (Or.inl ⟨rfl, rfl, rfl⟩) hn hn2 (by omega) hv.2.f) rfl rfl rfl (Nat.le_of_ble_eq_true rfl) ?_
    rintro _ μx ⟨rfl, hx⟩
    rw [hx]
    clear hx μx
    refine zb R_sum_s14 rfl ?_
    exact w_R_sum_11 hR hn hn2 hpo HO (by omega) 120 0 q c1 e1 μ1 (by omega) hin.2.1 (by simp only [List.length_append]; omega) hv.2

set_option maxRecDepth 100000 in
set_option maxHeartbeats 4000000 in
theorem x_R_compared_11 {g : zG} {μ0 : zMem} {n D : Nat} {o : Int32} {po : Nat → qR} (hR : μ0.2.2 = zR10) (hn : μ0.1 3 1 = nI n) (hn2 : n ≤ 120) (hpo : qok n (qS (μ0.1 61) n po)) (HO : ∀ (d p : Nat) (c : qC) (μ : zMem), D ≤ d → p ≤ n → c.length ≤ p → rS 11 89 90 μ0 p c μ → zM g d R_sum [.ref 3, .int o] μ (rQ 11 89 90 μ0 c (qS (μ0.1 61) n po p))) : ∀ (d p : Nat) (c : qC) (μ : zMem), D + 1 ≤ d → p ≤ n → c.length ≤ p → rS 11 89 90 μ0 p c μ → zM g d R_compared [.ref 3, .int o] μ (rQ 11 89 90 μ0 c (qBB (μ0.1 61) n po p)) := by
  intro d p c μ hd hp hl hs
  refine zM_of (by decide +kernel) rfl rfl (Nat.le_of_ble_eq_true rfl) rfl ?_
  have hin := hpo p
  show zW g R_compared d 0 _ [] _ (rQ 11 89 90 μ0 c (qbin (μ0.1 61) n (qS (μ0.1 61) n po) qopB 1 p))
  unfold qbin
  refine zb R_compared_s0 rfl ?_
  refine zcallV R_compared_d2 k7_58 (by omega) (HO (d - 1) p c _ (by omega) hp hl hs) rfl rfl rfl (Nat.le_of_ble_eq_true rfl) ?_
  rintro v μ1 hv
  cases hr : (qS (μ0.1 61) n po) p with
  | inl q =>
    rw [hr] at hv
    obtain rfl := hv.1
    refine z_ne R_compared_d5 (tgt := 10) rfl (fun h5 => absurd rfl h5) (fun h5 => ?_)
    refine zb R_compared_s8 rfl ?_
    refine z_retZ R_compared_d9 rfl (by first | exact Or.inl rfl | exact Or.inr rfl) ?_
    exact ⟨rfl, hv.2⟩
  | inr z =>
    obtain ⟨q, c1, e1⟩ := z
    rw [hr] at hv hin
    obtain rfl := hv.1
    have hl1 : (c ++ c1).length ≤ q := by simp only [List.length_append]; omega
    have hgo : qopB (qnx (μ0.1 61) n q) = true → zW g R_compared d 35 [some (.ref 3), some (.int o), some (.int (qnx (μ0.1 61) n q))] [] μ1 (rQ 11 89 90 μ0 c (qlp (μ0.1 61) n (qS (μ0.1 61) n po) qopB 1 q c1 e1)) := by
      intro hop
      have hq1 : q < n := qnx_lt (qopB_ok _ hop).2
      have hin2 := hpo (q + 1)
      simp only [qlp, if_pos hop]
      refine zb R_compared_s35 rfl ?_
      rw [show μ1.1 3 2 = nI q from hv.2.2.1, nI_1]
      refine zcallV R_compared_d47 k7_58 (by omega) (HO (d - 1) (q + 1) (c ++ c1) _ (by omega) (by omega) (by omega) (hv.2.adv (Or.inl ⟨rfl, rfl, rfl⟩))) rfl rfl rfl (Nat.le_of_ble_eq_true rfl) ?_
      rintro v μ2 hv2
      cases hr2 : (qS (μ0.1 61) n po) (q + 1) with
      | inl q2 =>
        rw [hr2] at hv2
        obtain rfl := hv2.1
        refine z_ne R_compared_d50 (tgt := 55) rfl (fun h50 => absurd rfl h50) (fun h50 => ?_)
        refine zb R_compared_s53 rfl ?_
        refine z_retZ R_compared_d54 rfl (by first | exact Or.inl rfl | exact Or.inr rfl) ?_
        exact ⟨rfl, hv2.2⟩
      | inr z =>
        obtain ⟨q2, c2, e2⟩ := z
        rw [hr2] at hv2 hin2
        obtain rfl := hv2.1
        have hv3 := hv2.2
        obtain ⟨m3, m4, R⟩ := μ2
        obtain rfl : R = zR10 := hv3.f.R hR
        refine z_ne R_compared_d50 (tgt := 55) rfl (fun h50 => ?_) (fun h50 => absurd h50 (by decide))
        refine zb R_compared_s55 rfl ?_
        refine zcallV R_compared_d61 k7_45 (by omega) (x_add_11 (by simp only [List.length_append] at hl1 ⊢; omega) hv3) rfl rfl rfl (Nat.le_of_ble_eq_true rfl) ?_
        rintro _ μ3 ⟨rfl, hs2⟩
        refine zb R_compared_s64 rfl ?_
        refine z_retZ R_compared_d65 rfl (by first | exact Or.inl rfl | exact Or.inr rfl) ?_
        simp only [List.append_assoc] at hs2 ⊢
        exact ⟨rfl, hs2⟩
    refine z_ne R_compared_d5 (tgt := 10) rfl (fun h5 => ?_) (fun h5 => absurd h5 (by decide))
    refine zb R_compared_s10 rfl ?_
    refine zcallV R_compared_d11 k7_38 (by omega) (x_next (Or.inl ⟨rfl, rfl, rfl⟩) hn hn2 (by omega) hv.2.f) rfl rfl rfl (Nat.le_of_ble_eq_true rfl) ?_
    rintro _ μx ⟨rfl, hx⟩
    rw [hx]
    clear hx μx
    refine zb R_compared_s14 rfl ?_
    refine z_ceq R_compared_d18 (tgt := 35) rfl (fun h18 => ?_) (fun h18 => ?_)
    · exact hgo (by first | (rw [h18]; rfl) | (rw [h24]; rfl) | (rw [h30]; rfl))
    · refine zb R_compared_s21 rfl ?_
      refine z_ceq R_compared_d24 (tgt := 35) rfl (fun h24 => ?_) (fun h24 => ?_)
      · exact hgo (by first | (rw [h18]; rfl) | (rw [h24]; rfl) | (rw [h30]; rfl))
      · refine zb R_compared_s27 rfl ?_
        refine z_ceq R_compared_d30 (tgt := 35) rfl (fun h30 => ?_) (fun h30 => ?_)
        · exact hgo (by first | (rw [h18]; rfl) | (rw [h24]; rfl) | (rw [h30]; rfl))
        · have hno : ¬ qopB (qnx (μ0.1 61) n q) = true := by
            unfold qopB
            simp only [Bool.or_eq_true, beq_iff_eq]
            exact fun z => z.elim (fun y => y.elim h18 h24) h30
          simp only [qlp, if_neg hno]
          refine zb R_compared_s33 rfl ?_
          refine z_retZ R_compared_d34 rfl (by first | exact Or.inl rfl | exact Or.inr rfl) ?_
          exact ⟨rfl, hv.2⟩

set_option maxRecDepth 100000 in
set_option maxHeartbeats 4000000 in
theorem w_R_both_11 {g : zG} {μ0 : zMem} {n D : Nat} {o : Int32} {po : Nat → qR} (hR : μ0.2.2 = zR10) (hn : μ0.1 3 1 = nI n) (hn2 : n ≤ 120) (hpo : qok n (qBB (μ0.1 61) n po)) (HO : ∀ (d p : Nat) (c : qC) (μ : zMem), D ≤ d → p ≤ n → c.length ≤ p → rS 11 89 90 μ0 p c μ → zM g d R_compared [.ref 3, .int o] μ (rQ 11 89 90 μ0 c (qBB (μ0.1 61) n po p))) {d : Nat} (hd : D + 1 ≤ d) (hd2 : 2 ≤ d) {c : qC} : ∀ (f i q : Nat) (c1 : qC) (e : qD) (μ : zMem), i + f = 120 → q ≤ n → (c ++ c1).length ≤ q → rS 11 89 90 μ0 q (c ++ c1) μ → zW g R_both d 12 [some (.ref 3), some (.int o), some (.int (nI i))] [] μ (rQ 11 89 90 μ0 c (qlp (μ0.1 61) n (qBB (μ0.1 61) n po) qopA f q c1 e)) := by
  intro f
  induction f with
  | zero =>
    intro i q c1 e μ hi hq hl hs
    have hi : i = 120 := by omega
    subst hi
    refine zb R_both_s12 rfl ?_
    refine z_cge R_both_d15 (tgt := 53) rfl (fun h15 => ?_) (fun h15 => absurd (show (120 : Int32) ≤ nI 120 by decide) h15)
    refine zb R_both_s53 rfl ?_
    refine z_retZ R_both_d54 rfl (by first | exact Or.inl rfl | exact Or.inr rfl) ?_
    exact ⟨rfl, hs⟩
  | succ f ih =>
    intro i q c1 e μ hi hq hl hs
    by_cases hop : qnx (μ0.1 61) n q = 38
    · have hq1 : q < n := qnx_lt (by rw [hop]; decide)
      have hin := hpo (q + 1)
      simp only [qlp, if_pos (show qopA (qnx (μ0.1 61) n q) = true by rw [hop]; rfl)]
      refine zb R_both_s12 rfl ?_
      refine z_cge R_both_d15 (tgt := 53) rfl (fun h15 => absurd h15 (nI_ge (b := 120) (by omega) (by omega))) (fun h15 => ?_)
      refine zb R_both_s18 rfl ?_
      refine zcallV R_both_d21 k7_34 (by omega) (x_take_y (by omega) (Or.inl ⟨rfl, rfl, rfl⟩) hn hn2 (by omega) hs hop) rfl rfl rfl (Nat.le_of_ble_eq_true rfl) ?_
      rintro _ μ3 ⟨rfl, hs3⟩
      refine z_eq R_both_d24 (tgt := 53) rfl (fun h24 => absurd h24 (by decide)) (fun h24 => ?_)
      refine zb R_both_s27 rfl ?_
      refine zcallV R_both_d29 k7_55 (by omega) (HO (d - 1) (q + 1) (c ++ c1) _ (by omega) (by omega) (by omega) hs3) rfl rfl rfl (Nat.le_of_ble_eq_true rfl) ?_
      rintro v μ1 hv
      cases hr : (qBB (μ0.1 61) n po) (q + 1) with
      | inl q2 =>
        rw [hr] at hv
        obtain rfl := hv.1
        refine z_ne R_both_d32 (tgt := 37) rfl (fun h32 => absurd rfl h32) (fun h32 => ?_)
        refine zb R_both_s35 rfl ?_
        refine z_retZ R_both_d36 rfl (by first | exact Or.inl rfl | exact Or.inr rfl) ?_
        exact ⟨rfl, hv.2⟩
      | inr z =>
        obtain ⟨q2, c2, e2⟩ := z
        rw [hr] at hv hin
        obtain rfl := hv.1
        have hv2 := hv.2
        obtain ⟨m1, m2, R⟩ := μ1
        obtain rfl : R = zR10 := hv2.f.R hR
        refine z_ne R_both_d32 (tgt := 37) rfl (fun h32 => ?_) (fun h32 => absurd h32 (by decide))
        refine zb R_both_s37 rfl ?_
        refine zcallV R_both_d44 k7_45 (by omega) (x_add_11 (by simp only [List.length_append] at hl ⊢; omega) hv2) rfl rfl rfl (Nat.le_of_ble_eq_true rfl) ?_
        rintro _ μ2 ⟨rfl, hs2⟩
        refine zb R_both_s47 rfl ?_
        rw [nI_1]
        refine ih (i + 1) q2 _ _ _ (by omega) hin.2.1 ?_ ?_
        · simp only [List.length_append, List.length_cons, List.length_nil] at hl ⊢
          omega
        · simp only [List.append_assoc] at hs2 ⊢
          rw [hop]
          exact hs2
    · simp only [qlp, if_neg (show ¬ qopA (qnx (μ0.1 61) n q) = true from fun z => hop (by unfold qopA at z; rw [beq_iff_eq] at z; exact z))]
      refine zb R_both_s12 rfl ?_
      refine z_cge R_both_d15 (tgt := 53) rfl (fun h15 => absurd h15 (nI_ge (b := 120) (by omega) (by omega))) (fun h15 => ?_)
      refine zb R_both_s18 rfl ?_
      refine zcallV R_both_d21 k7_34 (by omega) (x_take_n (by omega) (Or.inl ⟨rfl, rfl, rfl⟩) hn hn2 (by omega) hs.f hop) rfl rfl rfl (Nat.le_of_ble_eq_true rfl) ?_
      rintro _ μx ⟨rfl, hx⟩
      rw [hx]
      clear hx μx
      refine z_eq R_both_d24 (tgt := 53) rfl (fun h24 => ?_) (fun h24 => absurd rfl h24)
      refine zb R_both_s53 rfl ?_
      refine z_retZ R_both_d54 rfl (by first | exact Or.inl rfl | exact Or.inr rfl) ?_
      exact ⟨rfl, hs⟩

set_option maxRecDepth 100000 in
set_option maxHeartbeats 4000000 in
theorem x_R_both_11 {g : zG} {μ0 : zMem} {n D : Nat} {o : Int32} {po : Nat → qR} (hR : μ0.2.2 = zR10) (hn : μ0.1 3 1 = nI n) (hn2 : n ≤ 120) (hpo : qok n (qBB (μ0.1 61) n po)) (hD : 1 ≤ D) (HO : ∀ (d p : Nat) (c : qC) (μ : zMem), D ≤ d → p ≤ n → c.length ≤ p → rS 11 89 90 μ0 p c μ → zM g d R_compared [.ref 3, .int o] μ (rQ 11 89 90 μ0 c (qBB (μ0.1 61) n po p))) : ∀ (d p : Nat) (c : qC) (μ : zMem), D + 1 ≤ d → p ≤ n → c.length ≤ p → rS 11 89 90 μ0 p c μ → zM g d R_both [.ref 3, .int o] μ (rQ 11 89 90 μ0 c (qA (μ0.1 61) n po p)) := by
  intro d p c μ hd hp hl hs
  refine zM_of (by decide +kernel) rfl rfl (Nat.le_of_ble_eq_true rfl) rfl ?_
  have hin := hpo p
  show zW g R_both d 0 _ [] _ (rQ 11 89 90 μ0 c (qbin (μ0.1 61) n (qBB (μ0.1 61) n po) qopA 120 p))
  unfold qbin
  refine zb R_both_s0 rfl ?_
  refine zcallV R_both_d2 k7_55 (by omega) (HO (d - 1) p c _ (by omega) hp hl hs) rfl rfl rfl (Nat.le_of_ble_eq_true rfl) ?_
  rintro v μ1 hv
  cases hr : (qBB (μ0.1 61) n po) p with
  | inl q =>
    rw [hr] at hv
    obtain rfl := hv.1
    refine z_ne R_both_d5 (tgt := 10) rfl (fun h5 => absurd rfl h5) (fun h5 => ?_)
    refine zb R_both_s8 rfl ?_
    refine z_retZ R_both_d9 rfl (by first | exact Or.inl rfl | exact Or.inr rfl) ?_
    exact ⟨rfl, hv.2⟩
  | inr z =>
    obtain ⟨q, c1, e1⟩ := z
    rw [hr] at hv hin
    obtain rfl := hv.1
    refine z_ne R_both_d5 (tgt := 10) rfl (fun h5 => ?_) (fun h5 => absurd h5 (by decide))
    refine zb R_both_s10 rfl ?_
    exact w_R_both_11 hR hn hn2 hpo HO (by omega) (by omega) 120 0 q c1 e1 μ1 (by omega) hin.2.1 (by simp only [List.length_append]; omega) hv.2

set_option maxRecDepth 100000 in
set_option maxHeartbeats 4000000 in
theorem w_R_either_11 {g : zG} {μ0 : zMem} {n D : Nat} {o : Int32} {po : Nat → qR} (hR : μ0.2.2 = zR10) (hn : μ0.1 3 1 = nI n) (hn2 : n ≤ 120) (hpo : qok n (qA (μ0.1 61) n po)) (HO : ∀ (d p : Nat) (c : qC) (μ : zMem), D ≤ d → p ≤ n → c.length ≤ p → rS 11 89 90 μ0 p c μ → zM g d R_both [.ref 3, .int o] μ (rQ 11 89 90 μ0 c (qA (μ0.1 61) n po p))) {d : Nat} (hd : D + 1 ≤ d) (hd2 : 2 ≤ d) {c : qC} : ∀ (f i q : Nat) (c1 : qC) (e : qD) (μ : zMem), i + f = 120 → q ≤ n → (c ++ c1).length ≤ q → rS 11 89 90 μ0 q (c ++ c1) μ → zW g R_either d 12 [some (.ref 3), some (.int o), some (.int (nI i))] [] μ (rQ 11 89 90 μ0 c (qlp (μ0.1 61) n (qA (μ0.1 61) n po) qopE f q c1 e)) := by
  intro f
  induction f with
  | zero =>
    intro i q c1 e μ hi hq hl hs
    have hi : i = 120 := by omega
    subst hi
    refine zb R_either_s12 rfl ?_
    refine z_cge R_either_d15 (tgt := 53) rfl (fun h15 => ?_) (fun h15 => absurd (show (120 : Int32) ≤ nI 120 by decide) h15)
    refine zb R_either_s53 rfl ?_
    refine z_retZ R_either_d54 rfl (by first | exact Or.inl rfl | exact Or.inr rfl) ?_
    exact ⟨rfl, hs⟩
  | succ f ih =>
    intro i q c1 e μ hi hq hl hs
    by_cases hop : qnx (μ0.1 61) n q = 124
    · have hq1 : q < n := qnx_lt (by rw [hop]; decide)
      have hin := hpo (q + 1)
      simp only [qlp, if_pos (show qopE (qnx (μ0.1 61) n q) = true by rw [hop]; rfl)]
      refine zb R_either_s12 rfl ?_
      refine z_cge R_either_d15 (tgt := 53) rfl (fun h15 => absurd h15 (nI_ge (b := 120) (by omega) (by omega))) (fun h15 => ?_)
      refine zb R_either_s18 rfl ?_
      refine zcallV R_either_d21 k7_34 (by omega) (x_take_y (by omega) (Or.inl ⟨rfl, rfl, rfl⟩) hn hn2 (by omega) hs hop) rfl rfl rfl (Nat.le_of_ble_eq_true rfl) ?_
      rintro _ μ3 ⟨rfl, hs3⟩
      refine z_eq R_either_d24 (tgt := 53) rfl (fun h24 => absurd h24 (by decide)) (fun h24 => ?_)
      refine zb R_either_s27 rfl ?_
      refine zcallV R_either_d29 k7_52 (by omega) (HO (d - 1) (q + 1) (c ++ c1) _ (by omega) (by omega) (by omega) hs3) rfl rfl rfl (Nat.le_of_ble_eq_true rfl) ?_
      rintro v μ1 hv
      cases hr : (qA (μ0.1 61) n po) (q + 1) with
      | inl q2 =>
        rw [hr] at hv
        obtain rfl := hv.1
        refine z_ne R_either_d32 (tgt := 37) rfl (fun h32 => absurd rfl h32) (fun h32 => ?_)
        refine zb R_either_s35 rfl ?_
        refine z_retZ R_either_d36 rfl (by first | exact Or.inl rfl | exact Or.inr rfl) ?_
        exact ⟨rfl, hv.2⟩
      | inr z =>
        obtain ⟨q2, c2, e2⟩ := z
        rw [hr] at hv hin
        obtain rfl := hv.1
        have hv2 := hv.2
        obtain ⟨m1, m2, R⟩ := μ1
        obtain rfl : R = zR10 := hv2.f.R hR
        refine z_ne R_either_d32 (tgt := 37) rfl (fun h32 => ?_) (fun h32 => absurd h32 (by decide))
        refine zb R_either_s37 rfl ?_
        refine zcallV R_either_d44 k7_45 (by omega) (x_add_11 (by simp only [List.length_append] at hl ⊢; omega) hv2) rfl rfl rfl (Nat.le_of_ble_eq_true rfl) ?_
        rintro _ μ2 ⟨rfl, hs2⟩
        refine zb R_either_s47 rfl ?_
        rw [nI_1]
        refine ih (i + 1) q2 _ _ _ (by omega) hin.2.1 ?_ ?_
        · simp only [List.length_append, List.length_cons, List.length_nil] at hl ⊢
          omega
        · simp only [List.append_assoc] at hs2 ⊢
          rw [hop]
          exact hs2
    · simp only [qlp, if_neg (show ¬ qopE (qnx (μ0.1 61) n q) = true from fun z => hop (by unfold qopE at z; rw [beq_iff_eq] at z; exact z))]
      refine zb R_either_s12 rfl ?_
      refine z_cge R_either_d15 (tgt := 53) rfl (fun h15 => absurd h15 (nI_ge (b := 120) (by omega) (by omega))) (fun h15 => ?_)
      refine zb R_either_s18 rfl ?_
      refine zcallV R_either_d21 k7_34 (by omega) (x_take_n (by omega) (Or.inl ⟨rfl, rfl, rfl⟩) hn hn2 (by omega) hs.f hop) rfl rfl rfl (Nat.le_of_ble_eq_true rfl) ?_
      rintro _ μx ⟨rfl, hx⟩
      rw [hx]
      clear hx μx
      refine z_eq R_either_d24 (tgt := 53) rfl (fun h24 => ?_) (fun h24 => absurd rfl h24)
      refine zb R_either_s53 rfl ?_
      refine z_retZ R_either_d54 rfl (by first | exact Or.inl rfl | exact Or.inr rfl) ?_
      exact ⟨rfl, hs⟩

set_option maxRecDepth 100000 in
set_option maxHeartbeats 4000000 in
theorem x_R_either_11 {g : zG} {μ0 : zMem} {n D : Nat} {o : Int32} {po : Nat → qR} (hR : μ0.2.2 = zR10) (hn : μ0.1 3 1 = nI n) (hn2 : n ≤ 120) (hpo : qok n (qA (μ0.1 61) n po)) (hD : 1 ≤ D) (HO : ∀ (d p : Nat) (c : qC) (μ : zMem), D ≤ d → p ≤ n → c.length ≤ p → rS 11 89 90 μ0 p c μ → zM g d R_both [.ref 3, .int o] μ (rQ 11 89 90 μ0 c (qA (μ0.1 61) n po p))) : ∀ (d p : Nat) (c : qC) (μ : zMem), D + 1 ≤ d → p ≤ n → c.length ≤ p → rS 11 89 90 μ0 p c μ → zM g d R_either [.ref 3, .int o] μ (rQ 11 89 90 μ0 c (qE (μ0.1 61) n po p)) := by
  intro d p c μ hd hp hl hs
  refine zM_of (by decide +kernel) rfl rfl (Nat.le_of_ble_eq_true rfl) rfl ?_
  have hin := hpo p
  show zW g R_either d 0 _ [] _ (rQ 11 89 90 μ0 c (qbin (μ0.1 61) n (qA (μ0.1 61) n po) qopE 120 p))
  unfold qbin
  refine zb R_either_s0 rfl ?_
  refine zcallV R_either_d2 k7_52 (by omega) (HO (d - 1) p c _ (by omega) hp hl hs) rfl rfl rfl (Nat.le_of_ble_eq_true rfl) ?_
  rintro v μ1 hv
  cases hr : (qA (μ0.1 61) n po) p with
  | inl q =>
    rw [hr] at hv
    obtain rfl := hv.1
    refine z_ne R_either_d5 (tgt := 10) rfl (fun h5 => absurd rfl h5) (fun h5 => ?_)
    refine zb R_either_s8 rfl ?_
    refine z_retZ R_either_d9 rfl (by first | exact Or.inl rfl | exact Or.inr rfl) ?_
    exact ⟨rfl, hv.2⟩
  | inr z =>
    obtain ⟨q, c1, e1⟩ := z
    rw [hr] at hv hin
    obtain rfl := hv.1
    refine z_ne R_either_d5 (tgt := 10) rfl (fun h5 => ?_) (fun h5 => absurd h5 (by decide))
    refine zb R_either_s10 rfl ?_
    exact w_R_either_11 hR hn hn2 hpo HO (by omega) (by omega) 120 0 q c1 e1 μ1 (by omega) hin.2.1 (by simp only [List.length_append]; omega) hv.2

set_option maxRecDepth 100000 in
set_option maxHeartbeats 4000000 in
theorem x_add_10 {g : zG} {d : Nat} {μ0 μ : zMem} {p : Nat} {c : qC} {s a : Int32} (hl : c.length < 121) (h : rS 10 85 86 μ0 p c μ) : zM g d P_add [.ref 10, .int s, .int a] μ (fun v μ' => v = none ∧ rS 10 85 86 μ0 p (c ++ [(s, a)]) μ') := by
  refine zM_of (by decide +kernel) rfl rfl (Nat.le_of_ble_eq_true rfl) rfl ?_
  have e4 := h.2.2.1
  have hv4 : vp_in (μ.1 10 4) 121 := by rw [e4]; exact vp_in_nI hl (by omega)
  refine zb P_add_s0 rfl ?_
  refine z_cge P_add_d6 (tgt := 39) rfl (fun h6 => absurd h6 (by rw [e4]; exact nI_ge (b := 121) hl (by omega))) (fun h6 => ?_)
  refine zb2 P_add_s9 rfl hv4 hv4 ?_
  refine z_retV P_add_d39 rfl ?_
  simp (disch := decide) only [zpI_ne, e4, nI_clamp (show c.length < 2 ^ 31 by omega), nI_1]
  exact ⟨by first | rfl | trivial, h.add (Or.inr ⟨rfl, rfl, rfl⟩)⟩

set_option maxRecDepth 100000 in
set_option maxHeartbeats 4000000 in
theorem w_R_product_10 {g : zG} {μ0 : zMem} {n D : Nat} {o : Int32} {po : Nat → qR} (hR : μ0.2.2 = zR11) (hn : μ0.1 3 1 = nI n) (hn2 : n ≤ 120) (hpo : qok n (po)) (HO : ∀ (d p : Nat) (c : qC) (μ : zMem), D ≤ d → p ≤ n → c.length ≤ p → rS 10 85 86 μ0 p c μ → zM g d R_one [.ref 3, .int o] μ (rQ 10 85 86 μ0 c (po p))) {d : Nat} (hd : D + 1 ≤ d) {c : qC} : ∀ (f i q : Nat) (c1 : qC) (e : qD) (μ : zMem), i + f = 120 → q ≤ n → (c ++ c1).length ≤ q → rS 10 85 86 μ0 q (c ++ c1) μ → zW g R_product d 17 [some (.ref 3), some (.int o), some (.int (qnx (μ0.1 61) n q)), some (.int (nI i))] [] μ (rQ 10 85 86 μ0 c (qlp (μ0.1 61) n (po) qop3 f q c1 e)) := by
  intro f
  induction f with
  | zero =>
    intro i q c1 e μ hi hq hl hs
    have hi : i = 120 := by omega
    subst hi
    refine zb R_product_s17 rfl ?_
    refine z_cge R_product_d20 (tgt := 81) rfl (fun h20 => ?_) (fun h20 => absurd (show (120 : Int32) ≤ nI 120 by decide) h20)
    refine zb R_product_s81 rfl ?_
    refine z_retZ R_product_d82 rfl (by first | exact Or.inl rfl | exact Or.inr rfl) ?_
    exact ⟨rfl, hs⟩
  | succ f ih =>
    intro i q c1 e μ hi hq hl hs
    obtain ⟨m1, m2, R⟩ := μ
    obtain rfl : R = zR11 := hs.f.R hR
    have hgo : qop3 (qnx (μ0.1 61) n q) = true → zW g R_product d 41 [some (.ref 3), some (.int o), some (.int (qnx (μ0.1 61) n q)), some (.int (nI i))] [] (m1, m2, zR11) (rQ 10 85 86 μ0 c (qlp (μ0.1 61) n (po) qop3 (f + 1) q c1 e)) := by
      intro hop
      have hq1 : q < n := qnx_lt (qop3_ok _ hop).2
      have hin := hpo (q + 1)
      simp only [qlp, if_pos hop]
      refine zb R_product_s41 rfl ?_
      rw [show ((m1, m2, zR11) : zMem).1 3 2 = nI q from hs.2.1, nI_1]
      refine zcallV R_product_d53 k7_64 (by omega) (HO (d - 1) (q + 1) (c ++ c1) _ (by omega) (by omega) (by omega) (hs.adv (Or.inr ⟨rfl, rfl, rfl⟩))) rfl rfl rfl (Nat.le_of_ble_eq_true rfl) ?_
      rintro v μ1 hv
      cases hr : (po) (q + 1) with
      | inl q2 =>
        rw [hr] at hv
        obtain rfl := hv.1
        refine z_ne R_product_d56 (tgt := 61) rfl (fun h56 => absurd rfl h56) (fun h56 => ?_)
        refine zb R_product_s59 rfl ?_
        refine z_retZ R_product_d60 rfl (by first | exact Or.inl rfl | exact Or.inr rfl) ?_
        exact ⟨rfl, hv.2⟩
      | inr z =>
        obtain ⟨q2, c2, e2⟩ := z
        rw [hr] at hv hin
        obtain rfl := hv.1
        have hv2 := hv.2
        obtain ⟨m1, m2, R⟩ := μ1
        obtain rfl : R = zR11 := hv2.f.R hR
        replace hin := hin
        refine z_ne R_product_d56 (tgt := 61) rfl (fun h56 => ?_) (fun h56 => absurd h56 (by decide))
        refine zb R_product_s61 rfl ?_
        refine zcallV R_product_d67 k7_45 (by omega) (x_add_10 (by simp only [List.length_append] at hl ⊢; omega) hv2) rfl rfl rfl (Nat.le_of_ble_eq_true rfl) ?_
        rintro _ μ2 ⟨rfl, hs2⟩
        obtain ⟨m1, m2, R⟩ := μ2
        obtain rfl : R = zR11 := hs2.f.R hR
        refine zb R_product_s70 rfl ?_
        refine zcallV R_product_d71 k7_38 (by omega) (x_next (Or.inr ⟨rfl, rfl, rfl⟩) hn hn2 (by omega) hs2.f) rfl rfl rfl (Nat.le_of_ble_eq_true rfl) ?_
        rintro _ μx ⟨rfl, hx⟩
        rw [hx]
        clear hx μx
        refine zb R_product_s74 rfl ?_
        rw [nI_1]
        refine ih (i + 1) q2 _ _ _ (by omega) hin.2.1 ?_ ?_
        · simp only [List.length_append, List.length_cons, List.length_nil] at hl ⊢
          omega
        · simp only [List.append_assoc] at hs2 ⊢
          exact hs2
    refine zb R_product_s17 rfl ?_
    refine z_cge R_product_d20 (tgt := 81) rfl (fun h20 => absurd h20 (nI_ge (b := 120) (by omega) (by omega))) (fun h20 => ?_)
    refine zb R_product_s23 rfl ?_
    refine z_ceq R_product_d26 (tgt := 41) rfl (fun h26 => ?_) (fun h26 => ?_)
    · exact hgo (by first | (rw [h26]; rfl) | (rw [h32]; rfl) | (rw [h38]; rfl))
    · refine zb R_product_s29 rfl ?_
      refine z_ceq R_product_d32 (tgt := 41) rfl (fun h32 => ?_) (fun h32 => ?_)
      · exact hgo (by first | (rw [h26]; rfl) | (rw [h32]; rfl) | (rw [h38]; rfl))
      · refine zb R_product_s35 rfl ?_
        refine z_cne R_product_d38 (tgt := 81) rfl (fun h38 => ?_) (fun h38 => ?_)
        · have hno : ¬ qop3 (qnx (μ0.1 61) n q) = true := by
            unfold qop3
            simp only [Bool.or_eq_true, beq_iff_eq]
            exact fun z => z.elim (fun y => y.elim h26 h32) h38
          simp only [qlp, if_neg hno]
          refine zb R_product_s81 rfl ?_
          refine z_retZ R_product_d82 rfl (by first | exact Or.inl rfl | exact Or.inr rfl) ?_
          exact ⟨rfl, hs⟩
        · exact hgo (by first | (rw [h26]; rfl) | (rw [h32]; rfl) | (rw [h38]; rfl))

set_option maxRecDepth 100000 in
set_option maxHeartbeats 4000000 in
theorem x_R_product_10 {g : zG} {μ0 : zMem} {n D : Nat} {o : Int32} {po : Nat → qR} (hR : μ0.2.2 = zR11) (hn : μ0.1 3 1 = nI n) (hn2 : n ≤ 120) (hpo : qok n (po)) (HO : ∀ (d p : Nat) (c : qC) (μ : zMem), D ≤ d → p ≤ n → c.length ≤ p → rS 10 85 86 μ0 p c μ → zM g d R_one [.ref 3, .int o] μ (rQ 10 85 86 μ0 c (po p))) : ∀ (d p : Nat) (c : qC) (μ : zMem), D + 1 ≤ d → p ≤ n → c.length ≤ p → rS 10 85 86 μ0 p c μ → zM g d R_product [.ref 3, .int o] μ (rQ 10 85 86 μ0 c (qP (μ0.1 61) n po p)) := by
  intro d p c μ hd hp hl hs
  refine zM_of (by decide +kernel) rfl rfl (Nat.le_of_ble_eq_true rfl) rfl ?_
  have hin := hpo p
  show zW g R_product d 0 _ [] _ (rQ 10 85 86 μ0 c (qbin (μ0.1 61) n (po) qop3 120 p))
  unfold qbin
  refine zb R_product_s0 rfl ?_
  refine zcallV R_product_d2 k7_64 (by omega) (HO (d - 1) p c _ (by omega) hp hl hs) rfl rfl rfl (Nat.le_of_ble_eq_true rfl) ?_
  rintro v μ1 hv
  cases hr : (po) p with
  | inl q =>
    rw [hr] at hv
    obtain rfl := hv.1
    refine z_ne R_product_d5 (tgt := 10) rfl (fun h5 => absurd rfl h5) (fun h5 => ?_)
    refine zb R_product_s8 rfl ?_
    refine z_retZ R_product_d9 rfl (by first | exact Or.inl rfl | exact Or.inr rfl) ?_
    exact ⟨rfl, hv.2⟩
  | inr z =>
    obtain ⟨q, c1, e1⟩ := z
    rw [hr] at hv hin
    obtain rfl := hv.1
    refine z_ne R_product_d5 (tgt := 10) rfl (fun h5 => ?_) (fun h5 => absurd h5 (by decide))
    refine zb R_product_s10 rfl ?_
    refine zcallV R_product_d11 k7_38 (by omega) (x_next (Or.inr ⟨rfl, rfl, rfl⟩) hn hn2 (by omega) hv.2.f) rfl rfl rfl (Nat.le_of_ble_eq_true rfl) ?_
    rintro _ μx ⟨rfl, hx⟩
    rw [hx]
    clear hx μx
    refine zb R_product_s14 rfl ?_
    exact w_R_product_10 hR hn hn2 hpo HO (by omega) 120 0 q c1 e1 μ1 (by omega) hin.2.1 (by simp only [List.length_append]; omega) hv.2

set_option maxRecDepth 100000 in
set_option maxHeartbeats 4000000 in
theorem w_R_sum_10 {g : zG} {μ0 : zMem} {n D : Nat} {o : Int32} {po : Nat → qR} (hR : μ0.2.2 = zR11) (hn : μ0.1 3 1 = nI n) (hn2 : n ≤ 120) (hpo : qok n (qP (μ0.1 61) n po)) (HO : ∀ (d p : Nat) (c : qC) (μ : zMem), D ≤ d → p ≤ n → c.length ≤ p → rS 10 85 86 μ0 p c μ → zM g d R_product [.ref 3, .int o] μ (rQ 10 85 86 μ0 c (qP (μ0.1 61) n po p))) {d : Nat} (hd : D + 1 ≤ d) {c : qC} : ∀ (f i q : Nat) (c1 : qC) (e : qD) (μ : zMem), i + f = 120 → q ≤ n → (c ++ c1).length ≤ q → rS 10 85 86 μ0 q (c ++ c1) μ → zW g R_sum d 17 [some (.ref 3), some (.int o), some (.int (qnx (μ0.1 61) n q)), some (.int (nI i))] [] μ (rQ 10 85 86 μ0 c (qlp (μ0.1 61) n (qP (μ0.1 61) n po) qop2 f q c1 e)) := by
  intro f
  induction f with
  | zero =>
    intro i q c1 e μ hi hq hl hs
    have hi : i = 120 := by omega
    subst hi
    refine zb R_sum_s17 rfl ?_
    refine z_cge R_sum_d20 (tgt := 75) rfl (fun h20 => ?_) (fun h20 => absurd (show (120 : Int32) ≤ nI 120 by decide) h20)
    refine zb R_sum_s75 rfl ?_
    refine z_retZ R_sum_d76 rfl (by first | exact Or.inl rfl | exact Or.inr rfl) ?_
    exact ⟨rfl, hs⟩
  | succ f ih =>
    intro i q c1 e μ hi hq hl hs
    obtain ⟨m1, m2, R⟩ := μ
    obtain rfl : R = zR11 := hs.f.R hR
    have hgo : qop2 (qnx (μ0.1 61) n q) = true → zW g R_sum d 35 [some (.ref 3), some (.int o), some (.int (qnx (μ0.1 61) n q)), some (.int (nI i))] [] (m1, m2, zR11) (rQ 10 85 86 μ0 c (qlp (μ0.1 61) n (qP (μ0.1 61) n po) qop2 (f + 1) q c1 e)) := by
      intro hop
      have hq1 : q < n := qnx_lt (qop2_ok _ hop).2
      have hin := hpo (q + 1)
      simp only [qlp, if_pos hop]
      refine zb R_sum_s35 rfl ?_
      rw [show ((m1, m2, zR11) : zMem).1 3 2 = nI q from hs.2.1, nI_1]
      refine zcallV R_sum_d47 k7_61 (by omega) (HO (d - 1) (q + 1) (c ++ c1) _ (by omega) (by omega) (by omega) (hs.adv (Or.inr ⟨rfl, rfl, rfl⟩))) rfl rfl rfl (Nat.le_of_ble_eq_true rfl) ?_
      rintro v μ1 hv
      cases hr : (qP (μ0.1 61) n po) (q + 1) with
      | inl q2 =>
        rw [hr] at hv
        obtain rfl := hv.1
        refine z_ne R_sum_d50 (tgt := 55) rfl (fun h50 => absurd rfl h50) (fun h50 => ?_)
        refine zb R_sum_s53 rfl ?_
        refine z_retZ R_sum_d54 rfl (by first | exact Or.inl rfl | exact Or.inr rfl) ?_
        exact ⟨rfl, hv.2⟩
      | inr z =>
        obtain ⟨q2, c2, e2⟩ := z
        rw [hr] at hv hin
        obtain rfl := hv.1
        have hv2 := hv.2
        obtain ⟨m1, m2, R⟩ := μ1
        obtain rfl : R = zR11 := hv2.f.R hR
        replace hin := hin
        refine z_ne R_sum_d50 (tgt := 55) rfl (fun h50 => ?_) (fun h50 => absurd h50 (by decide))
        refine zb R_sum_s55 rfl ?_
        refine zcallV R_sum_d61 k7_45 (by omega) (x_add_10 (by simp only [List.length_append] at hl ⊢; omega) hv2) rfl rfl rfl (Nat.le_of_ble_eq_true rfl) ?_
        rintro _ μ2 ⟨rfl, hs2⟩
        obtain ⟨m1, m2, R⟩ := μ2
        obtain rfl : R = zR11 := hs2.f.R hR
        refine zb R_sum_s64 rfl ?_
        refine zcallV R_sum_d65 k7_38 (by omega) (x_next (Or.inr ⟨rfl, rfl, rfl⟩) hn hn2 (by omega) hs2.f) rfl rfl rfl (Nat.le_of_ble_eq_true rfl) ?_
        rintro _ μx ⟨rfl, hx⟩
        rw [hx]
        clear hx μx
        refine zb R_sum_s68 rfl ?_
        rw [nI_1]
        refine ih (i + 1) q2 _ _ _ (by omega) hin.2.1 ?_ ?_
        · simp only [List.length_append, List.length_cons, List.length_nil] at hl ⊢
          omega
        · simp only [List.append_assoc] at hs2 ⊢
          exact hs2
    refine zb R_sum_s17 rfl ?_
    refine z_cge R_sum_d20 (tgt := 75) rfl (fun h20 => absurd h20 (nI_ge (b := 120) (by omega) (by omega))) (fun h20 => ?_)
    refine zb R_sum_s23 rfl ?_
    refine z_ceq R_sum_d26 (tgt := 35) rfl (fun h26 => ?_) (fun h26 => ?_)
    · exact hgo (by first | (rw [h26]; rfl) | (rw [h32]; rfl))
    · refine zb R_sum_s29 rfl ?_
      refine z_cne R_sum_d32 (tgt := 75) rfl (fun h32 => ?_) (fun h32 => ?_)
      · have hno : ¬ qop2 (qnx (μ0.1 61) n q) = true := by
          unfold qop2
          simp only [Bool.or_eq_true, beq_iff_eq]
          exact fun z => z.elim h26 h32
        simp only [qlp, if_neg hno]
        refine zb R_sum_s75 rfl ?_
        refine z_retZ R_sum_d76 rfl (by first | exact Or.inl rfl | exact Or.inr rfl) ?_
        exact ⟨rfl, hs⟩
      · exact hgo (by first | (rw [h26]; rfl) | (rw [h32]; rfl))

set_option maxRecDepth 100000 in
set_option maxHeartbeats 4000000 in
theorem x_R_sum_10 {g : zG} {μ0 : zMem} {n D : Nat} {o : Int32} {po : Nat → qR} (hR : μ0.2.2 = zR11) (hn : μ0.1 3 1 = nI n) (hn2 : n ≤ 120) (hpo : qok n (qP (μ0.1 61) n po)) (HO : ∀ (d p : Nat) (c : qC) (μ : zMem), D ≤ d → p ≤ n → c.length ≤ p → rS 10 85 86 μ0 p c μ → zM g d R_product [.ref 3, .int o] μ (rQ 10 85 86 μ0 c (qP (μ0.1 61) n po p))) : ∀ (d p : Nat) (c : qC) (μ : zMem), D + 1 ≤ d → p ≤ n → c.length ≤ p → rS 10 85 86 μ0 p c μ → zM g d R_sum [.ref 3, .int o] μ (rQ 10 85 86 μ0 c (qS (μ0.1 61) n po p)) := by
  intro d p c μ hd hp hl hs
  refine zM_of (by decide +kernel) rfl rfl (Nat.le_of_ble_eq_true rfl) rfl ?_
  have hin := hpo p
  show zW g R_sum d 0 _ [] _ (rQ 10 85 86 μ0 c (qbin (μ0.1 61) n (qP (μ0.1 61) n po) qop2 120 p))
  unfold qbin
  refine zb R_sum_s0 rfl ?_
  refine zcallV R_sum_d2 k7_61 (by omega) (HO (d - 1) p c _ (by omega) hp hl hs) rfl rfl rfl (Nat.le_of_ble_eq_true rfl) ?_
  rintro v μ1 hv
  cases hr : (qP (μ0.1 61) n po) p with
  | inl q =>
    rw [hr] at hv
    obtain rfl := hv.1
    refine z_ne R_sum_d5 (tgt := 10) rfl (fun h5 => absurd rfl h5) (fun h5 => ?_)
    refine zb R_sum_s8 rfl ?_
    refine z_retZ R_sum_d9 rfl (by first | exact Or.inl rfl | exact Or.inr rfl) ?_
    exact ⟨rfl, hv.2⟩
  | inr z =>
    obtain ⟨q, c1, e1⟩ := z
    rw [hr] at hv hin
    obtain rfl := hv.1
    refine z_ne R_sum_d5 (tgt := 10) rfl (fun h5 => ?_) (fun h5 => absurd h5 (by decide))
    refine zb R_sum_s10 rfl ?_
    refine zcallV R_sum_d11 k7_38 (by omega) (x_next (Or.inr ⟨rfl, rfl, rfl⟩) hn hn2 (by omega) hv.2.f) rfl rfl rfl (Nat.le_of_ble_eq_true rfl) ?_
    rintro _ μx ⟨rfl, hx⟩
    rw [hx]
    clear hx μx
    refine zb R_sum_s14 rfl ?_
    exact w_R_sum_10 hR hn hn2 hpo HO (by omega) 120 0 q c1 e1 μ1 (by omega) hin.2.1 (by simp only [List.length_append]; omega) hv.2

set_option maxRecDepth 100000 in
set_option maxHeartbeats 4000000 in
theorem x_R_compared_10 {g : zG} {μ0 : zMem} {n D : Nat} {o : Int32} {po : Nat → qR} (hR : μ0.2.2 = zR11) (hn : μ0.1 3 1 = nI n) (hn2 : n ≤ 120) (hpo : qok n (qS (μ0.1 61) n po)) (HO : ∀ (d p : Nat) (c : qC) (μ : zMem), D ≤ d → p ≤ n → c.length ≤ p → rS 10 85 86 μ0 p c μ → zM g d R_sum [.ref 3, .int o] μ (rQ 10 85 86 μ0 c (qS (μ0.1 61) n po p))) : ∀ (d p : Nat) (c : qC) (μ : zMem), D + 1 ≤ d → p ≤ n → c.length ≤ p → rS 10 85 86 μ0 p c μ → zM g d R_compared [.ref 3, .int o] μ (rQ 10 85 86 μ0 c (qBB (μ0.1 61) n po p)) := by
  intro d p c μ hd hp hl hs
  refine zM_of (by decide +kernel) rfl rfl (Nat.le_of_ble_eq_true rfl) rfl ?_
  have hin := hpo p
  show zW g R_compared d 0 _ [] _ (rQ 10 85 86 μ0 c (qbin (μ0.1 61) n (qS (μ0.1 61) n po) qopB 1 p))
  unfold qbin
  refine zb R_compared_s0 rfl ?_
  refine zcallV R_compared_d2 k7_58 (by omega) (HO (d - 1) p c _ (by omega) hp hl hs) rfl rfl rfl (Nat.le_of_ble_eq_true rfl) ?_
  rintro v μ1 hv
  cases hr : (qS (μ0.1 61) n po) p with
  | inl q =>
    rw [hr] at hv
    obtain rfl := hv.1
    refine z_ne R_compared_d5 (tgt := 10) rfl (fun h5 => absurd rfl h5) (fun h5 => ?_)
    refine zb R_compared_s8 rfl ?_
    refine z_retZ R_compared_d9 rfl (by first | exact Or.inl rfl | exact Or.inr rfl) ?_
    exact ⟨rfl, hv.2⟩
  | inr z =>
    obtain ⟨q, c1, e1⟩ := z
    rw [hr] at hv hin
    obtain rfl := hv.1
    have hl1 : (c ++ c1).length ≤ q := by simp only [List.length_append]; omega
    have hgo : qopB (qnx (μ0.1 61) n q) = true → zW g R_compared d 35 [some (.ref 3), some (.int o), some (.int (qnx (μ0.1 61) n q))] [] μ1 (rQ 10 85 86 μ0 c (qlp (μ0.1 61) n (qS (μ0.1 61) n po) qopB 1 q c1 e1)) := by
      intro hop
      have hq1 : q < n := qnx_lt (qopB_ok _ hop).2
      have hin2 := hpo (q + 1)
      simp only [qlp, if_pos hop]
      refine zb R_compared_s35 rfl ?_
      rw [show μ1.1 3 2 = nI q from hv.2.2.1, nI_1]
      refine zcallV R_compared_d47 k7_58 (by omega) (HO (d - 1) (q + 1) (c ++ c1) _ (by omega) (by omega) (by omega) (hv.2.adv (Or.inr ⟨rfl, rfl, rfl⟩))) rfl rfl rfl (Nat.le_of_ble_eq_true rfl) ?_
      rintro v μ2 hv2
      cases hr2 : (qS (μ0.1 61) n po) (q + 1) with
      | inl q2 =>
        rw [hr2] at hv2
        obtain rfl := hv2.1
        refine z_ne R_compared_d50 (tgt := 55) rfl (fun h50 => absurd rfl h50) (fun h50 => ?_)
        refine zb R_compared_s53 rfl ?_
        refine z_retZ R_compared_d54 rfl (by first | exact Or.inl rfl | exact Or.inr rfl) ?_
        exact ⟨rfl, hv2.2⟩
      | inr z =>
        obtain ⟨q2, c2, e2⟩ := z
        rw [hr2] at hv2 hin2
        obtain rfl := hv2.1
        have hv3 := hv2.2
        obtain ⟨m3, m4, R⟩ := μ2
        obtain rfl : R = zR11 := hv3.f.R hR
        refine z_ne R_compared_d50 (tgt := 55) rfl (fun h50 => ?_) (fun h50 => absurd h50 (by decide))
        refine zb R_compared_s55 rfl ?_
        refine zcallV R_compared_d61 k7_45 (by omega) (x_add_10 (by simp only [List.length_append] at hl1 ⊢; omega) hv3) rfl rfl rfl (Nat.le_of_ble_eq_true rfl) ?_
        rintro _ μ3 ⟨rfl, hs2⟩
        refine zb R_compared_s64 rfl ?_
        refine z_retZ R_compared_d65 rfl (by first | exact Or.inl rfl | exact Or.inr rfl) ?_
        simp only [List.append_assoc] at hs2 ⊢
        exact ⟨rfl, hs2⟩
    refine z_ne R_compared_d5 (tgt := 10) rfl (fun h5 => ?_) (fun h5 => absurd h5 (by decide))
    refine zb R_compared_s10 rfl ?_
    refine zcallV R_compared_d11 k7_38 (by omega) (x_next (Or.inr ⟨rfl, rfl, rfl⟩) hn hn2 (by omega) hv.2.f) rfl rfl rfl (Nat.le_of_ble_eq_true rfl) ?_
    rintro _ μx ⟨rfl, hx⟩
    rw [hx]
    clear hx μx
    refine zb R_compared_s14 rfl ?_
    refine z_ceq R_compared_d18 (tgt := 35) rfl (fun h18 => ?_) (fun h18 => ?_)
    · exact hgo (by first | (rw [h18]; rfl) | (rw [h24]; rfl) | (rw [h30]; rfl))
    · refine zb R_compared_s21 rfl ?_
      refine z_ceq R_compared_d24 (tgt := 35) rfl (fun h24 => ?_) (fun h24 => ?_)
      · exact hgo (by first | (rw [h18]; rfl) | (rw [h24]; rfl) | (rw [h30]; rfl))
      · refine zb R_compared_s27 rfl ?_
        refine z_ceq R_compared_d30 (tgt := 35) rfl (fun h30 => ?_) (fun h30 => ?_)
        · exact hgo (by first | (rw [h18]; rfl) | (rw [h24]; rfl) | (rw [h30]; rfl))
        · have hno : ¬ qopB (qnx (μ0.1 61) n q) = true := by
            unfold qopB
            simp only [Bool.or_eq_true, beq_iff_eq]
            exact fun z => z.elim (fun y => y.elim h18 h24) h30
          simp only [qlp, if_neg hno]
          refine zb R_compared_s33 rfl ?_
          refine z_retZ R_compared_d34 rfl (by first | exact Or.inl rfl | exact Or.inr rfl) ?_
          exact ⟨rfl, hv.2⟩

set_option maxRecDepth 100000 in
set_option maxHeartbeats 4000000 in
theorem w_R_both_10 {g : zG} {μ0 : zMem} {n D : Nat} {o : Int32} {po : Nat → qR} (hR : μ0.2.2 = zR11) (hn : μ0.1 3 1 = nI n) (hn2 : n ≤ 120) (hpo : qok n (qBB (μ0.1 61) n po)) (HO : ∀ (d p : Nat) (c : qC) (μ : zMem), D ≤ d → p ≤ n → c.length ≤ p → rS 10 85 86 μ0 p c μ → zM g d R_compared [.ref 3, .int o] μ (rQ 10 85 86 μ0 c (qBB (μ0.1 61) n po p))) {d : Nat} (hd : D + 1 ≤ d) (hd2 : 2 ≤ d) {c : qC} : ∀ (f i q : Nat) (c1 : qC) (e : qD) (μ : zMem), i + f = 120 → q ≤ n → (c ++ c1).length ≤ q → rS 10 85 86 μ0 q (c ++ c1) μ → zW g R_both d 12 [some (.ref 3), some (.int o), some (.int (nI i))] [] μ (rQ 10 85 86 μ0 c (qlp (μ0.1 61) n (qBB (μ0.1 61) n po) qopA f q c1 e)) := by
  intro f
  induction f with
  | zero =>
    intro i q c1 e μ hi hq hl hs
    have hi : i = 120 := by omega
    subst hi
    refine zb R_both_s12 rfl ?_
    refine z_cge R_both_d15 (tgt := 53) rfl (fun h15 => ?_) (fun h15 => absurd (show (120 : Int32) ≤ nI 120 by decide) h15)
    refine zb R_both_s53 rfl ?_
    refine z_retZ R_both_d54 rfl (by first | exact Or.inl rfl | exact Or.inr rfl) ?_
    exact ⟨rfl, hs⟩
  | succ f ih =>
    intro i q c1 e μ hi hq hl hs
    by_cases hop : qnx (μ0.1 61) n q = 38
    · have hq1 : q < n := qnx_lt (by rw [hop]; decide)
      have hin := hpo (q + 1)
      simp only [qlp, if_pos (show qopA (qnx (μ0.1 61) n q) = true by rw [hop]; rfl)]
      refine zb R_both_s12 rfl ?_
      refine z_cge R_both_d15 (tgt := 53) rfl (fun h15 => absurd h15 (nI_ge (b := 120) (by omega) (by omega))) (fun h15 => ?_)
      refine zb R_both_s18 rfl ?_
      refine zcallV R_both_d21 k7_34 (by omega) (x_take_y (by omega) (Or.inr ⟨rfl, rfl, rfl⟩) hn hn2 (by omega) hs hop) rfl rfl rfl (Nat.le_of_ble_eq_true rfl) ?_
      rintro _ μ3 ⟨rfl, hs3⟩
      refine z_eq R_both_d24 (tgt := 53) rfl (fun h24 => absurd h24 (by decide)) (fun h24 => ?_)
      refine zb R_both_s27 rfl ?_
      refine zcallV R_both_d29 k7_55 (by omega) (HO (d - 1) (q + 1) (c ++ c1) _ (by omega) (by omega) (by omega) hs3) rfl rfl rfl (Nat.le_of_ble_eq_true rfl) ?_
      rintro v μ1 hv
      cases hr : (qBB (μ0.1 61) n po) (q + 1) with
      | inl q2 =>
        rw [hr] at hv
        obtain rfl := hv.1
        refine z_ne R_both_d32 (tgt := 37) rfl (fun h32 => absurd rfl h32) (fun h32 => ?_)
        refine zb R_both_s35 rfl ?_
        refine z_retZ R_both_d36 rfl (by first | exact Or.inl rfl | exact Or.inr rfl) ?_
        exact ⟨rfl, hv.2⟩
      | inr z =>
        obtain ⟨q2, c2, e2⟩ := z
        rw [hr] at hv hin
        obtain rfl := hv.1
        have hv2 := hv.2
        obtain ⟨m1, m2, R⟩ := μ1
        obtain rfl : R = zR11 := hv2.f.R hR
        refine z_ne R_both_d32 (tgt := 37) rfl (fun h32 => ?_) (fun h32 => absurd h32 (by decide))
        refine zb R_both_s37 rfl ?_
        refine zcallV R_both_d44 k7_45 (by omega) (x_add_10 (by simp only [List.length_append] at hl ⊢; omega) hv2) rfl rfl rfl (Nat.le_of_ble_eq_true rfl) ?_
        rintro _ μ2 ⟨rfl, hs2⟩
        refine zb R_both_s47 rfl ?_
        rw [nI_1]
        refine ih (i + 1) q2 _ _ _ (by omega) hin.2.1 ?_ ?_
        · simp only [List.length_append, List.length_cons, List.length_nil] at hl ⊢
          omega
        · simp only [List.append_assoc] at hs2 ⊢
          rw [hop]
          exact hs2
    · simp only [qlp, if_neg (show ¬ qopA (qnx (μ0.1 61) n q) = true from fun z => hop (by unfold qopA at z; rw [beq_iff_eq] at z; exact z))]
      refine zb R_both_s12 rfl ?_
      refine z_cge R_both_d15 (tgt := 53) rfl (fun h15 => absurd h15 (nI_ge (b := 120) (by omega) (by omega))) (fun h15 => ?_)
      refine zb R_both_s18 rfl ?_
      refine zcallV R_both_d21 k7_34 (by omega) (x_take_n (by omega) (Or.inr ⟨rfl, rfl, rfl⟩) hn hn2 (by omega) hs.f hop) rfl rfl rfl (Nat.le_of_ble_eq_true rfl) ?_
      rintro _ μx ⟨rfl, hx⟩
      rw [hx]
      clear hx μx
      refine z_eq R_both_d24 (tgt := 53) rfl (fun h24 => ?_) (fun h24 => absurd rfl h24)
      refine zb R_both_s53 rfl ?_
      refine z_retZ R_both_d54 rfl (by first | exact Or.inl rfl | exact Or.inr rfl) ?_
      exact ⟨rfl, hs⟩

set_option maxRecDepth 100000 in
set_option maxHeartbeats 4000000 in
theorem x_R_both_10 {g : zG} {μ0 : zMem} {n D : Nat} {o : Int32} {po : Nat → qR} (hR : μ0.2.2 = zR11) (hn : μ0.1 3 1 = nI n) (hn2 : n ≤ 120) (hpo : qok n (qBB (μ0.1 61) n po)) (hD : 1 ≤ D) (HO : ∀ (d p : Nat) (c : qC) (μ : zMem), D ≤ d → p ≤ n → c.length ≤ p → rS 10 85 86 μ0 p c μ → zM g d R_compared [.ref 3, .int o] μ (rQ 10 85 86 μ0 c (qBB (μ0.1 61) n po p))) : ∀ (d p : Nat) (c : qC) (μ : zMem), D + 1 ≤ d → p ≤ n → c.length ≤ p → rS 10 85 86 μ0 p c μ → zM g d R_both [.ref 3, .int o] μ (rQ 10 85 86 μ0 c (qA (μ0.1 61) n po p)) := by
  intro d p c μ hd hp hl hs
  refine zM_of (by decide +kernel) rfl rfl (Nat.le_of_ble_eq_true rfl) rfl ?_
  have hin := hpo p
  show zW g R_both d 0 _ [] _ (rQ 10 85 86 μ0 c (qbin (μ0.1 61) n (qBB (μ0.1 61) n po) qopA 120 p))
  unfold qbin
  refine zb R_both_s0 rfl ?_
  refine zcallV R_both_d2 k7_55 (by omega) (HO (d - 1) p c _ (by omega) hp hl hs) rfl rfl rfl (Nat.le_of_ble_eq_true rfl) ?_
  rintro v μ1 hv
  cases hr : (qBB (μ0.1 61) n po) p with
  | inl q =>
    rw [hr] at hv
    obtain rfl := hv.1
    refine z_ne R_both_d5 (tgt := 10) rfl (fun h5 => absurd rfl h5) (fun h5 => ?_)
    refine zb R_both_s8 rfl ?_
    refine z_retZ R_both_d9 rfl (by first | exact Or.inl rfl | exact Or.inr rfl) ?_
    exact ⟨rfl, hv.2⟩
  | inr z =>
    obtain ⟨q, c1, e1⟩ := z
    rw [hr] at hv hin
    obtain rfl := hv.1
    refine z_ne R_both_d5 (tgt := 10) rfl (fun h5 => ?_) (fun h5 => absurd h5 (by decide))
    refine zb R_both_s10 rfl ?_
    exact w_R_both_10 hR hn hn2 hpo HO (by omega) (by omega) 120 0 q c1 e1 μ1 (by omega) hin.2.1 (by simp only [List.length_append]; omega) hv.2

set_option maxRecDepth 100000 in
set_option maxHeartbeats 4000000 in
theorem w_R_either_10 {g : zG} {μ0 : zMem} {n D : Nat} {o : Int32} {po : Nat → qR} (hR : μ0.2.2 = zR11) (hn : μ0.1 3 1 = nI n) (hn2 : n ≤ 120) (hpo : qok n (qA (μ0.1 61) n po)) (HO : ∀ (d p : Nat) (c : qC) (μ : zMem), D ≤ d → p ≤ n → c.length ≤ p → rS 10 85 86 μ0 p c μ → zM g d R_both [.ref 3, .int o] μ (rQ 10 85 86 μ0 c (qA (μ0.1 61) n po p))) {d : Nat} (hd : D + 1 ≤ d) (hd2 : 2 ≤ d) {c : qC} : ∀ (f i q : Nat) (c1 : qC) (e : qD) (μ : zMem), i + f = 120 → q ≤ n → (c ++ c1).length ≤ q → rS 10 85 86 μ0 q (c ++ c1) μ → zW g R_either d 12 [some (.ref 3), some (.int o), some (.int (nI i))] [] μ (rQ 10 85 86 μ0 c (qlp (μ0.1 61) n (qA (μ0.1 61) n po) qopE f q c1 e)) := by
  intro f
  induction f with
  | zero =>
    intro i q c1 e μ hi hq hl hs
    have hi : i = 120 := by omega
    subst hi
    refine zb R_either_s12 rfl ?_
    refine z_cge R_either_d15 (tgt := 53) rfl (fun h15 => ?_) (fun h15 => absurd (show (120 : Int32) ≤ nI 120 by decide) h15)
    refine zb R_either_s53 rfl ?_
    refine z_retZ R_either_d54 rfl (by first | exact Or.inl rfl | exact Or.inr rfl) ?_
    exact ⟨rfl, hs⟩
  | succ f ih =>
    intro i q c1 e μ hi hq hl hs
    by_cases hop : qnx (μ0.1 61) n q = 124
    · have hq1 : q < n := qnx_lt (by rw [hop]; decide)
      have hin := hpo (q + 1)
      simp only [qlp, if_pos (show qopE (qnx (μ0.1 61) n q) = true by rw [hop]; rfl)]
      refine zb R_either_s12 rfl ?_
      refine z_cge R_either_d15 (tgt := 53) rfl (fun h15 => absurd h15 (nI_ge (b := 120) (by omega) (by omega))) (fun h15 => ?_)
      refine zb R_either_s18 rfl ?_
      refine zcallV R_either_d21 k7_34 (by omega) (x_take_y (by omega) (Or.inr ⟨rfl, rfl, rfl⟩) hn hn2 (by omega) hs hop) rfl rfl rfl (Nat.le_of_ble_eq_true rfl) ?_
      rintro _ μ3 ⟨rfl, hs3⟩
      refine z_eq R_either_d24 (tgt := 53) rfl (fun h24 => absurd h24 (by decide)) (fun h24 => ?_)
      refine zb R_either_s27 rfl ?_
      refine zcallV R_either_d29 k7_52 (by omega) (HO (d - 1) (q + 1) (c ++ c1) _ (by omega) (by omega) (by omega) hs3) rfl rfl rfl (Nat.le_of_ble_eq_true rfl) ?_
      rintro v μ1 hv
      cases hr : (qA (μ0.1 61) n po) (q + 1) with
      | inl q2 =>
        rw [hr] at hv
        obtain rfl := hv.1
        refine z_ne R_either_d32 (tgt := 37) rfl (fun h32 => absurd rfl h32) (fun h32 => ?_)
        refine zb R_either_s35 rfl ?_
        refine z_retZ R_either_d36 rfl (by first | exact Or.inl rfl | exact Or.inr rfl) ?_
        exact ⟨rfl, hv.2⟩
      | inr z =>
        obtain ⟨q2, c2, e2⟩ := z
        rw [hr] at hv hin
        obtain rfl := hv.1
        have hv2 := hv.2
        obtain ⟨m1, m2, R⟩ := μ1
        obtain rfl : R = zR11 := hv2.f.R hR
        refine z_ne R_either_d32 (tgt := 37) rfl (fun h32 => ?_) (fun h32 => absurd h32 (by decide))
        refine zb R_either_s37 rfl ?_
        refine zcallV R_either_d44 k7_45 (by omega) (x_add_10 (by simp only [List.length_append] at hl ⊢; omega) hv2) rfl rfl rfl (Nat.le_of_ble_eq_true rfl) ?_
        rintro _ μ2 ⟨rfl, hs2⟩
        refine zb R_either_s47 rfl ?_
        rw [nI_1]
        refine ih (i + 1) q2 _ _ _ (by omega) hin.2.1 ?_ ?_
        · simp only [List.length_append, List.length_cons, List.length_nil] at hl ⊢
          omega
        · simp only [List.append_assoc] at hs2 ⊢
          rw [hop]
          exact hs2
    · simp only [qlp, if_neg (show ¬ qopE (qnx (μ0.1 61) n q) = true from fun z => hop (by unfold qopE at z; rw [beq_iff_eq] at z; exact z))]
      refine zb R_either_s12 rfl ?_
      refine z_cge R_either_d15 (tgt := 53) rfl (fun h15 => absurd h15 (nI_ge (b := 120) (by omega) (by omega))) (fun h15 => ?_)
      refine zb R_either_s18 rfl ?_
      refine zcallV R_either_d21 k7_34 (by omega) (x_take_n (by omega) (Or.inr ⟨rfl, rfl, rfl⟩) hn hn2 (by omega) hs.f hop) rfl rfl rfl (Nat.le_of_ble_eq_true rfl) ?_
      rintro _ μx ⟨rfl, hx⟩
      rw [hx]
      clear hx μx
      refine z_eq R_either_d24 (tgt := 53) rfl (fun h24 => ?_) (fun h24 => absurd rfl h24)
      refine zb R_either_s53 rfl ?_
      refine z_retZ R_either_d54 rfl (by first | exact Or.inl rfl | exact Or.inr rfl) ?_
      exact ⟨rfl, hs⟩

set_option maxRecDepth 100000 in
set_option maxHeartbeats 4000000 in
theorem x_R_either_10 {g : zG} {μ0 : zMem} {n D : Nat} {o : Int32} {po : Nat → qR} (hR : μ0.2.2 = zR11) (hn : μ0.1 3 1 = nI n) (hn2 : n ≤ 120) (hpo : qok n (qA (μ0.1 61) n po)) (hD : 1 ≤ D) (HO : ∀ (d p : Nat) (c : qC) (μ : zMem), D ≤ d → p ≤ n → c.length ≤ p → rS 10 85 86 μ0 p c μ → zM g d R_both [.ref 3, .int o] μ (rQ 10 85 86 μ0 c (qA (μ0.1 61) n po p))) : ∀ (d p : Nat) (c : qC) (μ : zMem), D + 1 ≤ d → p ≤ n → c.length ≤ p → rS 10 85 86 μ0 p c μ → zM g d R_either [.ref 3, .int o] μ (rQ 10 85 86 μ0 c (qE (μ0.1 61) n po p)) := by
  intro d p c μ hd hp hl hs
  refine zM_of (by decide +kernel) rfl rfl (Nat.le_of_ble_eq_true rfl) rfl ?_
  have hin := hpo p
  show zW g R_either d 0 _ [] _ (rQ 10 85 86 μ0 c (qbin (μ0.1 61) n (qA (μ0.1 61) n po) qopE 120 p))
  unfold qbin
  refine zb R_either_s0 rfl ?_
  refine zcallV R_either_d2 k7_52 (by omega) (HO (d - 1) p c _ (by omega) hp hl hs) rfl rfl rfl (Nat.le_of_ble_eq_true rfl) ?_
  rintro v μ1 hv
  cases hr : (qA (μ0.1 61) n po) p with
  | inl q =>
    rw [hr] at hv
    obtain rfl := hv.1
    refine z_ne R_either_d5 (tgt := 10) rfl (fun h5 => absurd rfl h5) (fun h5 => ?_)
    refine zb R_either_s8 rfl ?_
    refine z_retZ R_either_d9 rfl (by first | exact Or.inl rfl | exact Or.inr rfl) ?_
    exact ⟨rfl, hv.2⟩
  | inr z =>
    obtain ⟨q, c1, e1⟩ := z
    rw [hr] at hv hin
    obtain rfl := hv.1
    refine z_ne R_either_d5 (tgt := 10) rfl (fun h5 => ?_) (fun h5 => absurd h5 (by decide))
    refine zb R_either_s10 rfl ?_
    exact w_R_either_10 hR hn hn2 hpo HO (by omega) (by omega) 120 0 q c1 e1 μ1 (by omega) hin.2.1 (by simp only [List.length_append]; omega) hv.2
