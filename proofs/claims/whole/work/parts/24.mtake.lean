/-! the reference works a text out -/
def m1 (μ : zMem) (p : Int32) : zMem := zpI μ 0 24 p
theorem m1_24 (μ : zMem) (p x : Int32) : zpI (m1 μ p) 0 24 x = m1 μ x := by
  refine Prod.ext (funext fun c => funext fun j => ?_) rfl
  simp only [zpI, zu, m1]
  by_cases hc : c = 0 <;> by_cases h1 : j = 24 <;> simp_all
theorem m1_p (μ : zMem) (p : Int32) : (m1 μ p).1 0 24 = p := rfl
def qnu (μ : zMem) : Nat → Int32 := fun i => if i < 6 then μ.1 38 (zget [119, 107, 100, 104, 98, 112] i 0) else 0
theorem qop_nd {c : Int32} (h : qop3 c = true ∨ qop2 c = true ∨ qopB c = true ∨ qopA c = true ∨ qopE c = true) : ¬ qdig c := by
  simp only [qop3, qop2, qopB, qopA, qopE, Bool.or_eq_true, beq_iff_eq] at h
  rcases h with ((rfl | rfl) | rfl) | (rfl | rfl) | ((rfl | rfl) | rfl) | rfl | rfl <;> (unfold qdig; decide)
theorem qlp_nd {T : Nat → Int32} {n : Nat} {po : Nat → qR} {isop : Int32 → Bool} (hop : ∀ c, isop c = true → ¬ qdig c) {f q q2 : Nat} {c c2 : qC} {e e2 : qD} (h : qlp T n po isop f q c e = .inr (q2, c2, e2)) (hnd : ¬ qdig (qnx T n q2)) : ¬ qdig (qnx T n q) := by
  cases f with
  | zero =>
    simp only [qlp, Sum.inr.injEq, Prod.mk.injEq] at h
    obtain ⟨rfl, -⟩ := h
    exact hnd
  | succ f =>
    simp only [qlp] at h
    by_cases ho : isop (qnx T n q) = true
    · exact hop _ ho
    · rw [if_neg ho] at h
      simp only [Sum.inr.injEq, Prod.mk.injEq] at h
      obtain ⟨rfl, -⟩ := h
      exact hnd

set_option maxRecDepth 100000 in
set_option maxHeartbeats 4000000 in
theorem c_M_one {g : zG} {d : Nat} {μ : zMem} (v : Int32) : zM g d M_one [.ref 0, .int v] μ (fun r μ' => r = some (.int (zB (¬ v = 0))) ∧ μ' = μ) := by
  refine zM_of (by decide +kernel) rfl rfl (Nat.le_of_ble_eq_true rfl) rfl ?_
  refine zb M_one_s0 rfl ?_
  refine z_eq M_one_d1 (tgt := 8) rfl (fun h1 => ?_) (fun h1 => ?_)
  · refine zb M_one_s8 rfl ?_
    refine z_ret M_one_d9 rfl ?_
    first | exact ⟨by rw [zB_t (by grind)], rfl⟩ | exact ⟨by rw [zB_f (by grind)], rfl⟩
  · refine zb M_one_s4 rfl ?_
    refine z_ret M_one_d9 rfl ?_
    first | exact ⟨by rw [zB_t (by grind)], rfl⟩ | exact ⟨by rw [zB_f (by grind)], rfl⟩

set_option maxRecDepth 100000 in
set_option maxHeartbeats 4000000 in
theorem c_M_seen {g : zG} {d : Nat} {μ : zMem} {q n : Nat} (hn : μ.1 0 5 = nI n) (hn2 : n ≤ 120) (hq : q ≤ 120) : zM g d M_seen [.ref 0] (m1 μ (nI q)) (fun v μ' => v = some (.int (qnx (μ.1 33) n q)) ∧ μ' = m1 μ (nI q)) := by
  refine zM_of (by decide +kernel) rfl rfl (Nat.le_of_ble_eq_true rfl) rfl ?_
  refine zb M_seen_s0 rfl ?_
  refine z_cge M_seen_d8 (tgt := 23) rfl (fun h8 => ?_) (fun h8 => ?_)
  · have hlt : n ≤ q := (nI_leI (by omega) (by omega)).mp (by rw [← hn]; exact h8)
    refine zb M_seen_s23 rfl ?_
    refine z_ret M_seen_d24 rfl ?_
    refine ⟨?_, rfl⟩
    first | (rw [show qnx (μ.1 33) n q = -1 from if_neg (by omega)]; done) | (show some (Value.int (μ.1 33 (nI q).toNatClampNeg)) = _; rw [nI_clamp (by omega), show qnx (μ.1 33) n q = μ.1 33 q from if_pos hlt])
  · have hlt : q < n := by
      rcases Nat.lt_or_ge q n with z | z
      · exact z
      · exact absurd (by show μ.1 0 5 ≤ nI q; rw [hn]; exact nI_le z (by omega)) h8
    refine zb1 M_seen_s11 rfl (by first | assumption | exact vp_in_nI (by omega) (by omega) | decide) ?_
    refine z_ret M_seen_d24 rfl ?_
    refine ⟨?_, rfl⟩
    first | (rw [show qnx (μ.1 33) n q = -1 from if_neg (by omega)]; done) | (show some (Value.int (μ.1 33 (nI q).toNatClampNeg)) = _; rw [nI_clamp (by omega), show qnx (μ.1 33) n q = μ.1 33 q from if_pos hlt])

set_option maxRecDepth 100000 in
set_option maxHeartbeats 4000000 in
theorem c_M_isSeen_y {g : zG} {d : Nat} {μ : zMem} {q n : Nat} (hd : 1 ≤ d) (hn : μ.1 0 5 = nI n) (hn2 : n ≤ 120) (hq : q ≤ 120) {c : Int32} (h : qnx (μ.1 33) n q = c) : zM g d M_isSeen [.ref 0, .int c] (m1 μ (nI q)) (fun v μ' => v = some (.int 1) ∧ μ' = m1 μ (nI (q + 1))) := by
  refine zM_of (by decide +kernel) rfl rfl (Nat.le_of_ble_eq_true rfl) rfl ?_
  refine zb M_isSeen_s0 rfl ?_
  refine zcallV M_isSeen_d1 k11_225 (by omega) (c_M_seen hn hn2 hq) rfl rfl rfl (Nat.le_of_ble_eq_true rfl) ?_
  rintro _ _ ⟨rfl, rfl⟩
  refine zb M_isSeen_s4 rfl ?_
  refine z_ceq M_isSeen_d5 (tgt := 10) rfl (fun h5 => ?_) (fun h5 => absurd h h5)
  refine zb M_isSeen_s10 rfl ?_
  refine z_retZ M_isSeen_d21 rfl (by first | exact Or.inl rfl | exact Or.inr rfl) ?_
  rw [m1_24, m1_p, nI_1]
  exact ⟨rfl, rfl⟩

set_option maxRecDepth 100000 in
set_option maxHeartbeats 4000000 in
theorem c_M_isSeen_n {g : zG} {d : Nat} {μ : zMem} {q n : Nat} (hd : 1 ≤ d) (hn : μ.1 0 5 = nI n) (hn2 : n ≤ 120) (hq : q ≤ 120) {c : Int32} (h : ¬ qnx (μ.1 33) n q = c) : zM g d M_isSeen [.ref 0, .int c] (m1 μ (nI q)) (fun v μ' => v = some (.int 0) ∧ μ' = m1 μ (nI q)) := by
  refine zM_of (by decide +kernel) rfl rfl (Nat.le_of_ble_eq_true rfl) rfl ?_
  refine zb M_isSeen_s0 rfl ?_
  refine zcallV M_isSeen_d1 k11_225 (by omega) (c_M_seen hn hn2 hq) rfl rfl rfl (Nat.le_of_ble_eq_true rfl) ?_
  rintro _ _ ⟨rfl, rfl⟩
  refine zb M_isSeen_s4 rfl ?_
  refine z_ceq M_isSeen_d5 (tgt := 10) rfl (fun h5 => absurd h5 h) (fun h5 => ?_)
  refine zb M_isSeen_s8 rfl ?_
  refine z_retZ M_isSeen_d9 rfl (by first | exact Or.inl rfl | exact Or.inr rfl) ?_
  exact ⟨rfl, rfl⟩

set_option maxRecDepth 100000 in
set_option maxHeartbeats 4000000 in
theorem w_M_takesP {g : zG} {d : Nat} {μ : zMem} {n k : Nat} {po : Nat → qR} (hd : 2 + 6 * k + 1 ≤ d) (hn : μ.1 0 5 = nI n) (hn2 : n ≤ 120) (hk : qok n po) (hO : ∀ d q q2 c e, 2 + 6 * k ≤ d → po q = .inr (q2, c, e) → ¬ qdig (qnx (μ.1 33) n q2) → zM g d M_takesO [.ref 0] (m1 μ (nI q)) (fun v μ' => v = some (.int (e (qnu μ))) ∧ μ' = m1 μ (nI q2))) {q2 : Nat} {c2 : qC} {e2 : qD} (hnd : ¬ qdig (qnx (μ.1 33) n q2)) : ∀ (f q : Nat) (c : qC) (e : qD) (v : Int32) (x2 : Option Value), qlp (μ.1 33) n (po) qop3 f q c e = .inr (q2, c2, e2) → v = e (qnu μ) → n ≤ q + f → q ≤ n → zW g M_takesP d 5 [some (.ref 0), some (.int v), x2] [] (m1 μ (nI q)) (fun v μ' => v = some (.int (e2 (qnu μ))) ∧ μ' = m1 μ (nI q2)) := by
  intro f
  induction f with
  | zero =>
    intro q c e v x2 H hv hf hq
    simp only [qlp, Sum.inr.injEq, Prod.mk.injEq] at H
    obtain ⟨rfl, rfl, rfl⟩ := H
    have hx : qnx (μ.1 33) n q = -1 := if_neg (by omega)
    have hs0 : ¬ qnx (μ.1 33) n q = 42 := by rw [hx]; decide
    have hs1 : ¬ qnx (μ.1 33) n q = 47 := by rw [hx]; decide
    have hs2 : ¬ qnx (μ.1 33) n q = 37 := by rw [hx]; decide
    refine zb M_takesP_s5 rfl ?_
    refine zcallV M_takesP_d8 k11_234 (by omega) (c_M_isSeen_n (q := q) (by omega) hn hn2 (by omega) hs0) rfl rfl rfl (Nat.le_of_ble_eq_true rfl) ?_
    rintro _ _ ⟨rfl, rfl⟩
    refine z_eq M_takesP_d11 (tgt := 24) rfl (fun h11 => ?_) (fun h11 => absurd rfl h11)
    refine zb M_takesP_s24 rfl ?_
    refine zcallV M_takesP_d27 k11_234 (by omega) (c_M_isSeen_n (q := q) (by omega) hn hn2 (by omega) hs1) rfl rfl rfl (Nat.le_of_ble_eq_true rfl) ?_
    rintro _ _ ⟨rfl, rfl⟩
    refine z_eq M_takesP_d30 (tgt := 53) rfl (fun h30 => ?_) (fun h30 => absurd rfl h30)
    refine zb M_takesP_s53 rfl ?_
    refine zcallV M_takesP_d56 k11_234 (by omega) (c_M_isSeen_n (q := q) (by omega) hn hn2 (by omega) hs2) rfl rfl rfl (Nat.le_of_ble_eq_true rfl) ?_
    rintro _ _ ⟨rfl, rfl⟩
    refine z_eq M_takesP_d59 (tgt := 82) rfl (fun h59 => ?_) (fun h59 => absurd rfl h59)
    refine zb M_takesP_s82 rfl ?_
    refine z_ret M_takesP_d83 rfl ?_
    exact ⟨by rw [hv], rfl⟩
  | succ f ih =>
    intro q c e v x2 H hv hf hq
    subst hv
    simp only [qlp] at H
    by_cases hs0 : qnx (μ.1 33) n q = 42
    · have hq1 : q < n := qnx_lt (by rw [hs0]; decide)
      have hop : qop3 (qnx (μ.1 33) n q) = true := by rw [hs0]; rfl
      have hin := hk (q + 1)
      rw [if_pos hop] at H
      cases hr : (po) (q + 1) with
      | inl q3 => rw [hr] at H; cases H
      | inr z =>
        obtain ⟨q3, c3, e3⟩ := z
        rw [hr] at H hin
        dsimp only at H
        have hnd3 := qlp_nd (fun c h => qop_nd (Or.inl h)) H hnd
        refine zb M_takesP_s5 rfl ?_
        refine zcallV M_takesP_d8 k11_234 (by omega) (c_M_isSeen_y (q := q) (by omega) hn hn2 (by omega) hs0) rfl rfl rfl (Nat.le_of_ble_eq_true rfl) ?_
        rintro _ _ ⟨rfl, rfl⟩
        refine z_eq M_takesP_d11 (tgt := 24) rfl (fun h11 => absurd h11 (show ¬ (1 : Int32) = 0 by decide)) (fun h11 => ?_)
        refine zb M_takesP_s14 rfl ?_
        refine zcallV M_takesP_d16 k11_228 (by omega) (hO (d - 1) _ _ _ _ (by omega) hr hnd3) rfl rfl rfl (Nat.le_of_ble_eq_true rfl) ?_
        rintro _ _ ⟨rfl, rfl⟩
        refine zb M_takesP_s19 rfl ?_
        exact ih q3 _ _ _ _ H (by show _ = qjn (qnx (μ.1 33) n q) (e (qnu μ)) (e3 (qnu μ)); rw [hs0]; rfl) (by omega) (by omega)
    · by_cases hs1 : qnx (μ.1 33) n q = 47
      · have hq1 : q < n := qnx_lt (by rw [hs1]; decide)
        have hop : qop3 (qnx (μ.1 33) n q) = true := by rw [hs1]; rfl
        have hin := hk (q + 1)
        rw [if_pos hop] at H
        cases hr : (po) (q + 1) with
        | inl q3 => rw [hr] at H; cases H
        | inr z =>
          obtain ⟨q3, c3, e3⟩ := z
          rw [hr] at H hin
          dsimp only at H
          have hnd3 := qlp_nd (fun c h => qop_nd (Or.inl h)) H hnd
          refine zb M_takesP_s5 rfl ?_
          refine zcallV M_takesP_d8 k11_234 (by omega) (c_M_isSeen_n (q := q) (by omega) hn hn2 (by omega) hs0) rfl rfl rfl (Nat.le_of_ble_eq_true rfl) ?_
          rintro _ _ ⟨rfl, rfl⟩
          refine z_eq M_takesP_d11 (tgt := 24) rfl (fun h11 => ?_) (fun h11 => absurd rfl h11)
          refine zb M_takesP_s24 rfl ?_
          refine zcallV M_takesP_d27 k11_234 (by omega) (c_M_isSeen_y (q := q) (by omega) hn hn2 (by omega) hs1) rfl rfl rfl (Nat.le_of_ble_eq_true rfl) ?_
          rintro _ _ ⟨rfl, rfl⟩
          refine z_eq M_takesP_d30 (tgt := 53) rfl (fun h30 => absurd h30 (show ¬ (1 : Int32) = 0 by decide)) (fun h30 => ?_)
          refine zb M_takesP_s33 rfl ?_
          refine zcallV M_takesP_d34 k11_228 (by omega) (hO (d - 1) _ _ _ _ (by omega) hr hnd3) rfl rfl rfl (Nat.le_of_ble_eq_true rfl) ?_
          rintro _ _ ⟨rfl, rfl⟩
          refine zb M_takesP_s37 rfl ?_
          refine z_ne M_takesP_d39 (tgt := 46) rfl (fun h39 => ?_) (fun h39 => ?_)
          · refine zb1 M_takesP_s46 rfl (by assumption) ?_
            exact ih q3 _ _ _ _ H (by show _ = qjn (qnx (μ.1 33) n q) (e (qnu μ)) (e3 (qnu μ)); rw [hs1]; simp [qjn, *]) (by omega) (by omega)
          · refine zb M_takesP_s42 rfl ?_
            exact ih q3 _ _ _ _ H (by show _ = qjn (qnx (μ.1 33) n q) (e (qnu μ)) (e3 (qnu μ)); rw [hs1]; simp [qjn, *]) (by omega) (by omega)
      · by_cases hs2 : qnx (μ.1 33) n q = 37
        · have hq1 : q < n := qnx_lt (by rw [hs2]; decide)
          have hop : qop3 (qnx (μ.1 33) n q) = true := by rw [hs2]; rfl
          have hin := hk (q + 1)
          rw [if_pos hop] at H
          cases hr : (po) (q + 1) with
          | inl q3 => rw [hr] at H; cases H
          | inr z =>
            obtain ⟨q3, c3, e3⟩ := z
            rw [hr] at H hin
            dsimp only at H
            have hnd3 := qlp_nd (fun c h => qop_nd (Or.inl h)) H hnd
            refine zb M_takesP_s5 rfl ?_
            refine zcallV M_takesP_d8 k11_234 (by omega) (c_M_isSeen_n (q := q) (by omega) hn hn2 (by omega) hs0) rfl rfl rfl (Nat.le_of_ble_eq_true rfl) ?_
            rintro _ _ ⟨rfl, rfl⟩
            refine z_eq M_takesP_d11 (tgt := 24) rfl (fun h11 => ?_) (fun h11 => absurd rfl h11)
            refine zb M_takesP_s24 rfl ?_
            refine zcallV M_takesP_d27 k11_234 (by omega) (c_M_isSeen_n (q := q) (by omega) hn hn2 (by omega) hs1) rfl rfl rfl (Nat.le_of_ble_eq_true rfl) ?_
            rintro _ _ ⟨rfl, rfl⟩
            refine z_eq M_takesP_d30 (tgt := 53) rfl (fun h30 => ?_) (fun h30 => absurd rfl h30)
            refine zb M_takesP_s53 rfl ?_
            refine zcallV M_takesP_d56 k11_234 (by omega) (c_M_isSeen_y (q := q) (by omega) hn hn2 (by omega) hs2) rfl rfl rfl (Nat.le_of_ble_eq_true rfl) ?_
            rintro _ _ ⟨rfl, rfl⟩
            refine z_eq M_takesP_d59 (tgt := 82) rfl (fun h59 => absurd h59 (show ¬ (1 : Int32) = 0 by decide)) (fun h59 => ?_)
            refine zb M_takesP_s62 rfl ?_
            refine zcallV M_takesP_d63 k11_228 (by omega) (hO (d - 1) _ _ _ _ (by omega) hr hnd3) rfl rfl rfl (Nat.le_of_ble_eq_true rfl) ?_
            rintro _ _ ⟨rfl, rfl⟩
            refine zb M_takesP_s66 rfl ?_
            refine z_ne M_takesP_d68 (tgt := 75) rfl (fun h68 => ?_) (fun h68 => ?_)
            · refine zb1 M_takesP_s75 rfl (by assumption) ?_
              exact ih q3 _ _ _ _ H (by show _ = qjn (qnx (μ.1 33) n q) (e (qnu μ)) (e3 (qnu μ)); rw [hs2]; simp [qjn, *]) (by omega) (by omega)
            · refine zb M_takesP_s71 rfl ?_
              exact ih q3 _ _ _ _ H (by show _ = qjn (qnx (μ.1 33) n q) (e (qnu μ)) (e3 (qnu μ)); rw [hs2]; simp [qjn, *]) (by omega) (by omega)
        · have hop : ¬ qop3 (qnx (μ.1 33) n q) = true := by simp only [qop3, Bool.or_eq_true, beq_iff_eq]; simp [hs0, hs1, hs2]
          rw [if_neg hop] at H
          simp only [Sum.inr.injEq, Prod.mk.injEq] at H
          obtain ⟨rfl, rfl, rfl⟩ := H
          refine zb M_takesP_s5 rfl ?_
          refine zcallV M_takesP_d8 k11_234 (by omega) (c_M_isSeen_n (q := q) (by omega) hn hn2 (by omega) hs0) rfl rfl rfl (Nat.le_of_ble_eq_true rfl) ?_
          rintro _ _ ⟨rfl, rfl⟩
          refine z_eq M_takesP_d11 (tgt := 24) rfl (fun h11 => ?_) (fun h11 => absurd rfl h11)
          refine zb M_takesP_s24 rfl ?_
          refine zcallV M_takesP_d27 k11_234 (by omega) (c_M_isSeen_n (q := q) (by omega) hn hn2 (by omega) hs1) rfl rfl rfl (Nat.le_of_ble_eq_true rfl) ?_
          rintro _ _ ⟨rfl, rfl⟩
          refine z_eq M_takesP_d30 (tgt := 53) rfl (fun h30 => ?_) (fun h30 => absurd rfl h30)
          refine zb M_takesP_s53 rfl ?_
          refine zcallV M_takesP_d56 k11_234 (by omega) (c_M_isSeen_n (q := q) (by omega) hn hn2 (by omega) hs2) rfl rfl rfl (Nat.le_of_ble_eq_true rfl) ?_
          rintro _ _ ⟨rfl, rfl⟩
          refine z_eq M_takesP_d59 (tgt := 82) rfl (fun h59 => ?_) (fun h59 => absurd rfl h59)
          refine zb M_takesP_s82 rfl ?_
          refine z_ret M_takesP_d83 rfl ?_
          exact ⟨rfl, rfl⟩

set_option maxRecDepth 100000 in
set_option maxHeartbeats 4000000 in
theorem c_M_takesP {g : zG} {d : Nat} {μ : zMem} {n k : Nat} {po : Nat → qR} (hd : 2 + 6 * k + 1 ≤ d) (hn : μ.1 0 5 = nI n) (hn2 : n ≤ 120) (hk : qok n po) (hO : ∀ d q q2 c e, 2 + 6 * k ≤ d → po q = .inr (q2, c, e) → ¬ qdig (qnx (μ.1 33) n q2) → zM g d M_takesO [.ref 0] (m1 μ (nI q)) (fun v μ' => v = some (.int (e (qnu μ))) ∧ μ' = m1 μ (nI q2))) {q q2 : Nat} {c2 : qC} {e2 : qD} (H : qP (μ.1 33) n po q = .inr (q2, c2, e2)) (hnd : ¬ qdig (qnx (μ.1 33) n q2)) : zM g d M_takesP [.ref 0] (m1 μ (nI q)) (fun v μ' => v = some (.int (e2 (qnu μ))) ∧ μ' = m1 μ (nI q2)) := by
  refine zM_of (by decide +kernel) rfl rfl (Nat.le_of_ble_eq_true rfl) rfl ?_
  have hin := hk q
  have H : qbin (μ.1 33) n (po) qop3 120 q = .inr (q2, c2, e2) := H
  unfold qbin at H
  cases hr : (po) q with
  | inl q1 => rw [hr] at H; cases H
  | inr z =>
    obtain ⟨q1, c1, e1⟩ := z
    rw [hr] at H hin
    dsimp only at H
    have hnd1 := qlp_nd (fun c h => qop_nd (Or.inl h)) H hnd
    refine zb M_takesP_s0 rfl ?_
    refine zcallV M_takesP_d1 k11_228 (by omega) (hO (d - 1) _ _ _ _ (by omega) hr hnd1) rfl rfl rfl (Nat.le_of_ble_eq_true rfl) ?_
    rintro _ _ ⟨rfl, rfl⟩
    refine zb M_takesP_s4 rfl ?_
    exact w_M_takesP hd hn hn2 hk hO hnd 120 q1 c1 e1 _ _ H rfl (by omega) hin.2.1

set_option maxRecDepth 100000 in
set_option maxHeartbeats 4000000 in
theorem w_M_takesS {g : zG} {d : Nat} {μ : zMem} {n k : Nat} {po : Nat → qR} (hd : 2 + 6 * k + 2 ≤ d) (hn : μ.1 0 5 = nI n) (hn2 : n ≤ 120) (hk : qok n po) (hO : ∀ d q q2 c e, 2 + 6 * k ≤ d → po q = .inr (q2, c, e) → ¬ qdig (qnx (μ.1 33) n q2) → zM g d M_takesO [.ref 0] (m1 μ (nI q)) (fun v μ' => v = some (.int (e (qnu μ))) ∧ μ' = m1 μ (nI q2))) {q2 : Nat} {c2 : qC} {e2 : qD} (hnd : ¬ qdig (qnx (μ.1 33) n q2)) : ∀ (f q : Nat) (c : qC) (e : qD) (v : Int32), qlp (μ.1 33) n (qP (μ.1 33) n po) qop2 f q c e = .inr (q2, c2, e2) → v = e (qnu μ) → n ≤ q + f → q ≤ n → zW g M_takesS d 5 [some (.ref 0), some (.int v)] [] (m1 μ (nI q)) (fun v μ' => v = some (.int (e2 (qnu μ))) ∧ μ' = m1 μ (nI q2)) := by
  intro f
  induction f with
  | zero =>
    intro q c e v H hv hf hq
    simp only [qlp, Sum.inr.injEq, Prod.mk.injEq] at H
    obtain ⟨rfl, rfl, rfl⟩ := H
    have hx : qnx (μ.1 33) n q = -1 := if_neg (by omega)
    have hs0 : ¬ qnx (μ.1 33) n q = 43 := by rw [hx]; decide
    have hs1 : ¬ qnx (μ.1 33) n q = 45 := by rw [hx]; decide
    refine zb M_takesS_s5 rfl ?_
    refine zcallV M_takesS_d8 k11_234 (by omega) (c_M_isSeen_n (q := q) (by omega) hn hn2 (by omega) hs0) rfl rfl rfl (Nat.le_of_ble_eq_true rfl) ?_
    rintro _ _ ⟨rfl, rfl⟩
    refine z_eq M_takesS_d11 (tgt := 24) rfl (fun h11 => ?_) (fun h11 => absurd rfl h11)
    refine zb M_takesS_s24 rfl ?_
    refine zcallV M_takesS_d27 k11_234 (by omega) (c_M_isSeen_n (q := q) (by omega) hn hn2 (by omega) hs1) rfl rfl rfl (Nat.le_of_ble_eq_true rfl) ?_
    rintro _ _ ⟨rfl, rfl⟩
    refine z_eq M_takesS_d30 (tgt := 43) rfl (fun h30 => ?_) (fun h30 => absurd rfl h30)
    refine zb M_takesS_s43 rfl ?_
    refine z_ret M_takesS_d44 rfl ?_
    exact ⟨by rw [hv], rfl⟩
  | succ f ih =>
    intro q c e v H hv hf hq
    subst hv
    simp only [qlp] at H
    by_cases hs0 : qnx (μ.1 33) n q = 43
    · have hq1 : q < n := qnx_lt (by rw [hs0]; decide)
      have hop : qop2 (qnx (μ.1 33) n q) = true := by rw [hs0]; rfl
      have hin := (qE_ok (T := μ.1 33) hk).1 (q + 1)
      rw [if_pos hop] at H
      cases hr : (qP (μ.1 33) n po) (q + 1) with
      | inl q3 => rw [hr] at H; cases H
      | inr z =>
        obtain ⟨q3, c3, e3⟩ := z
        rw [hr] at H hin
        dsimp only at H
        have hnd3 := qlp_nd (fun c h => qop_nd (Or.inr (Or.inl h))) H hnd
        refine zb M_takesS_s5 rfl ?_
        refine zcallV M_takesS_d8 k11_234 (by omega) (c_M_isSeen_y (q := q) (by omega) hn hn2 (by omega) hs0) rfl rfl rfl (Nat.le_of_ble_eq_true rfl) ?_
        rintro _ _ ⟨rfl, rfl⟩
        refine z_eq M_takesS_d11 (tgt := 24) rfl (fun h11 => absurd h11 (show ¬ (1 : Int32) = 0 by decide)) (fun h11 => ?_)
        refine zb M_takesS_s14 rfl ?_
        refine zcallV M_takesS_d16 k11_237 (by omega) (c_M_takesP (by omega) hn hn2 hk hO hr hnd3) rfl rfl rfl (Nat.le_of_ble_eq_true rfl) ?_
        rintro _ _ ⟨rfl, rfl⟩
        refine zb M_takesS_s19 rfl ?_
        exact ih q3 _ _ _ H (by show _ = qjn (qnx (μ.1 33) n q) (e (qnu μ)) (e3 (qnu μ)); rw [hs0]; rfl) (by omega) (by omega)
    · by_cases hs1 : qnx (μ.1 33) n q = 45
      · have hq1 : q < n := qnx_lt (by rw [hs1]; decide)
        have hop : qop2 (qnx (μ.1 33) n q) = true := by rw [hs1]; rfl
        have hin := (qE_ok (T := μ.1 33) hk).1 (q + 1)
        rw [if_pos hop] at H
        cases hr : (qP (μ.1 33) n po) (q + 1) with
        | inl q3 => rw [hr] at H; cases H
        | inr z =>
          obtain ⟨q3, c3, e3⟩ := z
          rw [hr] at H hin
          dsimp only at H
          have hnd3 := qlp_nd (fun c h => qop_nd (Or.inr (Or.inl h))) H hnd
          refine zb M_takesS_s5 rfl ?_
          refine zcallV M_takesS_d8 k11_234 (by omega) (c_M_isSeen_n (q := q) (by omega) hn hn2 (by omega) hs0) rfl rfl rfl (Nat.le_of_ble_eq_true rfl) ?_
          rintro _ _ ⟨rfl, rfl⟩
          refine z_eq M_takesS_d11 (tgt := 24) rfl (fun h11 => ?_) (fun h11 => absurd rfl h11)
          refine zb M_takesS_s24 rfl ?_
          refine zcallV M_takesS_d27 k11_234 (by omega) (c_M_isSeen_y (q := q) (by omega) hn hn2 (by omega) hs1) rfl rfl rfl (Nat.le_of_ble_eq_true rfl) ?_
          rintro _ _ ⟨rfl, rfl⟩
          refine z_eq M_takesS_d30 (tgt := 43) rfl (fun h30 => absurd h30 (show ¬ (1 : Int32) = 0 by decide)) (fun h30 => ?_)
          refine zb M_takesS_s33 rfl ?_
          refine zcallV M_takesS_d35 k11_237 (by omega) (c_M_takesP (by omega) hn hn2 hk hO hr hnd3) rfl rfl rfl (Nat.le_of_ble_eq_true rfl) ?_
          rintro _ _ ⟨rfl, rfl⟩
          refine zb M_takesS_s38 rfl ?_
          exact ih q3 _ _ _ H (by show _ = qjn (qnx (μ.1 33) n q) (e (qnu μ)) (e3 (qnu μ)); rw [hs1]; rfl) (by omega) (by omega)
      · have hop : ¬ qop2 (qnx (μ.1 33) n q) = true := by simp only [qop2, Bool.or_eq_true, beq_iff_eq]; simp [hs0, hs1]
        rw [if_neg hop] at H
        simp only [Sum.inr.injEq, Prod.mk.injEq] at H
        obtain ⟨rfl, rfl, rfl⟩ := H
        refine zb M_takesS_s5 rfl ?_
        refine zcallV M_takesS_d8 k11_234 (by omega) (c_M_isSeen_n (q := q) (by omega) hn hn2 (by omega) hs0) rfl rfl rfl (Nat.le_of_ble_eq_true rfl) ?_
        rintro _ _ ⟨rfl, rfl⟩
        refine z_eq M_takesS_d11 (tgt := 24) rfl (fun h11 => ?_) (fun h11 => absurd rfl h11)
        refine zb M_takesS_s24 rfl ?_
        refine zcallV M_takesS_d27 k11_234 (by omega) (c_M_isSeen_n (q := q) (by omega) hn hn2 (by omega) hs1) rfl rfl rfl (Nat.le_of_ble_eq_true rfl) ?_
        rintro _ _ ⟨rfl, rfl⟩
        refine z_eq M_takesS_d30 (tgt := 43) rfl (fun h30 => ?_) (fun h30 => absurd rfl h30)
        refine zb M_takesS_s43 rfl ?_
        refine z_ret M_takesS_d44 rfl ?_
        exact ⟨rfl, rfl⟩

set_option maxRecDepth 100000 in
set_option maxHeartbeats 4000000 in
theorem c_M_takesS {g : zG} {d : Nat} {μ : zMem} {n k : Nat} {po : Nat → qR} (hd : 2 + 6 * k + 2 ≤ d) (hn : μ.1 0 5 = nI n) (hn2 : n ≤ 120) (hk : qok n po) (hO : ∀ d q q2 c e, 2 + 6 * k ≤ d → po q = .inr (q2, c, e) → ¬ qdig (qnx (μ.1 33) n q2) → zM g d M_takesO [.ref 0] (m1 μ (nI q)) (fun v μ' => v = some (.int (e (qnu μ))) ∧ μ' = m1 μ (nI q2))) {q q2 : Nat} {c2 : qC} {e2 : qD} (H : qS (μ.1 33) n po q = .inr (q2, c2, e2)) (hnd : ¬ qdig (qnx (μ.1 33) n q2)) : zM g d M_takesS [.ref 0] (m1 μ (nI q)) (fun v μ' => v = some (.int (e2 (qnu μ))) ∧ μ' = m1 μ (nI q2)) := by
  refine zM_of (by decide +kernel) rfl rfl (Nat.le_of_ble_eq_true rfl) rfl ?_
  have hin := (qE_ok (T := μ.1 33) hk).1 q
  have H : qbin (μ.1 33) n (qP (μ.1 33) n po) qop2 120 q = .inr (q2, c2, e2) := H
  unfold qbin at H
  cases hr : (qP (μ.1 33) n po) q with
  | inl q1 => rw [hr] at H; cases H
  | inr z =>
    obtain ⟨q1, c1, e1⟩ := z
    rw [hr] at H hin
    dsimp only at H
    have hnd1 := qlp_nd (fun c h => qop_nd (Or.inr (Or.inl h))) H hnd
    refine zb M_takesS_s0 rfl ?_
    refine zcallV M_takesS_d1 k11_237 (by omega) (c_M_takesP (by omega) hn hn2 hk hO hr hnd1) rfl rfl rfl (Nat.le_of_ble_eq_true rfl) ?_
    rintro _ _ ⟨rfl, rfl⟩
    refine zb M_takesS_s4 rfl ?_
    exact w_M_takesS hd hn hn2 hk hO hnd 120 q1 c1 e1 _ H rfl (by omega) hin.2.1

set_option maxRecDepth 100000 in
set_option maxHeartbeats 4000000 in
theorem c_M_takesB {g : zG} {d : Nat} {μ : zMem} {n k : Nat} {po : Nat → qR} (hd : 2 + 6 * k + 3 ≤ d) (hn : μ.1 0 5 = nI n) (hn2 : n ≤ 120) (hk : qok n po) (hO : ∀ d q q2 c e, 2 + 6 * k ≤ d → po q = .inr (q2, c, e) → ¬ qdig (qnx (μ.1 33) n q2) → zM g d M_takesO [.ref 0] (m1 μ (nI q)) (fun v μ' => v = some (.int (e (qnu μ))) ∧ μ' = m1 μ (nI q2))) {q q2 : Nat} {c2 : qC} {e2 : qD} (H : qBB (μ.1 33) n po q = .inr (q2, c2, e2)) (hnd : ¬ qdig (qnx (μ.1 33) n q2)) : zM g d M_takesB [.ref 0] (m1 μ (nI q)) (fun v μ' => v = some (.int (e2 (qnu μ))) ∧ μ' = m1 μ (nI q2)) := by
  refine zM_of (by decide +kernel) rfl rfl (Nat.le_of_ble_eq_true rfl) rfl ?_
  have hin := (qE_ok (T := μ.1 33) hk).2.1 q
  have H : qbin (μ.1 33) n (qS (μ.1 33) n po) qopB 1 q = .inr (q2, c2, e2) := H
  unfold qbin at H
  cases hr : (qS (μ.1 33) n po) q with
  | inl q1 => rw [hr] at H; cases H
  | inr z =>
    obtain ⟨q1, c1, e1⟩ := z
    rw [hr] at H hin
    dsimp only at H
    have hnd1 := qlp_nd (fun c h => qop_nd (Or.inr (Or.inr (Or.inl h)))) H hnd
    have hq1n : q1 ≤ n := hin.2.1
    simp only [qlp] at H
    by_cases hs0 : qnx (μ.1 33) n q1 = 60
    · have hq1 : q1 < n := qnx_lt (by rw [hs0]; decide)
      have hop : qopB (qnx (μ.1 33) n q1) = true := by rw [hs0]; rfl
      rw [if_pos hop] at H
      cases hr3 : (qS (μ.1 33) n po) (q1 + 1) with
      | inl q3 => rw [hr3] at H; cases H
      | inr z =>
        obtain ⟨q3, c3, e3⟩ := z
        rw [hr3] at H
        simp only [Sum.inr.injEq, Prod.mk.injEq] at H
        obtain ⟨rfl, rfl, rfl⟩ := H
        refine zb M_takesB_s0 rfl ?_
        refine zcallV M_takesB_d1 k11_240 (by omega) (c_M_takesS (by omega) hn hn2 hk hO hr hnd1) rfl rfl rfl (Nat.le_of_ble_eq_true rfl) ?_
        rintro _ _ ⟨rfl, rfl⟩
        refine zb M_takesB_s4 rfl ?_
        refine zcallV M_takesB_d8 k11_234 (by omega) (c_M_isSeen_y (q := q1) (by omega) hn hn2 (by omega) hs0) rfl rfl rfl (Nat.le_of_ble_eq_true rfl) ?_
        rintro _ _ ⟨rfl, rfl⟩
        refine z_eq M_takesB_d11 (tgt := 32) rfl (fun h11 => absurd h11 (show ¬ (1 : Int32) = 0 by decide)) (fun h11 => ?_)
        refine zb M_takesB_s14 rfl ?_
        refine zcallV M_takesB_d17 k11_240 (by omega) (c_M_takesS (by omega) hn hn2 hk hO hr3 hnd) rfl rfl rfl (Nat.le_of_ble_eq_true rfl) ?_
        rintro _ _ ⟨rfl, rfl⟩
        refine z_cge M_takesB_d20 (tgt := 27) rfl (fun h20 => ?_) (fun h20 => ?_)
        · refine zb M_takesB_s27 rfl ?_
          refine zcallV M_takesB_d28 k11_167 (by omega) (c_M_one _) rfl rfl rfl (Nat.le_of_ble_eq_true rfl) ?_
          rintro _ _ ⟨rfl, rfl⟩
          refine z_ret M_takesB_d31 rfl ?_
          refine ⟨?_, rfl⟩
          show _ = some (Value.int (qjn (qnx (μ.1 33) n q1) (e1 (qnu μ)) (e3 (qnu μ))))
          rw [hs0]
          first | (rw [show qjn 60 (e1 (qnu μ)) (e3 (qnu μ)) = 1 from zB_t (by grind)]; rfl) | (rw [show qjn 60 (e1 (qnu μ)) (e3 (qnu μ)) = 0 from zB_f (by grind)]; rfl)
        · refine zb M_takesB_s23 rfl ?_
          refine zcallV M_takesB_d28 k11_167 (by omega) (c_M_one _) rfl rfl rfl (Nat.le_of_ble_eq_true rfl) ?_
          rintro _ _ ⟨rfl, rfl⟩
          refine z_ret M_takesB_d31 rfl ?_
          refine ⟨?_, rfl⟩
          show _ = some (Value.int (qjn (qnx (μ.1 33) n q1) (e1 (qnu μ)) (e3 (qnu μ))))
          rw [hs0]
          first | (rw [show qjn 60 (e1 (qnu μ)) (e3 (qnu μ)) = 1 from zB_t (by grind)]; rfl) | (rw [show qjn 60 (e1 (qnu μ)) (e3 (qnu μ)) = 0 from zB_f (by grind)]; rfl)
    · by_cases hs1 : qnx (μ.1 33) n q1 = 61
      · have hq1 : q1 < n := qnx_lt (by rw [hs1]; decide)
        have hop : qopB (qnx (μ.1 33) n q1) = true := by rw [hs1]; rfl
        rw [if_pos hop] at H
        cases hr3 : (qS (μ.1 33) n po) (q1 + 1) with
        | inl q3 => rw [hr3] at H; cases H
        | inr z =>
          obtain ⟨q3, c3, e3⟩ := z
          rw [hr3] at H
          simp only [Sum.inr.injEq, Prod.mk.injEq] at H
          obtain ⟨rfl, rfl, rfl⟩ := H
          refine zb M_takesB_s0 rfl ?_
          refine zcallV M_takesB_d1 k11_240 (by omega) (c_M_takesS (by omega) hn hn2 hk hO hr hnd1) rfl rfl rfl (Nat.le_of_ble_eq_true rfl) ?_
          rintro _ _ ⟨rfl, rfl⟩
          refine zb M_takesB_s4 rfl ?_
          refine zcallV M_takesB_d8 k11_234 (by omega) (c_M_isSeen_n (q := q1) (by omega) hn hn2 (by omega) hs0) rfl rfl rfl (Nat.le_of_ble_eq_true rfl) ?_
          rintro _ _ ⟨rfl, rfl⟩
          refine z_eq M_takesB_d11 (tgt := 32) rfl (fun h11 => ?_) (fun h11 => absurd rfl h11)
          refine zb M_takesB_s32 rfl ?_
          refine zcallV M_takesB_d35 k11_234 (by omega) (c_M_isSeen_y (q := q1) (by omega) hn hn2 (by omega) hs1) rfl rfl rfl (Nat.le_of_ble_eq_true rfl) ?_
          rintro _ _ ⟨rfl, rfl⟩
          refine z_eq M_takesB_d38 (tgt := 59) rfl (fun h38 => absurd h38 (show ¬ (1 : Int32) = 0 by decide)) (fun h38 => ?_)
          refine zb M_takesB_s41 rfl ?_
          refine zcallV M_takesB_d44 k11_240 (by omega) (c_M_takesS (by omega) hn hn2 hk hO hr3 hnd) rfl rfl rfl (Nat.le_of_ble_eq_true rfl) ?_
          rintro _ _ ⟨rfl, rfl⟩
          refine z_cne M_takesB_d47 (tgt := 54) rfl (fun h47 => ?_) (fun h47 => ?_)
          · refine zb M_takesB_s54 rfl ?_
            refine zcallV M_takesB_d55 k11_167 (by omega) (c_M_one _) rfl rfl rfl (Nat.le_of_ble_eq_true rfl) ?_
            rintro _ _ ⟨rfl, rfl⟩
            refine z_ret M_takesB_d58 rfl ?_
            refine ⟨?_, rfl⟩
            show _ = some (Value.int (qjn (qnx (μ.1 33) n q1) (e1 (qnu μ)) (e3 (qnu μ))))
            rw [hs1]
            first | (rw [show qjn 61 (e1 (qnu μ)) (e3 (qnu μ)) = 1 from zB_t (by grind)]; rfl) | (rw [show qjn 61 (e1 (qnu μ)) (e3 (qnu μ)) = 0 from zB_f (by grind)]; rfl)
          · refine zb M_takesB_s50 rfl ?_
            refine zcallV M_takesB_d55 k11_167 (by omega) (c_M_one _) rfl rfl rfl (Nat.le_of_ble_eq_true rfl) ?_
            rintro _ _ ⟨rfl, rfl⟩
            refine z_ret M_takesB_d58 rfl ?_
            refine ⟨?_, rfl⟩
            show _ = some (Value.int (qjn (qnx (μ.1 33) n q1) (e1 (qnu μ)) (e3 (qnu μ))))
            rw [hs1]
            first | (rw [show qjn 61 (e1 (qnu μ)) (e3 (qnu μ)) = 1 from zB_t (by grind)]; rfl) | (rw [show qjn 61 (e1 (qnu μ)) (e3 (qnu μ)) = 0 from zB_f (by grind)]; rfl)
      · by_cases hs2 : qnx (μ.1 33) n q1 = 62
        · have hq1 : q1 < n := qnx_lt (by rw [hs2]; decide)
          have hop : qopB (qnx (μ.1 33) n q1) = true := by rw [hs2]; rfl
          rw [if_pos hop] at H
          cases hr3 : (qS (μ.1 33) n po) (q1 + 1) with
          | inl q3 => rw [hr3] at H; cases H
          | inr z =>
            obtain ⟨q3, c3, e3⟩ := z
            rw [hr3] at H
            simp only [Sum.inr.injEq, Prod.mk.injEq] at H
            obtain ⟨rfl, rfl, rfl⟩ := H
            refine zb M_takesB_s0 rfl ?_
            refine zcallV M_takesB_d1 k11_240 (by omega) (c_M_takesS (by omega) hn hn2 hk hO hr hnd1) rfl rfl rfl (Nat.le_of_ble_eq_true rfl) ?_
            rintro _ _ ⟨rfl, rfl⟩
            refine zb M_takesB_s4 rfl ?_
            refine zcallV M_takesB_d8 k11_234 (by omega) (c_M_isSeen_n (q := q1) (by omega) hn hn2 (by omega) hs0) rfl rfl rfl (Nat.le_of_ble_eq_true rfl) ?_
            rintro _ _ ⟨rfl, rfl⟩
            refine z_eq M_takesB_d11 (tgt := 32) rfl (fun h11 => ?_) (fun h11 => absurd rfl h11)
            refine zb M_takesB_s32 rfl ?_
            refine zcallV M_takesB_d35 k11_234 (by omega) (c_M_isSeen_n (q := q1) (by omega) hn hn2 (by omega) hs1) rfl rfl rfl (Nat.le_of_ble_eq_true rfl) ?_
            rintro _ _ ⟨rfl, rfl⟩
            refine z_eq M_takesB_d38 (tgt := 59) rfl (fun h38 => ?_) (fun h38 => absurd rfl h38)
            refine zb M_takesB_s59 rfl ?_
            refine zcallV M_takesB_d62 k11_234 (by omega) (c_M_isSeen_y (q := q1) (by omega) hn hn2 (by omega) hs2) rfl rfl rfl (Nat.le_of_ble_eq_true rfl) ?_
            rintro _ _ ⟨rfl, rfl⟩
            refine z_eq M_takesB_d65 (tgt := 86) rfl (fun h65 => absurd h65 (show ¬ (1 : Int32) = 0 by decide)) (fun h65 => ?_)
            refine zb M_takesB_s68 rfl ?_
            refine zcallV M_takesB_d71 k11_240 (by omega) (c_M_takesS (by omega) hn hn2 hk hO hr3 hnd) rfl rfl rfl (Nat.le_of_ble_eq_true rfl) ?_
            rintro _ _ ⟨rfl, rfl⟩
            refine z_cle M_takesB_d74 (tgt := 81) rfl (fun h74 => ?_) (fun h74 => ?_)
            · refine zb M_takesB_s81 rfl ?_
              refine zcallV M_takesB_d82 k11_167 (by omega) (c_M_one _) rfl rfl rfl (Nat.le_of_ble_eq_true rfl) ?_
              rintro _ _ ⟨rfl, rfl⟩
              refine z_ret M_takesB_d85 rfl ?_
              refine ⟨?_, rfl⟩
              show _ = some (Value.int (qjn (qnx (μ.1 33) n q1) (e1 (qnu μ)) (e3 (qnu μ))))
              rw [hs2]
              first | (rw [show qjn 62 (e1 (qnu μ)) (e3 (qnu μ)) = 1 from zB_t (by grind)]; rfl) | (rw [show qjn 62 (e1 (qnu μ)) (e3 (qnu μ)) = 0 from zB_f (by grind)]; rfl)
            · refine zb M_takesB_s77 rfl ?_
              refine zcallV M_takesB_d82 k11_167 (by omega) (c_M_one _) rfl rfl rfl (Nat.le_of_ble_eq_true rfl) ?_
              rintro _ _ ⟨rfl, rfl⟩
              refine z_ret M_takesB_d85 rfl ?_
              refine ⟨?_, rfl⟩
              show _ = some (Value.int (qjn (qnx (μ.1 33) n q1) (e1 (qnu μ)) (e3 (qnu μ))))
              rw [hs2]
              first | (rw [show qjn 62 (e1 (qnu μ)) (e3 (qnu μ)) = 1 from zB_t (by grind)]; rfl) | (rw [show qjn 62 (e1 (qnu μ)) (e3 (qnu μ)) = 0 from zB_f (by grind)]; rfl)
        · have hop : ¬ qopB (qnx (μ.1 33) n q1) = true := by simp only [qopB, Bool.or_eq_true, beq_iff_eq]; simp [hs0, hs1, hs2]
          rw [if_neg hop] at H
          simp only [Sum.inr.injEq, Prod.mk.injEq] at H
          obtain ⟨rfl, rfl, rfl⟩ := H
          refine zb M_takesB_s0 rfl ?_
          refine zcallV M_takesB_d1 k11_240 (by omega) (c_M_takesS (by omega) hn hn2 hk hO hr hnd1) rfl rfl rfl (Nat.le_of_ble_eq_true rfl) ?_
          rintro _ _ ⟨rfl, rfl⟩
          refine zb M_takesB_s4 rfl ?_
          refine zcallV M_takesB_d8 k11_234 (by omega) (c_M_isSeen_n (q := q1) (by omega) hn hn2 (by omega) hs0) rfl rfl rfl (Nat.le_of_ble_eq_true rfl) ?_
          rintro _ _ ⟨rfl, rfl⟩
          refine z_eq M_takesB_d11 (tgt := 32) rfl (fun h11 => ?_) (fun h11 => absurd rfl h11)
          refine zb M_takesB_s32 rfl ?_
          refine zcallV M_takesB_d35 k11_234 (by omega) (c_M_isSeen_n (q := q1) (by omega) hn hn2 (by omega) hs1) rfl rfl rfl (Nat.le_of_ble_eq_true rfl) ?_
          rintro _ _ ⟨rfl, rfl⟩
          refine z_eq M_takesB_d38 (tgt := 59) rfl (fun h38 => ?_) (fun h38 => absurd rfl h38)
          refine zb M_takesB_s59 rfl ?_
          refine zcallV M_takesB_d62 k11_234 (by omega) (c_M_isSeen_n (q := q1) (by omega) hn hn2 (by omega) hs2) rfl rfl rfl (Nat.le_of_ble_eq_true rfl) ?_
          rintro _ _ ⟨rfl, rfl⟩
          refine z_eq M_takesB_d65 (tgt := 86) rfl (fun h65 => ?_) (fun h65 => absurd rfl h65)
          refine zb M_takesB_s86 rfl ?_
          refine z_ret M_takesB_d87 rfl ?_
          exact ⟨rfl, rfl⟩

set_option maxRecDepth 100000 in
set_option maxHeartbeats 4000000 in
theorem w_M_takesA {g : zG} {d : Nat} {μ : zMem} {n k : Nat} {po : Nat → qR} (hd : 2 + 6 * k + 4 ≤ d) (hn : μ.1 0 5 = nI n) (hn2 : n ≤ 120) (hk : qok n po) (hO : ∀ d q q2 c e, 2 + 6 * k ≤ d → po q = .inr (q2, c, e) → ¬ qdig (qnx (μ.1 33) n q2) → zM g d M_takesO [.ref 0] (m1 μ (nI q)) (fun v μ' => v = some (.int (e (qnu μ))) ∧ μ' = m1 μ (nI q2))) {q2 : Nat} {c2 : qC} {e2 : qD} (hnd : ¬ qdig (qnx (μ.1 33) n q2)) : ∀ (f q : Nat) (c : qC) (e : qD) (v : Int32) (x2 : Option Value), qlp (μ.1 33) n (qBB (μ.1 33) n po) qopA f q c e = .inr (q2, c2, e2) → v = e (qnu μ) → n ≤ q + f → q ≤ n → zW g M_takesA d 5 [some (.ref 0), some (.int v), x2] [] (m1 μ (nI q)) (fun v μ' => v = some (.int (e2 (qnu μ))) ∧ μ' = m1 μ (nI q2)) := by
  intro f
  induction f with
  | zero =>
    intro q c e v x2 H hv hf hq
    simp only [qlp, Sum.inr.injEq, Prod.mk.injEq] at H
    obtain ⟨rfl, rfl, rfl⟩ := H
    have hx : qnx (μ.1 33) n q = -1 := if_neg (by omega)
    have hs0 : ¬ qnx (μ.1 33) n q = 38 := by rw [hx]; decide
    refine zb M_takesA_s5 rfl ?_
    refine zcallV M_takesA_d8 k11_234 (by omega) (c_M_isSeen_n (q := q) (by omega) hn hn2 (by omega) hs0) rfl rfl rfl (Nat.le_of_ble_eq_true rfl) ?_
    rintro _ _ ⟨rfl, rfl⟩
    refine z_eq M_takesA_d11 (tgt := 40) rfl (fun h11 => ?_) (fun h11 => absurd rfl h11)
    refine zb M_takesA_s40 rfl ?_
    refine z_ret M_takesA_d41 rfl ?_
    exact ⟨by rw [hv], rfl⟩
  | succ f ih =>
    intro q c e v x2 H hv hf hq
    subst hv
    simp only [qlp] at H
    by_cases hs0 : qnx (μ.1 33) n q = 38
    · have hq1 : q < n := qnx_lt (by rw [hs0]; decide)
      have hop : qopA (qnx (μ.1 33) n q) = true := by rw [hs0]; rfl
      have hin := (qE_ok (T := μ.1 33) hk).2.2.1 (q + 1)
      rw [if_pos hop] at H
      cases hr : (qBB (μ.1 33) n po) (q + 1) with
      | inl q3 => rw [hr] at H; cases H
      | inr z =>
        obtain ⟨q3, c3, e3⟩ := z
        rw [hr] at H hin
        dsimp only at H
        have hnd3 := qlp_nd (fun c h => qop_nd (Or.inr (Or.inr (Or.inr (Or.inl h))))) H hnd
        refine zb M_takesA_s5 rfl ?_
        refine zcallV M_takesA_d8 k11_234 (by omega) (c_M_isSeen_y (q := q) (by omega) hn hn2 (by omega) hs0) rfl rfl rfl (Nat.le_of_ble_eq_true rfl) ?_
        rintro _ _ ⟨rfl, rfl⟩
        refine z_eq M_takesA_d11 (tgt := 40) rfl (fun h11 => absurd h11 (show ¬ (1 : Int32) = 0 by decide)) (fun h11 => ?_)
        refine zb M_takesA_s14 rfl ?_
        refine zcallV M_takesA_d15 k11_243 (by omega) (c_M_takesB (by omega) hn hn2 hk hO hr hnd3) rfl rfl rfl (Nat.le_of_ble_eq_true rfl) ?_
        rintro _ _ ⟨rfl, rfl⟩
        refine zb M_takesA_s18 rfl ?_
        refine z_eq M_takesA_d21 (tgt := 32) rfl (fun h21 => ?_) (fun h21 => ?_)
        · refine zb M_takesA_s32 rfl ?_
          refine zcallV M_takesA_d33 k11_167 (by omega) (c_M_one _) rfl rfl rfl (Nat.le_of_ble_eq_true rfl) ?_
          rintro _ _ ⟨rfl, rfl⟩
          refine zb M_takesA_s36 rfl ?_
          exact ih q3 _ _ _ _ H (by show _ = qjn (qnx (μ.1 33) n q) (e (qnu μ)) (e3 (qnu μ)); rw [hs0]; simp [qjn, zB, *]) (by omega) (by omega)
        · refine zb M_takesA_s24 rfl ?_
          refine z_eq M_takesA_d25 (tgt := 32) rfl (fun h25 => ?_) (fun h25 => ?_)
          · refine zb M_takesA_s32 rfl ?_
            refine zcallV M_takesA_d33 k11_167 (by omega) (c_M_one _) rfl rfl rfl (Nat.le_of_ble_eq_true rfl) ?_
            rintro _ _ ⟨rfl, rfl⟩
            refine zb M_takesA_s36 rfl ?_
            exact ih q3 _ _ _ _ H (by show _ = qjn (qnx (μ.1 33) n q) (e (qnu μ)) (e3 (qnu μ)); rw [hs0]; simp [qjn, zB, *]) (by omega) (by omega)
          · refine zb M_takesA_s28 rfl ?_
            refine zcallV M_takesA_d33 k11_167 (by omega) (c_M_one _) rfl rfl rfl (Nat.le_of_ble_eq_true rfl) ?_
            rintro _ _ ⟨rfl, rfl⟩
            refine zb M_takesA_s36 rfl ?_
            exact ih q3 _ _ _ _ H (by show _ = qjn (qnx (μ.1 33) n q) (e (qnu μ)) (e3 (qnu μ)); rw [hs0]; simp [qjn, zB, *]) (by omega) (by omega)
    · have hop : ¬ qopA (qnx (μ.1 33) n q) = true := by simp only [qopA, Bool.or_eq_true, beq_iff_eq]; simp [hs0]
      rw [if_neg hop] at H
      simp only [Sum.inr.injEq, Prod.mk.injEq] at H
      obtain ⟨rfl, rfl, rfl⟩ := H
      refine zb M_takesA_s5 rfl ?_
      refine zcallV M_takesA_d8 k11_234 (by omega) (c_M_isSeen_n (q := q) (by omega) hn hn2 (by omega) hs0) rfl rfl rfl (Nat.le_of_ble_eq_true rfl) ?_
      rintro _ _ ⟨rfl, rfl⟩
      refine z_eq M_takesA_d11 (tgt := 40) rfl (fun h11 => ?_) (fun h11 => absurd rfl h11)
      refine zb M_takesA_s40 rfl ?_
      refine z_ret M_takesA_d41 rfl ?_
      exact ⟨rfl, rfl⟩

set_option maxRecDepth 100000 in
set_option maxHeartbeats 4000000 in
theorem c_M_takesA {g : zG} {d : Nat} {μ : zMem} {n k : Nat} {po : Nat → qR} (hd : 2 + 6 * k + 4 ≤ d) (hn : μ.1 0 5 = nI n) (hn2 : n ≤ 120) (hk : qok n po) (hO : ∀ d q q2 c e, 2 + 6 * k ≤ d → po q = .inr (q2, c, e) → ¬ qdig (qnx (μ.1 33) n q2) → zM g d M_takesO [.ref 0] (m1 μ (nI q)) (fun v μ' => v = some (.int (e (qnu μ))) ∧ μ' = m1 μ (nI q2))) {q q2 : Nat} {c2 : qC} {e2 : qD} (H : qA (μ.1 33) n po q = .inr (q2, c2, e2)) (hnd : ¬ qdig (qnx (μ.1 33) n q2)) : zM g d M_takesA [.ref 0] (m1 μ (nI q)) (fun v μ' => v = some (.int (e2 (qnu μ))) ∧ μ' = m1 μ (nI q2)) := by
  refine zM_of (by decide +kernel) rfl rfl (Nat.le_of_ble_eq_true rfl) rfl ?_
  have hin := (qE_ok (T := μ.1 33) hk).2.2.1 q
  have H : qbin (μ.1 33) n (qBB (μ.1 33) n po) qopA 120 q = .inr (q2, c2, e2) := H
  unfold qbin at H
  cases hr : (qBB (μ.1 33) n po) q with
  | inl q1 => rw [hr] at H; cases H
  | inr z =>
    obtain ⟨q1, c1, e1⟩ := z
    rw [hr] at H hin
    dsimp only at H
    have hnd1 := qlp_nd (fun c h => qop_nd (Or.inr (Or.inr (Or.inr (Or.inl h))))) H hnd
    refine zb M_takesA_s0 rfl ?_
    refine zcallV M_takesA_d1 k11_243 (by omega) (c_M_takesB (by omega) hn hn2 hk hO hr hnd1) rfl rfl rfl (Nat.le_of_ble_eq_true rfl) ?_
    rintro _ _ ⟨rfl, rfl⟩
    refine zb M_takesA_s4 rfl ?_
    exact w_M_takesA hd hn hn2 hk hO hnd 120 q1 c1 e1 _ _ H rfl (by omega) hin.2.1

set_option maxRecDepth 100000 in
set_option maxHeartbeats 4000000 in
theorem w_M_takesE {g : zG} {d : Nat} {μ : zMem} {n k : Nat} {po : Nat → qR} (hd : 2 + 6 * k + 5 ≤ d) (hn : μ.1 0 5 = nI n) (hn2 : n ≤ 120) (hk : qok n po) (hO : ∀ d q q2 c e, 2 + 6 * k ≤ d → po q = .inr (q2, c, e) → ¬ qdig (qnx (μ.1 33) n q2) → zM g d M_takesO [.ref 0] (m1 μ (nI q)) (fun v μ' => v = some (.int (e (qnu μ))) ∧ μ' = m1 μ (nI q2))) {q2 : Nat} {c2 : qC} {e2 : qD} (hnd : ¬ qdig (qnx (μ.1 33) n q2)) : ∀ (f q : Nat) (c : qC) (e : qD) (v : Int32) (x2 : Option Value), qlp (μ.1 33) n (qA (μ.1 33) n po) qopE f q c e = .inr (q2, c2, e2) → v = e (qnu μ) → n ≤ q + f → q ≤ n → zW g M_takesE d 5 [some (.ref 0), some (.int v), x2] [] (m1 μ (nI q)) (fun v μ' => v = some (.int (e2 (qnu μ))) ∧ μ' = m1 μ (nI q2)) := by
  intro f
  induction f with
  | zero =>
    intro q c e v x2 H hv hf hq
    simp only [qlp, Sum.inr.injEq, Prod.mk.injEq] at H
    obtain ⟨rfl, rfl, rfl⟩ := H
    have hx : qnx (μ.1 33) n q = -1 := if_neg (by omega)
    have hs0 : ¬ qnx (μ.1 33) n q = 124 := by rw [hx]; decide
    refine zb M_takesE_s5 rfl ?_
    refine zcallV M_takesE_d8 k11_234 (by omega) (c_M_isSeen_n (q := q) (by omega) hn hn2 (by omega) hs0) rfl rfl rfl (Nat.le_of_ble_eq_true rfl) ?_
    rintro _ _ ⟨rfl, rfl⟩
    refine z_eq M_takesE_d11 (tgt := 40) rfl (fun h11 => ?_) (fun h11 => absurd rfl h11)
    refine zb M_takesE_s40 rfl ?_
    refine z_ret M_takesE_d41 rfl ?_
    exact ⟨by rw [hv], rfl⟩
  | succ f ih =>
    intro q c e v x2 H hv hf hq
    subst hv
    simp only [qlp] at H
    by_cases hs0 : qnx (μ.1 33) n q = 124
    · have hq1 : q < n := qnx_lt (by rw [hs0]; decide)
      have hop : qopE (qnx (μ.1 33) n q) = true := by rw [hs0]; rfl
      have hin := (qE_ok (T := μ.1 33) hk).2.2.2.1 (q + 1)
      rw [if_pos hop] at H
      cases hr : (qA (μ.1 33) n po) (q + 1) with
      | inl q3 => rw [hr] at H; cases H
      | inr z =>
        obtain ⟨q3, c3, e3⟩ := z
        rw [hr] at H hin
        dsimp only at H
        have hnd3 := qlp_nd (fun c h => qop_nd (Or.inr (Or.inr (Or.inr (Or.inr h))))) H hnd
        refine zb M_takesE_s5 rfl ?_
        refine zcallV M_takesE_d8 k11_234 (by omega) (c_M_isSeen_y (q := q) (by omega) hn hn2 (by omega) hs0) rfl rfl rfl (Nat.le_of_ble_eq_true rfl) ?_
        rintro _ _ ⟨rfl, rfl⟩
        refine z_eq M_takesE_d11 (tgt := 40) rfl (fun h11 => absurd h11 (show ¬ (1 : Int32) = 0 by decide)) (fun h11 => ?_)
        refine zb M_takesE_s14 rfl ?_
        refine zcallV M_takesE_d15 k11_246 (by omega) (c_M_takesA (by omega) hn hn2 hk hO hr hnd3) rfl rfl rfl (Nat.le_of_ble_eq_true rfl) ?_
        rintro _ _ ⟨rfl, rfl⟩
        refine zb M_takesE_s18 rfl ?_
        refine z_ne M_takesE_d21 (tgt := 28) rfl (fun h21 => ?_) (fun h21 => ?_)
        · refine zb M_takesE_s28 rfl ?_
          refine zcallV M_takesE_d33 k11_167 (by omega) (c_M_one _) rfl rfl rfl (Nat.le_of_ble_eq_true rfl) ?_
          rintro _ _ ⟨rfl, rfl⟩
          refine zb M_takesE_s36 rfl ?_
          exact ih q3 _ _ _ _ H (by show _ = qjn (qnx (μ.1 33) n q) (e (qnu μ)) (e3 (qnu μ)); rw [hs0]; simp [qjn, zB, *]) (by omega) (by omega)
        · refine zb M_takesE_s24 rfl ?_
          refine z_eq M_takesE_d25 (tgt := 32) rfl (fun h25 => ?_) (fun h25 => ?_)
          · refine zb M_takesE_s32 rfl ?_
            refine zcallV M_takesE_d33 k11_167 (by omega) (c_M_one _) rfl rfl rfl (Nat.le_of_ble_eq_true rfl) ?_
            rintro _ _ ⟨rfl, rfl⟩
            refine zb M_takesE_s36 rfl ?_
            exact ih q3 _ _ _ _ H (by show _ = qjn (qnx (μ.1 33) n q) (e (qnu μ)) (e3 (qnu μ)); rw [hs0]; simp [qjn, zB, *]) (by omega) (by omega)
          · refine zb M_takesE_s28 rfl ?_
            refine zcallV M_takesE_d33 k11_167 (by omega) (c_M_one _) rfl rfl rfl (Nat.le_of_ble_eq_true rfl) ?_
            rintro _ _ ⟨rfl, rfl⟩
            refine zb M_takesE_s36 rfl ?_
            exact ih q3 _ _ _ _ H (by show _ = qjn (qnx (μ.1 33) n q) (e (qnu μ)) (e3 (qnu μ)); rw [hs0]; simp [qjn, zB, *]) (by omega) (by omega)
    · have hop : ¬ qopE (qnx (μ.1 33) n q) = true := by simp only [qopE, Bool.or_eq_true, beq_iff_eq]; simp [hs0]
      rw [if_neg hop] at H
      simp only [Sum.inr.injEq, Prod.mk.injEq] at H
      obtain ⟨rfl, rfl, rfl⟩ := H
      refine zb M_takesE_s5 rfl ?_
      refine zcallV M_takesE_d8 k11_234 (by omega) (c_M_isSeen_n (q := q) (by omega) hn hn2 (by omega) hs0) rfl rfl rfl (Nat.le_of_ble_eq_true rfl) ?_
      rintro _ _ ⟨rfl, rfl⟩
      refine z_eq M_takesE_d11 (tgt := 40) rfl (fun h11 => ?_) (fun h11 => absurd rfl h11)
      refine zb M_takesE_s40 rfl ?_
      refine z_ret M_takesE_d41 rfl ?_
      exact ⟨rfl, rfl⟩

set_option maxRecDepth 100000 in
set_option maxHeartbeats 4000000 in
theorem c_M_takesE {g : zG} {d : Nat} {μ : zMem} {n k : Nat} {po : Nat → qR} (hd : 2 + 6 * k + 5 ≤ d) (hn : μ.1 0 5 = nI n) (hn2 : n ≤ 120) (hk : qok n po) (hO : ∀ d q q2 c e, 2 + 6 * k ≤ d → po q = .inr (q2, c, e) → ¬ qdig (qnx (μ.1 33) n q2) → zM g d M_takesO [.ref 0] (m1 μ (nI q)) (fun v μ' => v = some (.int (e (qnu μ))) ∧ μ' = m1 μ (nI q2))) {q q2 : Nat} {c2 : qC} {e2 : qD} (H : qE (μ.1 33) n po q = .inr (q2, c2, e2)) (hnd : ¬ qdig (qnx (μ.1 33) n q2)) : zM g d M_takesE [.ref 0] (m1 μ (nI q)) (fun v μ' => v = some (.int (e2 (qnu μ))) ∧ μ' = m1 μ (nI q2)) := by
  refine zM_of (by decide +kernel) rfl rfl (Nat.le_of_ble_eq_true rfl) rfl ?_
  have hin := (qE_ok (T := μ.1 33) hk).2.2.2.1 q
  have H : qbin (μ.1 33) n (qA (μ.1 33) n po) qopE 120 q = .inr (q2, c2, e2) := H
  unfold qbin at H
  cases hr : (qA (μ.1 33) n po) q with
  | inl q1 => rw [hr] at H; cases H
  | inr z =>
    obtain ⟨q1, c1, e1⟩ := z
    rw [hr] at H hin
    dsimp only at H
    have hnd1 := qlp_nd (fun c h => qop_nd (Or.inr (Or.inr (Or.inr (Or.inr h))))) H hnd
    refine zb M_takesE_s0 rfl ?_
    refine zcallV M_takesE_d1 k11_246 (by omega) (c_M_takesA (by omega) hn hn2 hk hO hr hnd1) rfl rfl rfl (Nat.le_of_ble_eq_true rfl) ?_
    rintro _ _ ⟨rfl, rfl⟩
    refine zb M_takesE_s4 rfl ?_
    exact w_M_takesE hd hn hn2 hk hO hnd 120 q1 c1 e1 _ _ H rfl (by omega) hin.2.1
