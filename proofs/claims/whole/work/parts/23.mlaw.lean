/-! the reference reads a line, a text -/
def qposL (z : Nat ⊕ (Nat × qC × Option qD × qD)) : Nat := match z with
  | .inl q => q
  | .inr w => w.1
def qflL (z : Nat ⊕ (Nat × qC × Option qD × qD)) : Int32 := match z with
  | .inl _ => 0
  | .inr _ => 1
def qtx (T old : Nat → Int32) (i : Nat) : Nat → Int32 := fun j => if j < i then T j else old j
theorem qtx_0 (T old : Nat → Int32) : qtx T old 0 = old := by funext j; simp [qtx]
theorem zpA_next (μ : zMem) (c : Nat) (T old : Nat → Int32) (i : Nat) : zpI (zpA μ c (qtx T old i)) c i (T i) = zpA μ c (qtx T old (i + 1)) := by
  refine Prod.ext (funext fun c' => funext fun j => ?_) rfl
  simp only [zpI, zpA, zu, zuA, qtx]
  by_cases hc : c' = c
  · subst hc
    by_cases hj : j = i
    · subst hj; simp [qtx]
    · have : j < i + 1 ↔ j < i := by omega
      simp [hj, this, qtx]
  · simp [hc]
theorem zpA_self (μ : zMem) (c : Nat) : zpA μ c (μ.1 c) = μ := by
  refine Prod.ext (funext fun c' => ?_) rfl
  simp only [zpA, zuA]
  by_cases hc : c' = c
  · subst hc; simp
  · simp [hc]
theorem qLn_ok {T : Nat → Int32} {n p sz : Nat} (hp : p ≤ n) : match qLn T n p sz with
    | .inl q => p ≤ q ∧ q ≤ n
    | .inr (q, c, _, _) => p < q ∧ q ≤ n ∧ c.length ≤ q - p + 1 := by
  have h1 := qTop_ok T n p
  unfold qLn
  cases hr : qTop T n p with
  | inl q => rw [hr] at h1; exact ⟨h1.1, h1.2 hp⟩
  | inr z =>
    obtain ⟨q, c, e⟩ := z
    rw [hr] at h1
    dsimp only
    by_cases h63 : qnx T n q = 63
    · rw [if_pos h63]
      have hlt : q < n := qnx_lt (by rw [h63]; decide)
      have h2 := qTop_ok T n (q + 1)
      cases hr2 : qTop T n (q + 1) with
      | inl q2 => rw [hr2] at h2; exact ⟨by omega, h2.2 hlt⟩
      | inr z =>
        obtain ⟨q2, c2, e2⟩ := z
        rw [hr2] at h2
        refine ⟨by omega, h2.2.1, ?_⟩
        simp only [List.length_append, List.length_cons, List.length_nil]
        omega
    · rw [if_neg h63]
      refine ⟨h1.1, h1.2.1, ?_⟩
      simp only [List.length_append, List.length_cons, List.length_nil]
      omega
theorem hM_top {g : zG} {μ : zMem} {n : Nat} (hn : μ.1 0 4 = nI n) (hn2 : n ≤ 120) : ∀ d q, 43 ≤ d → q ≤ n → zM g d M_readsE [.ref 0] (m3 μ (nI q) (nI (6 - 6)) 1) (fun v μ' => v = none ∧ μ' = m3 μ (nI (qpos (qTop (μ.1 32) n q))) (nI (6 - 6)) (qfl (qTop (μ.1 32) n q))) :=
  fun d q h1 h2 => c_M_readsE (k := 6) (po := qO (μ.1 32) n 6) (by omega) hn hn2 (qO_ok _ n 6) (fun d q o h1 h2 h3 => by rw [h3]; exact c_M_readsO hn hn2 6 (by decide) d q h1 h2) q h2

set_option maxRecDepth 100000 in
set_option maxHeartbeats 4000000 in
theorem c_M_readsLine {g : zG} {d : Nat} {μ : zMem} {n : Nat} (hd : 44 ≤ d) (hn : μ.1 0 4 = nI n) (hn2 : n ≤ 120) (q sz : Nat) (hq : q ≤ n) : zM g d M_readsLine [.ref 0] (m3 μ (nI q) (nI (6 - 6)) 1) (fun v μ' => v = none ∧ μ' = m3 μ (nI (qposL (qLn (μ.1 32) n q sz))) (nI (6 - 6)) (qflL (qLn (μ.1 32) n q sz))) := by
  refine zM_of (by decide +kernel) rfl rfl (Nat.le_of_ble_eq_true rfl) rfl ?_
  have h1 := qTop_ok (μ.1 32) n q
  unfold qLn
  cases hr : qTop (μ.1 32) n q with
  | inl q1 =>
    refine zb M_readsLine_s0 rfl ?_
    refine zcallV M_readsLine_d1 k11_194 (by omega) (hM_top hn hn2 (d - 1) q (by omega) hq) rfl rfl rfl (Nat.le_of_ble_eq_true rfl) ?_
    rintro _ _ ⟨rfl, rfl⟩
    rw [hr]
    refine zb M_readsLine_s4 rfl ?_
    refine zcallV M_readsLine_d7 k11_197 (by omega) (c_M_isNext_0) rfl rfl rfl (Nat.le_of_ble_eq_true rfl) ?_
    rintro _ _ ⟨rfl, rfl⟩
    refine z_eq M_readsLine_d10 (tgt := 17) rfl (fun h10 => ?_) (fun h10 => absurd rfl h10)
    refine z_retV M_readsLine_d17 rfl ?_
    exact ⟨rfl, rfl⟩
  | inr z =>
    obtain ⟨q1, c1, e1⟩ := z
    rw [hr] at h1
    dsimp only
    have hq1 : q1 ≤ n := h1.2.1
    by_cases h63 : qnx (μ.1 32) n q1 = 63
    · rw [if_pos h63]
      have hlt : q1 < n := qnx_lt (by rw [h63]; decide)
      cases hr2 : qTop (μ.1 32) n (q1 + 1) with
      | inl q2 =>
        refine zb M_readsLine_s0 rfl ?_
        refine zcallV M_readsLine_d1 k11_194 (by omega) (hM_top hn hn2 (d - 1) q (by omega) hq) rfl rfl rfl (Nat.le_of_ble_eq_true rfl) ?_
        rintro _ _ ⟨rfl, rfl⟩
        rw [hr]
        refine zb M_readsLine_s4 rfl ?_
        refine zcallV M_readsLine_d7 k11_197 (by omega) (c_M_isNext_y (q := q1) (by omega) hn hn2 (by omega) h63) rfl rfl rfl (Nat.le_of_ble_eq_true rfl) ?_
        rintro _ _ ⟨rfl, rfl⟩
        refine z_eq M_readsLine_d10 (tgt := 17) rfl (fun h10 => absurd h10 (show ¬ (1 : Int32) = 0 by decide)) (fun h10 => ?_)
        refine zb M_readsLine_s13 rfl ?_
        refine zcallV M_readsLine_d14 k11_194 (by omega) (hM_top hn hn2 (d - 1) (q1 + 1) (by omega) (by omega)) rfl rfl rfl (Nat.le_of_ble_eq_true rfl) ?_
        rintro _ _ ⟨rfl, rfl⟩
        rw [hr2]
        refine z_retV M_readsLine_d17 rfl ?_
        exact ⟨rfl, rfl⟩
      | inr z =>
        refine zb M_readsLine_s0 rfl ?_
        refine zcallV M_readsLine_d1 k11_194 (by omega) (hM_top hn hn2 (d - 1) q (by omega) hq) rfl rfl rfl (Nat.le_of_ble_eq_true rfl) ?_
        rintro _ _ ⟨rfl, rfl⟩
        rw [hr]
        refine zb M_readsLine_s4 rfl ?_
        refine zcallV M_readsLine_d7 k11_197 (by omega) (c_M_isNext_y (q := q1) (by omega) hn hn2 (by omega) h63) rfl rfl rfl (Nat.le_of_ble_eq_true rfl) ?_
        rintro _ _ ⟨rfl, rfl⟩
        refine z_eq M_readsLine_d10 (tgt := 17) rfl (fun h10 => absurd h10 (show ¬ (1 : Int32) = 0 by decide)) (fun h10 => ?_)
        refine zb M_readsLine_s13 rfl ?_
        refine zcallV M_readsLine_d14 k11_194 (by omega) (hM_top hn hn2 (d - 1) (q1 + 1) (by omega) (by omega)) rfl rfl rfl (Nat.le_of_ble_eq_true rfl) ?_
        rintro _ _ ⟨rfl, rfl⟩
        rw [hr2]
        refine z_retV M_readsLine_d17 rfl ?_
        exact ⟨rfl, rfl⟩
    · rw [if_neg h63]
      refine zb M_readsLine_s0 rfl ?_
      refine zcallV M_readsLine_d1 k11_194 (by omega) (hM_top hn hn2 (d - 1) q (by omega) hq) rfl rfl rfl (Nat.le_of_ble_eq_true rfl) ?_
      rintro _ _ ⟨rfl, rfl⟩
      rw [hr]
      refine zb M_readsLine_s4 rfl ?_
      refine zcallV M_readsLine_d7 k11_197 (by omega) (c_M_isNext_n (q := q1) (by omega) hn hn2 (by omega) h63) rfl rfl rfl (Nat.le_of_ble_eq_true rfl) ?_
      rintro _ _ ⟨rfl, rfl⟩
      refine z_eq M_readsLine_d10 (tgt := 17) rfl (fun h10 => ?_) (fun h10 => absurd rfl h10)
      refine z_retV M_readsLine_d17 rfl ?_
      exact ⟨rfl, rfl⟩

set_option maxRecDepth 100000 in
set_option maxHeartbeats 4000000 in
theorem w_M_law_bad {g : zG} {d : Nat} {μ : zMem} {p o r : Int32} {Q : Option Value → zMem → Prop} (hbad : r = 0 ∨ (r = 1 ∧ ¬ p = μ.1 0 4)) (hQ : Q (some (.int (-100 - p))) (zpI (m3 μ p o r) 0 4 0)) : zW g M_law d 35 [some (.ref 0), none, none, none] [] (m3 μ p o r) Q := by
  refine zb M_law_s35 rfl ?_
  refine z_eq M_law_d39 (tgt := 57) rfl (fun h39 => ?_) (fun h39 => ?_)
  · refine zb M_law_s57 rfl ?_
    refine z_eq M_law_d65 (tgt := 109) rfl (fun h65 => ?_) (fun h65 => absurd (rfl : (0 : Int32) = 0) h65)
    refine zb M_law_s109 rfl ?_
    refine z_eq M_law_d115 (tgt := 122) rfl (fun h115 => ?_) (fun h115 => absurd (rfl : (0 : Int32) = 0) h115)
    refine zb M_law_s122 rfl ?_
    refine z_ret M_law_d126 rfl ?_
    exact hQ
  · refine zb M_law_s42 rfl ?_
    refine z_cne M_law_d50 (tgt := 57) rfl (fun h50 => ?_) (fun h50 => ?_)
    · refine zb M_law_s57 rfl ?_
      refine z_eq M_law_d65 (tgt := 109) rfl (fun h65 => ?_) (fun h65 => absurd (rfl : (0 : Int32) = 0) h65)
      refine zb M_law_s109 rfl ?_
      refine z_eq M_law_d115 (tgt := 122) rfl (fun h115 => ?_) (fun h115 => absurd (rfl : (0 : Int32) = 0) h115)
      refine zb M_law_s122 rfl ?_
      refine z_ret M_law_d126 rfl ?_
      exact hQ
    · exfalso
      rcases hbad with h | ⟨h, h2⟩
      · exact h39 h
      · exact h2 h50

set_option maxRecDepth 100000 in
set_option maxHeartbeats 4000000 in
theorem w_M_law_copy {g : zG} {d : Nat} {μ : zMem} {n : Nat} {p : Int32} {o : Int32} {Q : Option Value → zMem → Prop} (hn : μ.1 0 4 = nI n) (hn2 : n ≤ 120) (hQ : Q (some (.int 1)) (zpI (zpI (zpI (zpA (m3 μ p o 1) 33 (qtx (μ.1 32) (μ.1 33) n)) 0 5 (nI n)) 0 8 1) 0 4 0)) : ∀ (j i : Nat), i + j = n → zW g M_law d 70 [some (.ref 0), some (.int 1), some (.int p), some (.int (nI i))] [] (zpA (m3 μ p o 1) 33 (qtx (μ.1 32) (μ.1 33) i)) Q := by
  have e4 : (m3 μ p o 1).1 0 4 = nI n := hn
  intro j
  induction j with
  | zero =>
    intro i hi
    have e : i = n := by omega
    subst e
    refine zb M_law_s70 rfl ?_
    refine z_cge M_law_d75 (tgt := 96) rfl (fun h75 => ?_) (fun h75 => absurd (show (m3 μ p o 1).1 0 4 ≤ nI i by rw [e4]; exact Int32.le_refl _) h75)
    refine zb1 M_law_s96 rfl (Or.inr rfl) ?_
    refine z_eq M_law_d115 (tgt := 122) rfl (fun h115 => absurd h115 (show ¬ (1 : Int32) = 0 by decide)) (fun h115 => ?_)
    refine zb M_law_s118 rfl ?_
    refine z_ret M_law_d126 rfl ?_
    rw [← hn] at hQ
    exact hQ
  | succ j ih =>
    intro i hi
    refine zb M_law_s70 rfl ?_
    refine z_cge M_law_d75 (tgt := 96) rfl (fun h75 => absurd h75 (show ¬ (m3 μ p o 1).1 0 4 ≤ nI i by rw [e4]; exact nI_ge (by omega) (by omega))) (fun h75 => ?_)
    refine zb2 M_law_s78 rfl (by first | assumption | exact vp_in_nI (by omega) (by omega) | decide) (by first | assumption | exact vp_in_nI (by omega) (by omega) | decide) ?_
    have e : zpI (zpA (m3 μ p o 1) 33 (qtx (μ.1 32) (μ.1 33) i)) 33 (nI i).toNatClampNeg ((zpA (m3 μ p o 1) 33 (qtx (μ.1 32) (μ.1 33) i)).1 32 (nI i).toNatClampNeg) = zpA (m3 μ p o 1) 33 (qtx (μ.1 32) (μ.1 33) (i + 1)) := by
      rw [nI_clamp (by omega)]
      exact zpA_next _ _ _ _ _
    rw [e, nI_1]
    exact ih (i + 1) (by omega)

/-- what law() answers and leaves, by the reading of its tape -/
def qlawQ (μ : zMem) (n : Nat) (z : Nat ⊕ (qC × qD)) (v : Option Value) (μ' : zMem) : Prop := match z with
  | .inl p => v = some (.int (-100 - nI p)) ∧ ∃ r, μ' = zpI (m3 μ (nI p) (nI (6 - 6)) r) 0 4 0
  | .inr _ => v = some (.int 1) ∧ μ' = zpI (zpI (zpI (zpA (m3 μ (nI n) (nI (6 - 6)) 1) 33 (qtx (μ.1 32) (μ.1 33) n)) 0 5 (nI n)) 0 8 1) 0 4 0

set_option maxRecDepth 100000 in
set_option maxHeartbeats 4000000 in
theorem w_M_law {g : zG} {d : Nat} {μ : zMem} {n : Nat} (hd : 46 ≤ d) (hn : μ.1 0 4 = nI n) (hn2 : n ≤ 120) : ∀ (f q sz : Nat), n < q + f → q ≤ n → zW g M_law d 19 [some (.ref 0), none, none, none] [] (m3 μ (nI (qposL (qLn (μ.1 32) n q sz))) (nI (6 - 6)) (qflL (qLn (μ.1 32) n q sz))) (qlawQ μ n (qLw (μ.1 32) n f q sz)) := by
  intro f
  induction f with
  | zero => intro q sz h1 h2; omega
  | succ f ih =>
    intro q sz hf hq
    have hl := qLn_ok (T := μ.1 32) (sz := sz) hq
    simp only [qLw]
    cases hr : qLn (μ.1 32) n q sz with
    | inl q1 =>
      refine zb M_law_s19 rfl ?_
      refine zcallV M_law_d22 k11_197 (by omega) (c_M_isNext_0) rfl rfl rfl (Nat.le_of_ble_eq_true rfl) ?_
      rintro _ _ ⟨rfl, rfl⟩
      refine z_eq M_law_d25 (tgt := 35) rfl (fun h25 => ?_) (fun h25 => absurd rfl h25)
      exact w_M_law_bad (Or.inl rfl) ⟨rfl, _, rfl⟩
    | inr z =>
      obtain ⟨q1, c1, o1, e1⟩ := z
      rw [hr] at hl
      dsimp only
      have hq1 : q1 ≤ n := hl.2.1
      by_cases hqn : q1 = n
      · rw [if_pos hqn]
        have h59 : ¬ qnx (μ.1 32) n q1 = 59 := by rw [show qnx (μ.1 32) n q1 = -1 from if_neg (by omega)]; decide
        refine zb M_law_s19 rfl ?_
        refine zcallV M_law_d22 k11_197 (by omega) (c_M_isNext_n (q := q1) (by omega) hn hn2 (by omega) h59) rfl rfl rfl (Nat.le_of_ble_eq_true rfl) ?_
        rintro _ _ ⟨rfl, rfl⟩
        refine z_eq M_law_d25 (tgt := 35) rfl (fun h25 => ?_) (fun h25 => absurd rfl h25)
        refine zb M_law_s35 rfl ?_
        refine z_eq M_law_d39 (tgt := 57) rfl (fun h39 => absurd h39 (show ¬ (1 : Int32) = 0 by decide)) (fun h39 => ?_)
        refine zb M_law_s42 rfl ?_
        refine z_cne M_law_d50 (tgt := 57) rfl (fun h50 => absurd (show nI q1 = μ.1 0 4 by rw [hn, hqn]) h50) (fun h50 => ?_)
        refine zb M_law_s53 rfl ?_
        refine z_eq M_law_d65 (tgt := 109) rfl (fun h65 => absurd h65 (show ¬ (1 : Int32) = 0 by decide)) (fun h65 => ?_)
        refine zb M_law_s68 rfl ?_
        rw [hqn]
        have h := w_M_law_copy (g := g) (d := d) (μ := μ) (n := n) (p := nI n) (o := nI (6 - 6)) (Q := qlawQ μ n (.inr (c1, qcon o1 e1 (fun _ => 0)))) hn hn2 ⟨rfl, rfl⟩ n 0 (by omega)
        rw [qtx_0] at h
        rw [show zpA (m3 μ (nI n) (nI (6 - 6)) 1) 33 (μ.1 33) = m3 μ (nI n) (nI (6 - 6)) 1 from zpA_self (m3 μ (nI n) (nI (6 - 6)) 1) 33] at h
        exact h
      · rw [if_neg hqn]
        by_cases h59 : qnx (μ.1 32) n q1 = 59
        · rw [if_pos h59]
          have hlt : q1 < n := qnx_lt (by rw [h59]; decide)
          refine zb M_law_s19 rfl ?_
          refine zcallV M_law_d22 k11_197 (by omega) (c_M_isNext_y (q := q1) (by omega) hn hn2 (by omega) h59) rfl rfl rfl (Nat.le_of_ble_eq_true rfl) ?_
          rintro _ _ ⟨rfl, rfl⟩
          refine z_eq M_law_d25 (tgt := 35) rfl (fun h25 => absurd h25 (show ¬ (1 : Int32) = 0 by decide)) (fun h25 => ?_)
          refine zb M_law_s28 rfl ?_
          refine zcallV M_law_d29 k11_216 (by omega) (c_M_readsLine (by omega) hn hn2 (q1 + 1) (sz + c1.length) (by omega)) rfl rfl rfl (Nat.le_of_ble_eq_true rfl) ?_
          rintro _ _ ⟨rfl, rfl⟩
          refine zb M_law_s32 rfl ?_
          exact zW.mono (ih (q1 + 1) (sz + c1.length) (by omega) (by omega)) (fun v μ1 hq => by revert hq; cases qLw (μ.1 32) n f (q1 + 1) (sz + c1.length) <;> exact id)
        · rw [if_neg h59]
          refine zb M_law_s19 rfl ?_
          refine zcallV M_law_d22 k11_197 (by omega) (c_M_isNext_n (q := q1) (by omega) hn hn2 (by omega) h59) rfl rfl rfl (Nat.le_of_ble_eq_true rfl) ?_
          rintro _ _ ⟨rfl, rfl⟩
          refine z_eq M_law_d25 (tgt := 35) rfl (fun h25 => ?_) (fun h25 => absurd rfl h25)
          exact w_M_law_bad (Or.inr ⟨rfl, fun e => hqn ((nI_eq (by omega) (by omega)).mp (e.trans hn))⟩) ⟨rfl, _, rfl⟩

set_option maxRecDepth 100000 in
set_option maxHeartbeats 4000000 in
theorem c_M_law {g : zG} {d : Nat} {μ : zMem} {n : Nat} (hd : 46 ≤ d) (hn : μ.1 0 4 = nI n) (hn2 : n ≤ 120) : zM g d M_law [.ref 0] μ (qlawQ μ n (qLw (μ.1 32) n 121 0 0)) := by
  refine zM_of (by decide +kernel) rfl rfl (Nat.le_of_ble_eq_true rfl) rfl ?_
  have e0 : zpI (zpI (zpI μ 0 24 0) 0 25 0) 0 26 1 = m3 μ (nI 0) (nI (6 - 6)) 1 := by
    refine Prod.ext (funext fun c => funext fun j => ?_) rfl
    simp only [zpI, zu, m3]
    by_cases hc : c = 0 <;> by_cases h1 : j = 24 <;> by_cases h2 : j = 25 <;> by_cases h3 : j = 26 <;> simp_all <;> rfl
  refine zb1 M_law_s0 rfl (Or.inr rfl) ?_
  rw [e0]
  refine zcallV M_law_d16 k11_216 (by omega) (c_M_readsLine (by omega) hn hn2 0 0 (by omega)) rfl rfl rfl (Nat.le_of_ble_eq_true rfl) ?_
  rintro _ _ ⟨rfl, rfl⟩
  exact w_M_law hd hn hn2 121 0 0 (by omega) (by omega)
