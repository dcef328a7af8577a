/-! the reference works out an O, the text, what a vow gives -/
theorem qnm_facts {c : Int32} {i : Nat} (h : qnm c = some i) : i < 6 ∧ c.toNatClampNeg = zget [119, 107, 100, 104, 98, 112] i 0 ∧ vp_in c 128 ∧ ¬ c = 33 ∧ ¬ c = 45 ∧ ¬ c = 40 ∧ ¬ qdig c := by
  unfold qnm at h
  repeat' (split at h)
  all_goals first | (cases h; done) | (rename_i e; subst e; cases h; refine ⟨by decide, by decide, by unfold vp_in; decide, by decide, by decide, by decide, by unfold qdig; decide⟩)

set_option maxRecDepth 100000 in
set_option maxHeartbeats 4000000 in
theorem w_M_takesO_dig {g : zG} {d : Nat} {μ : zMem} {n q2 : Nat} {c v2 : Int32} {Q : Option Value → zMem → Prop} (hd : 2 ≤ d) (hn : μ.1 0 5 = nI n) (hn2 : n ≤ 120) (hnd : ¬ qdig (qnx (μ.1 33) n q2)) (hQ : Q (some (.int v2)) (m1 μ (nI q2))) : ∀ (j q : Nat) (v : Int32), qnum (μ.1 33) n j q v = (q2, v2) → q ≤ n → zW g M_takesO d 20 [some (.ref 0), some (.int c), some (.int v)] [] (m1 μ (nI q)) Q := by
  intro j
  induction j with
  | zero =>
    intro q v H hq
    simp only [qnum, Prod.mk.injEq] at H
    obtain ⟨rfl, rfl⟩ := H
    refine zb M_takesO_s20 rfl ?_
    refine zcallV M_takesO_d22 k11_225 (by omega) (c_M_seen hn hn2 (by omega)) rfl rfl rfl (Nat.le_of_ble_eq_true rfl) ?_
    rintro _ _ ⟨rfl, rfl⟩
    refine zcallV M_takesO_d25 k11_185 (by omega) (c_M_isDigit _) rfl rfl rfl (Nat.le_of_ble_eq_true rfl) ?_
    rintro _ _ ⟨rfl, rfl⟩
    refine z_eq M_takesO_d28 (tgt := 62) rfl (fun h28 => ?_) (fun h28 => absurd (zB_eq0.mpr hnd) h28)
    refine zb M_takesO_s62 rfl ?_
    refine z_ret M_takesO_d63 rfl ?_
    exact hQ
  | succ j ih =>
    intro q v H hq
    simp only [qnum] at H
    by_cases hdg : qdig (qnx (μ.1 33) n q)
    · rw [if_pos hdg] at H
      have hq1 : q < n := qnx_lt (fun e => by rw [e] at hdg; exact absurd hdg.1 (by decide))
      refine zb M_takesO_s20 rfl ?_
      refine zcallV M_takesO_d22 k11_225 (by omega) (c_M_seen hn hn2 (by omega)) rfl rfl rfl (Nat.le_of_ble_eq_true rfl) ?_
      rintro _ _ ⟨rfl, rfl⟩
      refine zcallV M_takesO_d25 k11_185 (by omega) (c_M_isDigit _) rfl rfl rfl (Nat.le_of_ble_eq_true rfl) ?_
      rintro _ _ ⟨rfl, rfl⟩
      refine z_eq M_takesO_d28 (tgt := 62) rfl (fun h28 => absurd hdg (zB_eq0.mp h28)) (fun h28 => ?_)
      refine zb1 M_takesO_s31 rfl (vp_in_nI (by omega) (by omega)) ?_
      rw [m1_24, m1_p, nI_1, nI_clamp (show q < 2 ^ 31 by omega), Int32.mul_comm]
      exact ih (q + 1) _ H (by omega)
    · rw [if_neg hdg] at H
      simp only [Prod.mk.injEq] at H
      obtain ⟨rfl, rfl⟩ := H
      refine zb M_takesO_s20 rfl ?_
      refine zcallV M_takesO_d22 k11_225 (by omega) (c_M_seen hn hn2 (by omega)) rfl rfl rfl (Nat.le_of_ble_eq_true rfl) ?_
      rintro _ _ ⟨rfl, rfl⟩
      refine zcallV M_takesO_d25 k11_185 (by omega) (c_M_isDigit _) rfl rfl rfl (Nat.le_of_ble_eq_true rfl) ?_
      rintro _ _ ⟨rfl, rfl⟩
      refine z_eq M_takesO_d28 (tgt := 62) rfl (fun h28 => ?_) (fun h28 => absurd (zB_eq0.mpr hdg) h28)
      refine zb M_takesO_s62 rfl ?_
      refine z_ret M_takesO_d63 rfl ?_
      exact hQ

set_option maxRecDepth 100000 in
set_option maxHeartbeats 4000000 in
theorem c_M_takesO {g : zG} {μ : zMem} {n : Nat} (hn : μ.1 0 5 = nI n) (hn2 : n ≤ 120) : ∀ (k d q q2 : Nat) (c2 : qC) (e2 : qD), 2 + 6 * k ≤ d → qO (μ.1 33) n k q = .inr (q2, c2, e2) → ¬ qdig (qnx (μ.1 33) n q2) → zM g d M_takesO [.ref 0] (m1 μ (nI q)) (fun v μ' => v = some (.int (e2 (qnu μ))) ∧ μ' = m1 μ (nI q2)) := by
  intro k
  induction k with
  | zero =>
    intro d q q2 c2 e2 hd H hnd
    refine zM_of (by decide +kernel) rfl rfl (Nat.le_of_ble_eq_true rfl) rfl ?_
    have hq : q < n := by
      have h1 := qO_ok (μ.1 33) n (0) q
      rw [H] at h1
      omega
    have ec : (m1 μ (nI q)).1 33 ((m1 μ (nI q)).1 0 24).toNatClampNeg = qnx (μ.1 33) n q := by
      show μ.1 33 (nI q).toNatClampNeg = _
      rw [nI_clamp (by omega), show qnx (μ.1 33) n q = μ.1 33 q from if_pos hq]
    simp only [qO] at H
    by_cases hdg : qdig (qnx (μ.1 33) n q)
    · rw [if_pos hdg] at H
      simp only [Sum.inr.injEq, Prod.mk.injEq] at H
      obtain ⟨rfl, rfl, rfl⟩ := H
      refine zb1 M_takesO_s0 rfl (vp_in_nI (by omega) (by omega)) ?_
      rw [ec]
      refine zcallV M_takesO_d12 k11_185 (by omega) (c_M_isDigit _) rfl rfl rfl (Nat.le_of_ble_eq_true rfl) ?_
      rintro _ _ ⟨rfl, rfl⟩
      refine z_eq M_takesO_d15 (tgt := 64) rfl (fun h15 => absurd hdg (zB_eq0.mp h15)) (fun h15 => ?_)
      refine zb M_takesO_s18 rfl ?_
      exact w_M_takesO_dig (by omega) hn hn2 hnd ⟨rfl, rfl⟩ 4 q 0 rfl (by omega)
    · rw [if_neg hdg] at H
      cases hnm : qnm (qnx (μ.1 33) n q) with
      | some i =>
        rw [hnm] at H
        simp only [Sum.inr.injEq, Prod.mk.injEq] at H
        obtain ⟨rfl, rfl, rfl⟩ := H
        obtain ⟨f1, f2, f3, f4, f5, f6, -⟩ := qnm_facts hnm
        refine zb1 M_takesO_s0 rfl (vp_in_nI (by omega) (by omega)) ?_
        rw [ec]
        refine zcallV M_takesO_d12 k11_185 (by omega) (c_M_isDigit _) rfl rfl rfl (Nat.le_of_ble_eq_true rfl) ?_
        rintro _ _ ⟨rfl, rfl⟩
        refine z_eq M_takesO_d15 (tgt := 64) rfl (fun h15 => ?_) (fun h15 => absurd (zB_eq0.mpr hdg) h15)
        refine zb M_takesO_s64 rfl ?_
        rw [m1_24, m1_p, nI_1]
        refine z_cne M_takesO_d77 (tgt := 97) rfl (fun h77 => ?_) (fun h77 => absurd h77 f4)
        refine zb M_takesO_s97 rfl ?_
        refine z_cne M_takesO_d100 (tgt := 109) rfl (fun h100 => ?_) (fun h100 => absurd h100 f5)
        refine zb M_takesO_s109 rfl ?_
        refine z_ceq M_takesO_d112 (tgt := 122) rfl (fun h112 => absurd h112 f6) (fun h112 => ?_)
        refine zb1 M_takesO_s115 rfl f3 ?_
        refine z_ret M_takesO_d121 rfl ?_
        refine ⟨?_, rfl⟩
        show some (Value.int (μ.1 38 (qnx (μ.1 33) n q).toNatClampNeg)) = some (Value.int (qnu μ i))
        rw [f2, show qnu μ i = μ.1 38 (zget [119, 107, 100, 104, 98, 112] i 0) from if_pos f1]
      | none =>
        rw [hnm] at H
        dsimp only at H
        cases H
  | succ k ih =>
    intro d q q2 c2 e2 hd H hnd
    refine zM_of (by decide +kernel) rfl rfl (Nat.le_of_ble_eq_true rfl) rfl ?_
    have hq : q < n := by
      have h1 := qO_ok (μ.1 33) n (k + 1) q
      rw [H] at h1
      omega
    have ec : (m1 μ (nI q)).1 33 ((m1 μ (nI q)).1 0 24).toNatClampNeg = qnx (μ.1 33) n q := by
      show μ.1 33 (nI q).toNatClampNeg = _
      rw [nI_clamp (by omega), show qnx (μ.1 33) n q = μ.1 33 q from if_pos hq]
    simp only [qO] at H
    by_cases hdg : qdig (qnx (μ.1 33) n q)
    · rw [if_pos hdg] at H
      simp only [Sum.inr.injEq, Prod.mk.injEq] at H
      obtain ⟨rfl, rfl, rfl⟩ := H
      refine zb1 M_takesO_s0 rfl (vp_in_nI (by omega) (by omega)) ?_
      rw [ec]
      refine zcallV M_takesO_d12 k11_185 (by omega) (c_M_isDigit _) rfl rfl rfl (Nat.le_of_ble_eq_true rfl) ?_
      rintro _ _ ⟨rfl, rfl⟩
      refine z_eq M_takesO_d15 (tgt := 64) rfl (fun h15 => absurd hdg (zB_eq0.mp h15)) (fun h15 => ?_)
      refine zb M_takesO_s18 rfl ?_
      exact w_M_takesO_dig (by omega) hn hn2 hnd ⟨rfl, rfl⟩ 4 q 0 rfl (by omega)
    · rw [if_neg hdg] at H
      cases hnm : qnm (qnx (μ.1 33) n q) with
      | some i =>
        rw [hnm] at H
        simp only [Sum.inr.injEq, Prod.mk.injEq] at H
        obtain ⟨rfl, rfl, rfl⟩ := H
        obtain ⟨f1, f2, f3, f4, f5, f6, -⟩ := qnm_facts hnm
        refine zb1 M_takesO_s0 rfl (vp_in_nI (by omega) (by omega)) ?_
        rw [ec]
        refine zcallV M_takesO_d12 k11_185 (by omega) (c_M_isDigit _) rfl rfl rfl (Nat.le_of_ble_eq_true rfl) ?_
        rintro _ _ ⟨rfl, rfl⟩
        refine z_eq M_takesO_d15 (tgt := 64) rfl (fun h15 => ?_) (fun h15 => absurd (zB_eq0.mpr hdg) h15)
        refine zb M_takesO_s64 rfl ?_
        rw [m1_24, m1_p, nI_1]
        refine z_cne M_takesO_d77 (tgt := 97) rfl (fun h77 => ?_) (fun h77 => absurd h77 f4)
        refine zb M_takesO_s97 rfl ?_
        refine z_cne M_takesO_d100 (tgt := 109) rfl (fun h100 => ?_) (fun h100 => absurd h100 f5)
        refine zb M_takesO_s109 rfl ?_
        refine z_ceq M_takesO_d112 (tgt := 122) rfl (fun h112 => absurd h112 f6) (fun h112 => ?_)
        refine zb1 M_takesO_s115 rfl f3 ?_
        refine z_ret M_takesO_d121 rfl ?_
        refine ⟨?_, rfl⟩
        show some (Value.int (μ.1 38 (qnx (μ.1 33) n q).toNatClampNeg)) = some (Value.int (qnu μ i))
        rw [f2, show qnu μ i = μ.1 38 (zget [119, 107, 100, 104, 98, 112] i 0) from if_pos f1]
      | none =>
        rw [hnm] at H
        dsimp only at H
        by_cases h40 : qnx (μ.1 33) n q = 40
        · rw [if_pos h40] at H
          have hin := (qE_ok (T := μ.1 33) (qO_ok (μ.1 33) n k)).2.2.2.2 (q + 1)
          cases hr : qE (μ.1 33) n (qO (μ.1 33) n k) (q + 1) with
          | inl q3 => rw [hr] at H; cases H
          | inr z =>
            obtain ⟨q3, c3, e3⟩ := z
            rw [hr] at H hin
            dsimp only at H
            by_cases h41 : qnx (μ.1 33) n q3 = 41
            · rw [if_pos h41] at H
              simp only [Sum.inr.injEq, Prod.mk.injEq] at H
              obtain ⟨rfl, rfl, rfl⟩ := H
              have hnd3 : ¬ qdig (qnx (μ.1 33) n q3) := by rw [h41]; unfold qdig; decide
              refine zb1 M_takesO_s0 rfl (vp_in_nI (by omega) (by omega)) ?_
              rw [ec]
              refine zcallV M_takesO_d12 k11_185 (by omega) (c_M_isDigit _) rfl rfl rfl (Nat.le_of_ble_eq_true rfl) ?_
              rintro _ _ ⟨rfl, rfl⟩
              refine z_eq M_takesO_d15 (tgt := 64) rfl (fun h15 => ?_) (fun h15 => absurd (zB_eq0.mpr hdg) h15)
              refine zb M_takesO_s64 rfl ?_
              rw [m1_24, m1_p, nI_1]
              refine z_cne M_takesO_d77 (tgt := 97) rfl (fun h77 => ?_) (fun h77 => absurd (h77.symm.trans h40) (by decide))
              refine zb M_takesO_s97 rfl ?_
              refine z_cne M_takesO_d100 (tgt := 109) rfl (fun h100 => ?_) (fun h100 => absurd (h100.symm.trans h40) (by decide))
              refine zb M_takesO_s109 rfl ?_
              refine z_ceq M_takesO_d112 (tgt := 122) rfl (fun h112 => ?_) (fun h112 => absurd h40 h112)
              refine zb M_takesO_s122 rfl ?_
              refine zcallV M_takesO_d123 k11_231 (by omega) (c_M_takesE (by omega) hn hn2 (qO_ok _ n k) (fun d q q2 c e h1 h2 h3 => ih d q q2 c e h1 h2 h3) hr hnd3) rfl rfl rfl (Nat.le_of_ble_eq_true rfl) ?_
              rintro _ _ ⟨rfl, rfl⟩
              refine zb M_takesO_s126 rfl ?_
              refine z_ret M_takesO_d138 rfl ?_
              rw [m1_24, m1_p, nI_1]
              exact ⟨rfl, rfl⟩
            · rw [if_neg h41] at H
              cases H
        · rw [if_neg h40] at H
          by_cases h33 : qnx (μ.1 33) n q = 33
          · rw [if_pos h33] at H
            cases hr : qO (μ.1 33) n k (q + 1) with
            | inl q3 => rw [hr] at H; cases H
            | inr z =>
              obtain ⟨q3, c3, e3⟩ := z
              rw [hr] at H
              simp only [Sum.inr.injEq, Prod.mk.injEq] at H
              obtain ⟨rfl, rfl, rfl⟩ := H
              refine zb1 M_takesO_s0 rfl (vp_in_nI (by omega) (by omega)) ?_
              rw [ec]
              refine zcallV M_takesO_d12 k11_185 (by omega) (c_M_isDigit _) rfl rfl rfl (Nat.le_of_ble_eq_true rfl) ?_
              rintro _ _ ⟨rfl, rfl⟩
              refine z_eq M_takesO_d15 (tgt := 64) rfl (fun h15 => ?_) (fun h15 => absurd (zB_eq0.mpr hdg) h15)
              refine zb M_takesO_s64 rfl ?_
              rw [m1_24, m1_p, nI_1]
              refine z_cne M_takesO_d77 (tgt := 97) rfl (fun h77 => absurd h33 h77) (fun h77 => ?_)
              refine zb M_takesO_s80 rfl ?_
              refine zcallV M_takesO_d82 k11_228 (by omega) (ih (d - 1) (q + 1) _ _ _ (by omega) hr hnd) rfl rfl rfl (Nat.le_of_ble_eq_true rfl) ?_
              rintro _ _ ⟨rfl, rfl⟩
              refine z_ne M_takesO_d85 (tgt := 92) rfl (fun h85 => ?_) (fun h85 => ?_)
              · refine zb M_takesO_s92 rfl ?_
                refine zcallV M_takesO_d93 k11_167 (by omega) (c_M_one _) rfl rfl rfl (Nat.le_of_ble_eq_true rfl) ?_
                rintro _ _ ⟨rfl, rfl⟩
                refine z_ret M_takesO_d96 rfl ?_
                refine ⟨?_, rfl⟩
                show _ = some (Value.int (zB (e3 (qnu μ) = 0)))
                first | (rw [zB_t (show e3 (qnu μ) = 0 by assumption)]; rfl) | (rw [zB_f (show ¬ e3 (qnu μ) = 0 by assumption)]; rfl)
              · refine zb M_takesO_s88 rfl ?_
                refine zcallV M_takesO_d93 k11_167 (by omega) (c_M_one _) rfl rfl rfl (Nat.le_of_ble_eq_true rfl) ?_
                rintro _ _ ⟨rfl, rfl⟩
                refine z_ret M_takesO_d96 rfl ?_
                refine ⟨?_, rfl⟩
                show _ = some (Value.int (zB (e3 (qnu μ) = 0)))
                first | (rw [zB_t (show e3 (qnu μ) = 0 by assumption)]; rfl) | (rw [zB_f (show ¬ e3 (qnu μ) = 0 by assumption)]; rfl)
          · rw [if_neg h33] at H
            by_cases h45 : qnx (μ.1 33) n q = 45
            · rw [if_pos h45] at H
              cases hr : qO (μ.1 33) n k (q + 1) with
              | inl q3 => rw [hr] at H; cases H
              | inr z =>
                obtain ⟨q3, c3, e3⟩ := z
                rw [hr] at H
                simp only [Sum.inr.injEq, Prod.mk.injEq] at H
                obtain ⟨rfl, rfl, rfl⟩ := H
                refine zb1 M_takesO_s0 rfl (vp_in_nI (by omega) (by omega)) ?_
                rw [ec]
                refine zcallV M_takesO_d12 k11_185 (by omega) (c_M_isDigit _) rfl rfl rfl (Nat.le_of_ble_eq_true rfl) ?_
                rintro _ _ ⟨rfl, rfl⟩
                refine z_eq M_takesO_d15 (tgt := 64) rfl (fun h15 => ?_) (fun h15 => absurd (zB_eq0.mpr hdg) h15)
                refine zb M_takesO_s64 rfl ?_
                rw [m1_24, m1_p, nI_1]
                refine z_cne M_takesO_d77 (tgt := 97) rfl (fun h77 => ?_) (fun h77 => absurd h77 h33)
                refine zb M_takesO_s97 rfl ?_
                refine z_cne M_takesO_d100 (tgt := 109) rfl (fun h100 => absurd h45 h100) (fun h100 => ?_)
                refine zb M_takesO_s103 rfl ?_
                refine zcallV M_takesO_d104 k11_228 (by omega) (ih (d - 1) (q + 1) _ _ _ (by omega) hr hnd) rfl rfl rfl (Nat.le_of_ble_eq_true rfl) ?_
                rintro _ _ ⟨rfl, rfl⟩
                refine zb M_takesO_s107 rfl ?_
                refine z_ret M_takesO_d108 rfl ?_
                exact ⟨rfl, rfl⟩
            · rw [if_neg h45] at H
              cases H

theorem hM_topE {g : zG} {μ : zMem} {n : Nat} (hn : μ.1 0 5 = nI n) (hn2 : n ≤ 120) {d q q2 : Nat} {c2 : qC} {e2 : qD} (hd : 43 ≤ d) (H : qTop (μ.1 33) n q = .inr (q2, c2, e2)) (hnd : ¬ qdig (qnx (μ.1 33) n q2)) : zM g d M_takesE [.ref 0] (m1 μ (nI q)) (fun v μ' => v = some (.int (e2 (qnu μ))) ∧ μ' = m1 μ (nI q2)) :=
  c_M_takesE (k := 6) (po := qO (μ.1 33) n 6) (by omega) hn hn2 (qO_ok _ n 6) (fun d q q2 c e h1 h2 h3 => c_M_takesO hn hn2 6 d q q2 c e h1 h2 h3) H hnd

set_option maxRecDepth 100000 in
set_option maxHeartbeats 4000000 in
theorem w_M_given {g : zG} {d : Nat} {μ : zMem} {n : Nat} (hd : 44 ≤ d) (hn : μ.1 0 5 = nI n) (hn2 : n ≤ 120) : ∀ (f q sz : Nat) (c : qC) (e : qD) (x1 x2 : Option Value), qLw (μ.1 33) n f q sz = .inr (c, e) → q ≤ n → zW g M_given d 5 [some (.ref 0), x1, x2] [] (m1 μ (nI q)) (fun v μ' => v = some (.int (e (qnu μ))) ∧ ∃ p, μ' = m1 μ p) := by
  intro f
  induction f with
  | zero => intro q sz c e x1 x2 H; cases H
  | succ f ih =>
    intro q sz c e x1 x2 H hq
    simp only [qLw] at H
    have hl := qLn_ok (T := μ.1 33) (sz := sz) hq
    cases hr : qLn (μ.1 33) n q sz with
    | inl q1 => rw [hr] at H; cases H
    | inr z =>
      obtain ⟨q1, c1, o1, e1⟩ := z
      rw [hr] at H hl
      dsimp only at H
      have hq1 : q1 ≤ n := hl.2.1
      have hqn : q < n := by omega
      have hlt : ¬ (m1 μ (nI q)).1 0 5 ≤ nI q := by rw [show (m1 μ (nI q)).1 0 5 = nI n from hn]; exact nI_ge hqn (by omega)
      have hnd1 : ¬ qdig (qnx (μ.1 33) n q1) := by
        by_cases z : q1 = n
        · rw [show qnx (μ.1 33) n q1 = -1 from if_neg (by omega)]; unfold qdig; decide
        · rw [if_neg z] at H
          by_cases h59 : qnx (μ.1 33) n q1 = 59
          · rw [h59]; unfold qdig; decide
          · rw [if_neg h59] at H; cases H
      unfold qLn at hr
      have ht := qTop_ok (μ.1 33) n q
      cases hr1 : qTop (μ.1 33) n q with
      | inl qa => rw [hr1] at hr; cases hr
      | inr z =>
        obtain ⟨qa, ca, ea⟩ := z
        rw [hr1] at hr ht
        dsimp only at hr
        have hqa : qa ≤ n := ht.2.1
        by_cases h63 : qnx (μ.1 33) n qa = 63
        · rw [if_pos h63] at hr
          have hqa1 : qa < n := qnx_lt (by rw [h63]; decide)
          have hnda : ¬ qdig (qnx (μ.1 33) n qa) := by rw [h63]; unfold qdig; decide
          cases hr2 : qTop (μ.1 33) n (qa + 1) with
          | inl qb => rw [hr2] at hr; cases hr
          | inr z =>
            obtain ⟨qb, cb, eb⟩ := z
            rw [hr2] at hr
            simp only [Sum.inr.injEq, Prod.mk.injEq] at hr
            obtain ⟨rfl, rfl, rfl, rfl⟩ := hr
            have he : ∃ r : qD, e = qcon (some ea) eb r ∧ ((qb = n ∧ r = fun _ => 0) ∨ (qb < n ∧ ∃ c9, qLw (μ.1 33) n f (qb + 1) (sz + (ca ++ [(63, nI (sz + ca.length + 1 + cb.length + 1))] ++ cb ++ [(59, 0)]).length) = .inr (c9, r))) := by
              by_cases z : qb = n
              · rw [if_pos z] at H
                simp only [Sum.inr.injEq, Prod.mk.injEq] at H
                exact ⟨_, H.2.symm, Or.inl ⟨z, rfl⟩⟩
              · rw [if_neg z] at H
                by_cases h59 : qnx (μ.1 33) n qb = 59
                · rw [if_pos h59] at H
                  cases hr9 : qLw (μ.1 33) n f (qb + 1) (sz + (ca ++ [(63, nI (sz + ca.length + 1 + cb.length + 1))] ++ cb ++ [(59, 0)]).length) with
                  | inl q9 => rw [hr9] at H; cases H
                  | inr w =>
                    obtain ⟨c9, e9⟩ := w
                    rw [hr9] at H
                    simp only [Sum.inr.injEq, Prod.mk.injEq] at H
                    exact ⟨e9, H.2.symm, Or.inr ⟨by omega, c9, rfl⟩⟩
                · rw [if_neg h59] at H; cases H
            obtain ⟨r, rfl, hrr⟩ := he
            refine zb M_given_s5 rfl ?_
            refine z_cge M_given_d13 (tgt := 56) rfl (fun h13 => absurd h13 hlt) (fun h13 => ?_)
            refine zb M_given_s16 rfl ?_
            refine zcallV M_given_d17 k11_231 (by omega) (hM_topE hn hn2 (by omega) hr1 hnda) rfl rfl rfl (Nat.le_of_ble_eq_true rfl) ?_
            rintro _ _ ⟨rfl, rfl⟩
            refine zb M_given_s20 rfl ?_
            refine zcallV M_given_d24 k11_234 (by omega) (c_M_isSeen_y (q := qa) (by omega) hn hn2 (by omega) h63) rfl rfl rfl (Nat.le_of_ble_eq_true rfl) ?_
            rintro _ _ ⟨rfl, rfl⟩
            refine z_ne M_given_d27 (tgt := 32) rfl (fun h27 => ?_) (fun h27 => absurd h27 (show ¬ (1 : Int32) = 0 by decide))
            refine zb M_given_s32 rfl ?_
            refine zcallV M_given_d33 k11_231 (by omega) (hM_topE hn hn2 (by omega) hr2 hnd1) rfl rfl rfl (Nat.le_of_ble_eq_true rfl) ?_
            rintro _ _ ⟨rfl, rfl⟩
            refine zb M_given_s36 rfl ?_
            refine z_eq M_given_d38 (tgt := 43) rfl (fun h38 => ?_) (fun h38 => ?_)
            · refine zb M_given_s43 rfl ?_
              rw [m1_24, m1_p, nI_1]
              rcases hrr with ⟨rfl, rfl⟩ | ⟨hlt2, c9, h9⟩
              · refine zb M_given_s5 rfl ?_
                refine z_cge M_given_d13 (tgt := 56) rfl (fun h13 => ?_) (fun h13 => absurd (show (m1 μ (nI (qb + 1))).1 0 5 ≤ nI (qb + 1) by rw [show (m1 μ (nI (qb + 1))).1 0 5 = nI qb from hn]; exact nI_le (by omega) (by omega)) h13)
                refine zb M_given_s56 rfl ?_
                refine z_ret M_given_d57 rfl ?_
                refine ⟨?_, _, rfl⟩
                show _ = some (Value.int (if ea (qnu μ) = 0 then 0 else eb (qnu μ)))
                rw [if_pos h38]
              · have h := ih (qb + 1) _ c9 r (some (.int (ea (qnu μ)))) (some (.int (eb (qnu μ)))) h9 (by omega)
                refine h.mono (fun v μ1 hq => ⟨?_, hq.2⟩)
                rw [hq.1]
                show _ = some (Value.int (if ea (qnu μ) = 0 then r (qnu μ) else eb (qnu μ)))
                rw [if_pos h38]
            · refine zb M_given_s41 rfl ?_
              refine z_ret M_given_d42 rfl ?_
              refine ⟨?_, _, rfl⟩
              show _ = some (Value.int (if ea (qnu μ) = 0 then r (qnu μ) else eb (qnu μ)))
              rw [if_neg h38]
        · rw [if_neg h63] at hr
          simp only [Sum.inr.injEq, Prod.mk.injEq] at hr
          obtain ⟨rfl, rfl, rfl, rfl⟩ := hr
          have he : e = ea := by
            by_cases z : qa = n
            · rw [if_pos z] at H
              simp only [Sum.inr.injEq, Prod.mk.injEq] at H
              exact H.2.symm
            · rw [if_neg z] at H
              by_cases h59 : qnx (μ.1 33) n qa = 59
              · rw [if_pos h59] at H
                cases hr9 : qLw (μ.1 33) n f (qa + 1) (sz + (ca ++ [(59, 0)]).length) with
                | inl q9 => rw [hr9] at H; cases H
                | inr w =>
                  rw [hr9] at H
                  simp only [Sum.inr.injEq, Prod.mk.injEq] at H
                  exact H.2.symm
              · rw [if_neg h59] at H; cases H
          subst he
          refine zb M_given_s5 rfl ?_
          refine z_cge M_given_d13 (tgt := 56) rfl (fun h13 => absurd h13 hlt) (fun h13 => ?_)
          refine zb M_given_s16 rfl ?_
          refine zcallV M_given_d17 k11_231 (by omega) (hM_topE hn hn2 (by omega) hr1 hnd1) rfl rfl rfl (Nat.le_of_ble_eq_true rfl) ?_
          rintro _ _ ⟨rfl, rfl⟩
          refine zb M_given_s20 rfl ?_
          refine zcallV M_given_d24 k11_234 (by omega) (c_M_isSeen_n (q := qa) (by omega) hn hn2 (by omega) h63) rfl rfl rfl (Nat.le_of_ble_eq_true rfl) ?_
          rintro _ _ ⟨rfl, rfl⟩
          refine z_ne M_given_d27 (tgt := 32) rfl (fun h27 => absurd rfl h27) (fun h27 => ?_)
          refine zb M_given_s30 rfl ?_
          refine z_ret M_given_d31 rfl ?_
          exact ⟨rfl, _, rfl⟩

set_option maxRecDepth 100000 in
set_option maxHeartbeats 4000000 in
theorem c_M_given {g : zG} {d : Nat} {μ : zMem} {n : Nat} (hd : 44 ≤ d) (hn : μ.1 0 5 = nI n) (hn2 : n ≤ 120) {c : qC} {e : qD} (H : qLw (μ.1 33) n 121 0 0 = .inr (c, e)) : zM g d M_given [.ref 0] μ (fun v μ' => v = some (.int (e (qnu μ))) ∧ ∃ p, μ' = m1 μ p) := by
  refine zM_of (by decide +kernel) rfl rfl (Nat.le_of_ble_eq_true rfl) rfl ?_
  refine zb M_given_s0 rfl ?_
  exact w_M_given hd hn hn2 121 0 0 c e none none H (by omega)

/-- what the law gives for a vow -/
def qden (T : Nat → Int32) (n : Nat) : qD := match qLw T n 121 0 0 with
  | .inl _ => fun _ => 0
  | .inr w => w.2
def qclamp (v : Int32) : Int32 := if v < -9 then -9 else if 9 < v then 9 else v
def qlaw (on : Int32) (T : Nat → Int32) (n : Nat) (w k d h b p : Int32) : Int32 := if on = 0 then (if k = 0 then -w else 0) else qclamp (qden T n (fun i => zget [w, k, d, h, b, p] i 0))
def lawM (μ : zMem) : Int32 → Int32 → Int32 → Int32 → Int32 → Int32 → Int32 := qlaw (μ.1 0 8) (μ.1 33) (μ.1 0 5).toNatClampNeg
def lawOK (μ : zMem) : Prop := ¬ μ.1 0 8 = 0 → ∃ (n : Nat) (c : qC) (e : qD), μ.1 0 5 = nI n ∧ n ≤ 120 ∧ qLw (μ.1 33) n 121 0 0 = .inr (c, e)
/-- nothing but what the mask names has changed -/
def zq (m : Nat → Nat → Bool) (μ μ' : zMem) : Prop := (∀ c k, m c k = false → μ'.1 c k = μ.1 c k) ∧ μ'.2 = μ.2
theorem zq.rf {m : Nat → Nat → Bool} {μ : zMem} : zq m μ μ := ⟨fun _ _ _ => rfl, rfl⟩
theorem zq.tr {m : Nat → Nat → Bool} {a b c : zMem} (h : zq m a b) (h2 : zq m b c) : zq m a c := ⟨fun x k hm => (h2.1 x k hm).trans (h.1 x k hm), h2.2.trans h.2⟩
theorem zq.put {m : Nat → Nat → Bool} {a b : zMem} {c k : Nat} {v : Int32} (h : zq m a b) (hm : m c k = true) : zq m a (zpI b c k v) := by
  refine ⟨fun x j hx => ?_, h.2⟩
  rw [← h.1 x j hx]
  simp only [zpI, zu]
  by_cases h1 : x = c
  · by_cases h2 : j = k
    · rw [h1, h2, hm] at hx; cases hx
    · simp [h2]
  · simp [h1]
theorem zq.mono {m m' : Nat → Nat → Bool} {a b : zMem} (h : zq m a b) (hm : ∀ c k, m c k = true → m' c k = true) : zq m' a b :=
  ⟨fun c k hk => h.1 c k (by cases hq : m c k with | false => rfl | true => rw [hm c k hq] at hk; cases hk), h.2⟩
def sG (c k : Nat) : Bool := (c == 0 && k == 24) || c == 38

theorem qnames {μ : zMem} {w k dd h b p : Int32} : qnu (zpI (zpI (zpI (zpI (zpI (zpI μ 38 119 w) 38 107 k) 38 100 dd) 38 104 h) 38 98 b) 38 112 p) = fun i => zget [w, k, dd, h, b, p] i 0 := by
  funext i
  unfold qnu
  match i with
  | 0 => rfl
  | 1 => rfl
  | 2 => rfl
  | 3 => rfl
  | 4 => rfl
  | 5 => rfl
  | i + 6 => rw [if_neg (by omega)]; simp [zget]

set_option maxRecDepth 100000 in
set_option maxHeartbeats 4000000 in
theorem c_M_gives {g : zG} {d : Nat} {μ : zMem} {i : Nat} {b k dd h : Int32} (hd : 45 ≤ d) (hi : i < 12) (hk : k = 0 ∨ k = 1) (hL : lawOK μ) : zM g d M_gives [.ref 0, .int (nI i), .int b, .int k, .int dd, .int h] μ (fun v μ' => v = some (.int (lawM μ (μ.1 28 i) k (if k = 0 then dd else 0) h b (μ.1 29 i))) ∧ zq sG μ μ') := by
  refine zM_of (by decide +kernel) rfl rfl (Nat.le_of_ble_eq_true rfl) rfl ?_
  have ei : (nI i).toNatClampNeg = i := nI_clamp (by omega)
  have hvi : vp_in (nI i) 12 := vp_in_nI hi (by omega)
  by_cases hon : μ.1 0 8 = 0
  · refine zb M_gives_s0 rfl ?_
    refine z_ne M_gives_d4 (tgt := 23) rfl (fun h4 => absurd hon h4) (fun h4 => ?_)
    refine zb M_gives_s7 rfl ?_
    refine z_eq M_gives_d8 (tgt := 15) rfl (fun h8 => ?_) (fun h8 => ?_)
    · refine zb1 M_gives_s15 rfl (by first | assumption | exact vp_in_nI (by omega) (by omega) | decide) ?_
      refine z_ret M_gives_d22 rfl ?_
      refine ⟨?_, zq.rf⟩
      unfold lawM qlaw
      rw [if_pos hon]
      first | (rw [if_pos h8, ei]; done) | rw [if_neg h8]
    · refine zb M_gives_s11 rfl ?_
      refine z_ret M_gives_d22 rfl ?_
      refine ⟨?_, zq.rf⟩
      unfold lawM qlaw
      rw [if_pos hon]
      first | (rw [if_pos h8, ei]; done) | rw [if_neg h8]
  · obtain ⟨n, c, e, hn, hn2, hlw⟩ := hL hon
    have hden : lawM μ (μ.1 28 i) k (if k = 0 then dd else 0) h b (μ.1 29 i) = qclamp (e (fun j => zget [μ.1 28 i, k, if k = 0 then dd else 0, h, b, μ.1 29 i] j 0)) := by
      unfold lawM qlaw
      rw [if_neg hon, hn, nI_clamp (by omega)]
      unfold qden
      rw [hlw]
    have hk1 : zB (¬ k = 0) = k := by rcases hk with rfl | rfl <;> decide
    have hgv := c_M_given (g := g) (d := d - 1) (μ := zpI (zpI (zpI (zpI (zpI (zpI μ 38 119 (μ.1 28 i)) 38 107 k) 38 100 (if k = 0 then dd else 0)) 38 104 h) 38 98 b) 38 112 (μ.1 29 i)) (n := n) (by omega) hn hn2 (c := c) (e := e) hlw
    rw [qnames] at hgv
    refine zb M_gives_s0 rfl ?_
    refine z_ne M_gives_d4 (tgt := 23) rfl (fun h4 => ?_) (fun h4 => absurd h4 hon)
    refine zb2 M_gives_s23 rfl (by first | exact hvi | (unfold vp_in; decide)) (by first | exact hvi | (unfold vp_in; decide)) ?_
    refine zcallV M_gives_d44 k11_167 (by omega) (c_M_one _) rfl rfl rfl (Nat.le_of_ble_eq_true rfl) ?_
    rintro _ _ ⟨rfl, rfl⟩
    rw [hk1]
    refine zb1 M_gives_s47 rfl (by first | exact hvi | (unfold vp_in; decide)) ?_
    refine z_eq M_gives_d55 (tgt := 62) rfl (fun h55 => ?_) (fun h55 => ?_)
    · refine zb5 M_gives_s62 rfl (by first | exact hvi | (unfold vp_in; decide)) (by first | exact hvi | (unfold vp_in; decide)) (by first | exact hvi | (unfold vp_in; decide)) (by first | exact hvi | (unfold vp_in; decide)) (by first | exact hvi | (unfold vp_in; decide)) ?_
      rw [ei]
      first | (rw [if_pos h55] at hgv hden) | (rw [if_neg h55] at hgv hden)
      refine zcallV M_gives_d96 k11_249 (by omega) (hgv) rfl rfl rfl (Nat.le_of_ble_eq_true rfl) ?_
      rintro _ _ ⟨rfl, p9, rfl⟩
      refine zb M_gives_s99 rfl ?_
      refine z_cge M_gives_d105 (tgt := 113) rfl (fun h105 => ?_) (fun h105 => ?_)
      · refine zb M_gives_s113 rfl ?_
        refine z_cle M_gives_d117 (tgt := 125) rfl (fun h117 => ?_) (fun h117 => ?_)
        · refine zb M_gives_s125 rfl ?_
          refine z_ret M_gives_d127 rfl ?_
          refine ⟨?_, ?_⟩
          · first | rw [if_pos h55, hden] | rw [if_neg h55, hden]
            unfold qclamp
            first | (rw [if_pos (by grind)]; done) | (rw [if_neg (by grind), if_pos (by grind)]; done) | rw [if_neg (by grind), if_neg (by grind)]
          · exact zq.put (zq.put (zq.put (zq.put (zq.put (zq.put (zq.put zq.rf rfl) rfl) rfl) rfl) rfl) rfl) rfl
        · refine zb M_gives_s120 rfl ?_
          refine z_ret M_gives_d127 rfl ?_
          refine ⟨?_, ?_⟩
          · first | rw [if_pos h55, hden] | rw [if_neg h55, hden]
            unfold qclamp
            first | (rw [if_pos (by grind)]; done) | (rw [if_neg (by grind), if_pos (by grind)]; done) | rw [if_neg (by grind), if_neg (by grind)]
          · exact zq.put (zq.put (zq.put (zq.put (zq.put (zq.put (zq.put zq.rf rfl) rfl) rfl) rfl) rfl) rfl) rfl
      · refine zb M_gives_s108 rfl ?_
        refine z_ret M_gives_d127 rfl ?_
        refine ⟨?_, ?_⟩
        · first | rw [if_pos h55, hden] | rw [if_neg h55, hden]
          unfold qclamp
          first | (rw [if_pos (by grind)]; done) | (rw [if_neg (by grind), if_pos (by grind)]; done) | rw [if_neg (by grind), if_neg (by grind)]
        · exact zq.put (zq.put (zq.put (zq.put (zq.put (zq.put (zq.put zq.rf rfl) rfl) rfl) rfl) rfl) rfl) rfl
    · refine zb5 M_gives_s58 rfl (by first | exact hvi | (unfold vp_in; decide)) (by first | exact hvi | (unfold vp_in; decide)) (by first | exact hvi | (unfold vp_in; decide)) (by first | exact hvi | (unfold vp_in; decide)) (by first | exact hvi | (unfold vp_in; decide)) ?_
      rw [ei]
      first | (rw [if_pos h55] at hgv hden) | (rw [if_neg h55] at hgv hden)
      refine zcallV M_gives_d96 k11_249 (by omega) (hgv) rfl rfl rfl (Nat.le_of_ble_eq_true rfl) ?_
      rintro _ _ ⟨rfl, p9, rfl⟩
      refine zb M_gives_s99 rfl ?_
      refine z_cge M_gives_d105 (tgt := 113) rfl (fun h105 => ?_) (fun h105 => ?_)
      · refine zb M_gives_s113 rfl ?_
        refine z_cle M_gives_d117 (tgt := 125) rfl (fun h117 => ?_) (fun h117 => ?_)
        · refine zb M_gives_s125 rfl ?_
          refine z_ret M_gives_d127 rfl ?_
          refine ⟨?_, ?_⟩
          · first | rw [if_pos h55, hden] | rw [if_neg h55, hden]
            unfold qclamp
            first | (rw [if_pos (by grind)]; done) | (rw [if_neg (by grind), if_pos (by grind)]; done) | rw [if_neg (by grind), if_neg (by grind)]
          · exact zq.put (zq.put (zq.put (zq.put (zq.put (zq.put (zq.put zq.rf rfl) rfl) rfl) rfl) rfl) rfl) rfl
        · refine zb M_gives_s120 rfl ?_
          refine z_ret M_gives_d127 rfl ?_
          refine ⟨?_, ?_⟩
          · first | rw [if_pos h55, hden] | rw [if_neg h55, hden]
            unfold qclamp
            first | (rw [if_pos (by grind)]; done) | (rw [if_neg (by grind), if_pos (by grind)]; done) | rw [if_neg (by grind), if_neg (by grind)]
          · exact zq.put (zq.put (zq.put (zq.put (zq.put (zq.put (zq.put zq.rf rfl) rfl) rfl) rfl) rfl) rfl) rfl
      · refine zb M_gives_s108 rfl ?_
        refine z_ret M_gives_d127 rfl ?_
        refine ⟨?_, ?_⟩
        · first | rw [if_pos h55, hden] | rw [if_neg h55, hden]
          unfold qclamp
          first | (rw [if_pos (by grind)]; done) | (rw [if_neg (by grind), if_pos (by grind)]; done) | rw [if_neg (by grind), if_neg (by grind)]
        · exact zq.put (zq.put (zq.put (zq.put (zq.put (zq.put (zq.put zq.rf rfl) rfl) rfl) rfl) rfl) rfl) rfl
