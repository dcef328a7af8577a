/-! the reference reads an O, a line, the text -/
theorem qnm_iff (c : Int32) : (c = 119 ∨ c = 107 ∨ c = 100 ∨ c = 104 ∨ c = 98 ∨ c = 112) ↔ ∃ i, qnm c = some i := by
  unfold qnm
  constructor
  · rintro (rfl | rfl | rfl | rfl | rfl | rfl) <;> exact ⟨_, rfl⟩
  · rintro ⟨i, h⟩
    repeat' (split at h)
    all_goals first | (cases h; done) | simp_all
theorem qnm_none {c : Int32} (h : qnm c = none) : ¬ (c = 119 ∨ c = 107 ∨ c = 100 ∨ c = 104 ∨ c = 98 ∨ c = 112) := by
  rw [qnm_iff]
  rintro ⟨i, hi⟩
  rw [h] at hi
  cases hi

set_option maxRecDepth 100000 in
set_option maxHeartbeats 4000000 in
theorem w_M_readsO_dig {g : zG} {d : Nat} {μ : zMem} {n : Nat} {o c : Int32} {Q : Option Value → zMem → Prop} (hd : 2 ≤ d) (hn : μ.1 0 4 = nI n) (hn2 : n ≤ 120) : ∀ (j i q : Nat) (v : Int32), i + j = 4 → q ≤ n → (Q none (m3 μ (nI (qnum (μ.1 32) n j q v).1) o 1)) → zW g M_readsO d 23 [some (.ref 0), some (.int c), some (.int (nI i))] [] (m3 μ (nI q) o 1) Q := by
  intro j
  induction j with
  | zero =>
    intro i q v hi hq hQ
    have e4 : i = 4 := by omega
    subst e4
    refine zb M_readsO_s23 rfl ?_
    refine z_cge M_readsO_d25 (tgt := 55) rfl (fun h25 => ?_) (fun h25 => absurd (show (4 : Int32) ≤ nI 4 by decide) h25)
    refine z_retV M_readsO_d55 rfl ?_
    exact hQ
  | succ j ih =>
    intro i q v hi hq hQ
    have hlt : ¬ (4 : Int32) ≤ nI i := nI_ge (b := 4) (by omega) (by decide)
    simp only [qnum] at hQ
    by_cases hdg : qdig (qnx (μ.1 32) n q)
    · rw [if_pos hdg] at hQ
      have hq1 : q < n := qnx_lt (fun e => by rw [e] at hdg; exact absurd hdg.1 (by decide))
      refine zb M_readsO_s23 rfl ?_
      refine z_cge M_readsO_d25 (tgt := 55) rfl (fun h25 => absurd h25 hlt) (fun h25 => ?_)
      refine zb M_readsO_s28 rfl ?_
      refine zcallV M_readsO_d30 k11_181 (by omega) (c_M_next hn hn2 (by omega)) rfl rfl rfl (Nat.le_of_ble_eq_true rfl) ?_
      rintro _ _ ⟨rfl, rfl⟩
      refine zcallV M_readsO_d33 k11_185 (by omega) (c_M_isDigit _) rfl rfl rfl (Nat.le_of_ble_eq_true rfl) ?_
      rintro _ _ ⟨rfl, rfl⟩
      refine z_eq M_readsO_d36 (tgt := 55) rfl (fun h36 => absurd hdg (zB_eq0.mp h36)) (fun h36 => ?_)
      refine zb M_readsO_s39 rfl ?_
      rw [m3_24, m3_p, nI_1, nI_1]
      exact ih (i + 1) (q + 1) _ (by omega) (by omega) hQ
    · rw [if_neg hdg] at hQ
      refine zb M_readsO_s23 rfl ?_
      refine z_cge M_readsO_d25 (tgt := 55) rfl (fun h25 => absurd h25 hlt) (fun h25 => ?_)
      refine zb M_readsO_s28 rfl ?_
      refine zcallV M_readsO_d30 k11_181 (by omega) (c_M_next hn hn2 (by omega)) rfl rfl rfl (Nat.le_of_ble_eq_true rfl) ?_
      rintro _ _ ⟨rfl, rfl⟩
      refine zcallV M_readsO_d33 k11_185 (by omega) (c_M_isDigit _) rfl rfl rfl (Nat.le_of_ble_eq_true rfl) ?_
      rintro _ _ ⟨rfl, rfl⟩
      refine z_eq M_readsO_d36 (tgt := 55) rfl (fun h36 => ?_) (fun h36 => absurd (zB_eq0.mpr hdg) h36)
      refine z_retV M_readsO_d55 rfl ?_
      exact hQ

set_option maxRecDepth 100000 in
set_option maxHeartbeats 4000000 in
theorem c_M_readsO {g : zG} {μ : zMem} {n : Nat} (hn : μ.1 0 4 = nI n) (hn2 : n ≤ 120) : ∀ (k : Nat), k ≤ 6 → ∀ (d q : Nat), 2 + 6 * k ≤ d → q ≤ n → zM g d M_readsO [.ref 0] (m3 μ (nI q) (nI (6 - k)) 1) (fun v μ' => v = none ∧ μ' = m3 μ (nI (qpos (qO (μ.1 32) n k q))) (nI (6 - (k))) (qfl (qO (μ.1 32) n k q))) := by
  intro k
  induction k with
  | zero =>
    intro hk6 d q hd hq
    refine zM_of (by decide +kernel) rfl rfl (Nat.le_of_ble_eq_true rfl) rfl ?_
    simp only [qO]
    by_cases hdg : qdig (qnx (μ.1 32) n q)
    · rw [if_pos hdg]
      refine zb M_readsO_s0 rfl ?_
      refine z_ne M_readsO_d4 (tgt := 8) rfl (fun h4 => ?_) (fun h4 => absurd h4 (show ¬ (1 : Int32) = 0 by decide))
      refine zb M_readsO_s8 rfl ?_
      refine zcallV M_readsO_d9 k11_181 (by omega) (c_M_next hn hn2 (by omega)) rfl rfl rfl (Nat.le_of_ble_eq_true rfl) ?_
      rintro _ _ ⟨rfl, rfl⟩
      refine zb M_readsO_s12 rfl ?_
      refine zcallV M_readsO_d15 k11_185 (by omega) (c_M_isDigit _) rfl rfl rfl (Nat.le_of_ble_eq_true rfl) ?_
      rintro _ _ ⟨rfl, rfl⟩
      refine z_eq M_readsO_d18 (tgt := 56) rfl (fun h18 => absurd hdg (zB_eq0.mp h18)) (fun h18 => ?_)
      refine zb M_readsO_s21 rfl ?_
      exact w_M_readsO_dig (by omega) hn hn2 4 0 q 0 (by omega) hq ⟨rfl, rfl⟩
    · rw [if_neg hdg]
      cases hnm : qnm (qnx (μ.1 32) n q) with
      | some i =>
        have hnmP := (qnm_iff _).mpr ⟨i, hnm⟩
        refine zb M_readsO_s0 rfl ?_
        refine z_ne M_readsO_d4 (tgt := 8) rfl (fun h4 => ?_) (fun h4 => absurd h4 (show ¬ (1 : Int32) = 0 by decide))
        refine zb M_readsO_s8 rfl ?_
        refine zcallV M_readsO_d9 k11_181 (by omega) (c_M_next hn hn2 (by omega)) rfl rfl rfl (Nat.le_of_ble_eq_true rfl) ?_
        rintro _ _ ⟨rfl, rfl⟩
        refine zb M_readsO_s12 rfl ?_
        refine zcallV M_readsO_d15 k11_185 (by omega) (c_M_isDigit _) rfl rfl rfl (Nat.le_of_ble_eq_true rfl) ?_
        rintro _ _ ⟨rfl, rfl⟩
        refine z_eq M_readsO_d18 (tgt := 56) rfl (fun h18 => ?_) (fun h18 => absurd (zB_eq0.mpr hdg) h18)
        refine zb M_readsO_s56 rfl ?_
        refine zcallV M_readsO_d58 k11_188 (by omega) (c_M_isName _) rfl rfl rfl (Nat.le_of_ble_eq_true rfl) ?_
        rintro _ _ ⟨rfl, rfl⟩
        refine z_eq M_readsO_d61 (tgt := 75) rfl (fun h61 => absurd hnmP (zB_eq0.mp h61)) (fun h61 => ?_)
        refine zb M_readsO_s64 rfl ?_
        refine z_retV M_readsO_d74 rfl ?_
        rw [m3_24, m3_p, nI_1]
        exact ⟨rfl, rfl⟩
      | none =>
        have hnmP := qnm_none hnm
        refine zb M_readsO_s0 rfl ?_
        refine z_ne M_readsO_d4 (tgt := 8) rfl (fun h4 => ?_) (fun h4 => absurd h4 (show ¬ (1 : Int32) = 0 by decide))
        refine zb M_readsO_s8 rfl ?_
        refine zcallV M_readsO_d9 k11_181 (by omega) (c_M_next hn hn2 (by omega)) rfl rfl rfl (Nat.le_of_ble_eq_true rfl) ?_
        rintro _ _ ⟨rfl, rfl⟩
        refine zb M_readsO_s12 rfl ?_
        refine zcallV M_readsO_d15 k11_185 (by omega) (c_M_isDigit _) rfl rfl rfl (Nat.le_of_ble_eq_true rfl) ?_
        rintro _ _ ⟨rfl, rfl⟩
        refine z_eq M_readsO_d18 (tgt := 56) rfl (fun h18 => ?_) (fun h18 => absurd (zB_eq0.mpr hdg) h18)
        refine zb M_readsO_s56 rfl ?_
        refine zcallV M_readsO_d58 k11_188 (by omega) (c_M_isName _) rfl rfl rfl (Nat.le_of_ble_eq_true rfl) ?_
        rintro _ _ ⟨rfl, rfl⟩
        refine z_eq M_readsO_d61 (tgt := 75) rfl (fun h61 => ?_) (fun h61 => absurd (zB_eq0.mpr hnmP) h61)
        refine zb M_readsO_s75 rfl ?_
        refine z_ceq M_readsO_d78 (tgt := 93) rfl (fun h78 => ?_) (fun h78 => ?_)
        · refine zb M_readsO_s93 rfl ?_
          refine z_cne M_readsO_d99 (tgt := 108) rfl (fun h99 => absurd (show nI (6 - 0) = 6 by decide) h99) (fun h99 => ?_)
          refine zb1 M_readsO_s102 rfl (by first | assumption | exact vp_in_nI (by omega) (by omega) | decide) ?_
          refine z_retV M_readsO_d107 rfl ?_
          rw [m3_26]
          exact ⟨rfl, rfl⟩
        · refine zb M_readsO_s81 rfl ?_
          refine z_ceq M_readsO_d84 (tgt := 93) rfl (fun h84 => ?_) (fun h84 => ?_)
          · refine zb M_readsO_s93 rfl ?_
            refine z_cne M_readsO_d99 (tgt := 108) rfl (fun h99 => absurd (show nI (6 - 0) = 6 by decide) h99) (fun h99 => ?_)
            refine zb1 M_readsO_s102 rfl (by first | assumption | exact vp_in_nI (by omega) (by omega) | decide) ?_
            refine z_retV M_readsO_d107 rfl ?_
            rw [m3_26]
            exact ⟨rfl, rfl⟩
          · refine zb M_readsO_s87 rfl ?_
            refine z_cne M_readsO_d90 (tgt := 102) rfl (fun h90 => ?_) (fun h90 => ?_)
            · refine zb1 M_readsO_s102 rfl (by first | assumption | exact vp_in_nI (by omega) (by omega) | decide) ?_
              refine z_retV M_readsO_d107 rfl ?_
              rw [m3_26]
              exact ⟨rfl, rfl⟩
            · refine zb M_readsO_s93 rfl ?_
              refine z_cne M_readsO_d99 (tgt := 108) rfl (fun h99 => absurd (show nI (6 - 0) = 6 by decide) h99) (fun h99 => ?_)
              refine zb1 M_readsO_s102 rfl (by first | assumption | exact vp_in_nI (by omega) (by omega) | decide) ?_
              refine z_retV M_readsO_d107 rfl ?_
              rw [m3_26]
              exact ⟨rfl, rfl⟩
  | succ k ih =>
    intro hk6 d q hd hq
    refine zM_of (by decide +kernel) rfl rfl (Nat.le_of_ble_eq_true rfl) rfl ?_
    simp only [qO]
    by_cases hdg : qdig (qnx (μ.1 32) n q)
    · rw [if_pos hdg]
      refine zb M_readsO_s0 rfl ?_
      refine z_ne M_readsO_d4 (tgt := 8) rfl (fun h4 => ?_) (fun h4 => absurd h4 (show ¬ (1 : Int32) = 0 by decide))
      refine zb M_readsO_s8 rfl ?_
      refine zcallV M_readsO_d9 k11_181 (by omega) (c_M_next hn hn2 (by omega)) rfl rfl rfl (Nat.le_of_ble_eq_true rfl) ?_
      rintro _ _ ⟨rfl, rfl⟩
      refine zb M_readsO_s12 rfl ?_
      refine zcallV M_readsO_d15 k11_185 (by omega) (c_M_isDigit _) rfl rfl rfl (Nat.le_of_ble_eq_true rfl) ?_
      rintro _ _ ⟨rfl, rfl⟩
      refine z_eq M_readsO_d18 (tgt := 56) rfl (fun h18 => absurd hdg (zB_eq0.mp h18)) (fun h18 => ?_)
      refine zb M_readsO_s21 rfl ?_
      exact w_M_readsO_dig (by omega) hn hn2 4 0 q 0 (by omega) hq ⟨rfl, rfl⟩
    · rw [if_neg hdg]
      cases hnm : qnm (qnx (μ.1 32) n q) with
      | some i =>
        have hnmP := (qnm_iff _).mpr ⟨i, hnm⟩
        refine zb M_readsO_s0 rfl ?_
        refine z_ne M_readsO_d4 (tgt := 8) rfl (fun h4 => ?_) (fun h4 => absurd h4 (show ¬ (1 : Int32) = 0 by decide))
        refine zb M_readsO_s8 rfl ?_
        refine zcallV M_readsO_d9 k11_181 (by omega) (c_M_next hn hn2 (by omega)) rfl rfl rfl (Nat.le_of_ble_eq_true rfl) ?_
        rintro _ _ ⟨rfl, rfl⟩
        refine zb M_readsO_s12 rfl ?_
        refine zcallV M_readsO_d15 k11_185 (by omega) (c_M_isDigit _) rfl rfl rfl (Nat.le_of_ble_eq_true rfl) ?_
        rintro _ _ ⟨rfl, rfl⟩
        refine z_eq M_readsO_d18 (tgt := 56) rfl (fun h18 => ?_) (fun h18 => absurd (zB_eq0.mpr hdg) h18)
        refine zb M_readsO_s56 rfl ?_
        refine zcallV M_readsO_d58 k11_188 (by omega) (c_M_isName _) rfl rfl rfl (Nat.le_of_ble_eq_true rfl) ?_
        rintro _ _ ⟨rfl, rfl⟩
        refine z_eq M_readsO_d61 (tgt := 75) rfl (fun h61 => absurd hnmP (zB_eq0.mp h61)) (fun h61 => ?_)
        refine zb M_readsO_s64 rfl ?_
        refine z_retV M_readsO_d74 rfl ?_
        rw [m3_24, m3_p, nI_1]
        exact ⟨rfl, rfl⟩
      | none =>
        have hnmP := qnm_none hnm
        have hne : ¬ nI (6 - (k + 1)) = 6 := fun e => by
          have e := (nI_eq (a := 6 - (k + 1)) (b := 6) (by omega) (by decide)).mp e
          omega
        have ho1 : nI (6 - (k + 1)) + 1 = nI (6 - k) := by rw [nI_1]; congr 1; omega
        have ho2 : nI (6 - k) - 1 = nI (6 - (k + 1)) := by rw [← ho1]; exact Int32.add_sub_cancel _ _
        have ihk := ih (by omega)
        have hOk : ∀ d q o, 2 + 6 * k ≤ d → q ≤ n → o = nI (6 - k) → zM g d M_readsO [.ref 0] (m3 μ (nI q) o 1) (fun v μ' => v = none ∧ μ' = m3 μ (nI (qpos (qO (μ.1 32) n k q))) o (qfl (qO (μ.1 32) n k q))) := fun d q o h1 h2 h3 => by rw [h3]; exact ihk d q h1 h2
        dsimp only
        by_cases h40 : qnx (μ.1 32) n q = 40
        · rw [if_pos h40]
          have hq1 : q < n := qnx_lt (by rw [h40]; decide)
          have hin := (qE_ok (T := μ.1 32) (qO_ok (μ.1 32) n k)).2.2.2.2 (q + 1)
          cases hr : qE (μ.1 32) n (qO (μ.1 32) n k) (q + 1) with
          | inl q2 =>
            rw [hr] at hin
            refine zb M_readsO_s0 rfl ?_
            refine z_ne M_readsO_d4 (tgt := 8) rfl (fun h4 => ?_) (fun h4 => absurd h4 (show ¬ (1 : Int32) = 0 by decide))
            refine zb M_readsO_s8 rfl ?_
            refine zcallV M_readsO_d9 k11_181 (by omega) (c_M_next hn hn2 (by omega)) rfl rfl rfl (Nat.le_of_ble_eq_true rfl) ?_
            rintro _ _ ⟨rfl, rfl⟩
            refine zb M_readsO_s12 rfl ?_
            refine zcallV M_readsO_d15 k11_185 (by omega) (c_M_isDigit _) rfl rfl rfl (Nat.le_of_ble_eq_true rfl) ?_
            rintro _ _ ⟨rfl, rfl⟩
            refine z_eq M_readsO_d18 (tgt := 56) rfl (fun h18 => ?_) (fun h18 => absurd (zB_eq0.mpr hdg) h18)
            refine zb M_readsO_s56 rfl ?_
            refine zcallV M_readsO_d58 k11_188 (by omega) (c_M_isName _) rfl rfl rfl (Nat.le_of_ble_eq_true rfl) ?_
            rintro _ _ ⟨rfl, rfl⟩
            refine z_eq M_readsO_d61 (tgt := 75) rfl (fun h61 => ?_) (fun h61 => absurd (zB_eq0.mpr hnmP) h61)
            refine zb M_readsO_s75 rfl ?_
            refine z_ceq M_readsO_d78 (tgt := 93) rfl (fun h78 => absurd (h78.symm.trans h40) (by decide)) (fun h78 => ?_)
            refine zb M_readsO_s81 rfl ?_
            refine z_ceq M_readsO_d84 (tgt := 93) rfl (fun h84 => absurd (h84.symm.trans h40) (by decide)) (fun h84 => ?_)
            refine zb M_readsO_s87 rfl ?_
            refine z_cne M_readsO_d90 (tgt := 102) rfl (fun h90 => absurd h40 h90) (fun h90 => ?_)
            refine zb M_readsO_s93 rfl ?_
            refine z_cne M_readsO_d99 (tgt := 108) rfl (fun h99 => ?_) (fun h99 => absurd h99 hne)
            refine zb M_readsO_s108 rfl ?_
            rw [m3_24, m3_p, nI_1, m3_25, m3_o, ho1]
            refine z_cne M_readsO_d131 (tgt := 162) rfl (fun h131 => absurd h40 h131) (fun h131 => ?_)
            refine zb M_readsO_s134 rfl ?_
            refine zcallV M_readsO_d135 k11_194 (by omega) (c_M_readsE (by omega) hn hn2 (qO_ok _ n k) hOk (q + 1) (by omega)) rfl rfl rfl (Nat.le_of_ble_eq_true rfl) ?_
            rintro _ _ ⟨rfl, rfl⟩
            rw [hr]
            refine zb M_readsO_s138 rfl ?_
            refine z_eq M_readsO_d142 (tgt := 166) rfl (fun h142 => ?_) (fun h142 => absurd rfl h142)
            refine zb M_readsO_s166 rfl ?_
            refine z_retV M_readsO_d176 rfl ?_
            rw [m3_25, m3_o, ho2]
            exact ⟨rfl, rfl⟩
          | inr z =>
            obtain ⟨q2, c2, e2⟩ := z
            rw [hr] at hin
            dsimp only
            have hq2 : q2 ≤ n := hin.2.1
            by_cases h41 : qnx (μ.1 32) n q2 = 41
            · rw [if_pos h41]
              refine zb M_readsO_s0 rfl ?_
              refine z_ne M_readsO_d4 (tgt := 8) rfl (fun h4 => ?_) (fun h4 => absurd h4 (show ¬ (1 : Int32) = 0 by decide))
              refine zb M_readsO_s8 rfl ?_
              refine zcallV M_readsO_d9 k11_181 (by omega) (c_M_next hn hn2 (by omega)) rfl rfl rfl (Nat.le_of_ble_eq_true rfl) ?_
              rintro _ _ ⟨rfl, rfl⟩
              refine zb M_readsO_s12 rfl ?_
              refine zcallV M_readsO_d15 k11_185 (by omega) (c_M_isDigit _) rfl rfl rfl (Nat.le_of_ble_eq_true rfl) ?_
              rintro _ _ ⟨rfl, rfl⟩
              refine z_eq M_readsO_d18 (tgt := 56) rfl (fun h18 => ?_) (fun h18 => absurd (zB_eq0.mpr hdg) h18)
              refine zb M_readsO_s56 rfl ?_
              refine zcallV M_readsO_d58 k11_188 (by omega) (c_M_isName _) rfl rfl rfl (Nat.le_of_ble_eq_true rfl) ?_
              rintro _ _ ⟨rfl, rfl⟩
              refine z_eq M_readsO_d61 (tgt := 75) rfl (fun h61 => ?_) (fun h61 => absurd (zB_eq0.mpr hnmP) h61)
              refine zb M_readsO_s75 rfl ?_
              refine z_ceq M_readsO_d78 (tgt := 93) rfl (fun h78 => absurd (h78.symm.trans h40) (by decide)) (fun h78 => ?_)
              refine zb M_readsO_s81 rfl ?_
              refine z_ceq M_readsO_d84 (tgt := 93) rfl (fun h84 => absurd (h84.symm.trans h40) (by decide)) (fun h84 => ?_)
              refine zb M_readsO_s87 rfl ?_
              refine z_cne M_readsO_d90 (tgt := 102) rfl (fun h90 => absurd h40 h90) (fun h90 => ?_)
              refine zb M_readsO_s93 rfl ?_
              refine z_cne M_readsO_d99 (tgt := 108) rfl (fun h99 => ?_) (fun h99 => absurd h99 hne)
              refine zb M_readsO_s108 rfl ?_
              rw [m3_24, m3_p, nI_1, m3_25, m3_o, ho1]
              refine z_cne M_readsO_d131 (tgt := 162) rfl (fun h131 => absurd h40 h131) (fun h131 => ?_)
              refine zb M_readsO_s134 rfl ?_
              refine zcallV M_readsO_d135 k11_194 (by omega) (c_M_readsE (by omega) hn hn2 (qO_ok _ n k) hOk (q + 1) (by omega)) rfl rfl rfl (Nat.le_of_ble_eq_true rfl) ?_
              rintro _ _ ⟨rfl, rfl⟩
              rw [hr]
              refine zb M_readsO_s138 rfl ?_
              refine z_eq M_readsO_d142 (tgt := 166) rfl (fun h142 => absurd h142 (show ¬ (1 : Int32) = 0 by decide)) (fun h142 => ?_)
              refine zb M_readsO_s145 rfl ?_
              refine zcallV M_readsO_d148 k11_197 (by omega) (c_M_isNext_y (q := q2) (by omega) hn hn2 (by omega) h41) rfl rfl rfl (Nat.le_of_ble_eq_true rfl) ?_
              rintro _ _ ⟨rfl, rfl⟩
              refine z_ne M_readsO_d151 (tgt := 166) rfl (fun h151 => ?_) (fun h151 => absurd h151 (show ¬ (1 : Int32) = 0 by decide))
              refine zb M_readsO_s166 rfl ?_
              refine z_retV M_readsO_d176 rfl ?_
              rw [m3_25, m3_o, ho2]
              exact ⟨rfl, rfl⟩
            · rw [if_neg h41]
              refine zb M_readsO_s0 rfl ?_
              refine z_ne M_readsO_d4 (tgt := 8) rfl (fun h4 => ?_) (fun h4 => absurd h4 (show ¬ (1 : Int32) = 0 by decide))
              refine zb M_readsO_s8 rfl ?_
              refine zcallV M_readsO_d9 k11_181 (by omega) (c_M_next hn hn2 (by omega)) rfl rfl rfl (Nat.le_of_ble_eq_true rfl) ?_
              rintro _ _ ⟨rfl, rfl⟩
              refine zb M_readsO_s12 rfl ?_
              refine zcallV M_readsO_d15 k11_185 (by omega) (c_M_isDigit _) rfl rfl rfl (Nat.le_of_ble_eq_true rfl) ?_
              rintro _ _ ⟨rfl, rfl⟩
              refine z_eq M_readsO_d18 (tgt := 56) rfl (fun h18 => ?_) (fun h18 => absurd (zB_eq0.mpr hdg) h18)
              refine zb M_readsO_s56 rfl ?_
              refine zcallV M_readsO_d58 k11_188 (by omega) (c_M_isName _) rfl rfl rfl (Nat.le_of_ble_eq_true rfl) ?_
              rintro _ _ ⟨rfl, rfl⟩
              refine z_eq M_readsO_d61 (tgt := 75) rfl (fun h61 => ?_) (fun h61 => absurd (zB_eq0.mpr hnmP) h61)
              refine zb M_readsO_s75 rfl ?_
              refine z_ceq M_readsO_d78 (tgt := 93) rfl (fun h78 => absurd (h78.symm.trans h40) (by decide)) (fun h78 => ?_)
              refine zb M_readsO_s81 rfl ?_
              refine z_ceq M_readsO_d84 (tgt := 93) rfl (fun h84 => absurd (h84.symm.trans h40) (by decide)) (fun h84 => ?_)
              refine zb M_readsO_s87 rfl ?_
              refine z_cne M_readsO_d90 (tgt := 102) rfl (fun h90 => absurd h40 h90) (fun h90 => ?_)
              refine zb M_readsO_s93 rfl ?_
              refine z_cne M_readsO_d99 (tgt := 108) rfl (fun h99 => ?_) (fun h99 => absurd h99 hne)
              refine zb M_readsO_s108 rfl ?_
              rw [m3_24, m3_p, nI_1, m3_25, m3_o, ho1]
              refine z_cne M_readsO_d131 (tgt := 162) rfl (fun h131 => absurd h40 h131) (fun h131 => ?_)
              refine zb M_readsO_s134 rfl ?_
              refine zcallV M_readsO_d135 k11_194 (by omega) (c_M_readsE (by omega) hn hn2 (qO_ok _ n k) hOk (q + 1) (by omega)) rfl rfl rfl (Nat.le_of_ble_eq_true rfl) ?_
              rintro _ _ ⟨rfl, rfl⟩
              rw [hr]
              refine zb M_readsO_s138 rfl ?_
              refine z_eq M_readsO_d142 (tgt := 166) rfl (fun h142 => absurd h142 (show ¬ (1 : Int32) = 0 by decide)) (fun h142 => ?_)
              refine zb M_readsO_s145 rfl ?_
              refine zcallV M_readsO_d148 k11_197 (by omega) (c_M_isNext_n (q := q2) (by omega) hn hn2 (by omega) h41) rfl rfl rfl (Nat.le_of_ble_eq_true rfl) ?_
              rintro _ _ ⟨rfl, rfl⟩
              refine z_ne M_readsO_d151 (tgt := 166) rfl (fun h151 => absurd rfl h151) (fun h151 => ?_)
              refine zb1 M_readsO_s154 rfl (by first | assumption | exact vp_in_nI (by omega) (by omega) | decide) ?_
              refine z_retV M_readsO_d176 rfl ?_
              rw [m3_26]
              rw [m3_25, m3_o, ho2]
              exact ⟨rfl, rfl⟩
        · rw [if_neg h40]
          by_cases h33 : qnx (μ.1 32) n q = 33
          · rw [if_pos h33]
            have hq1 : q < n := qnx_lt (by rw [h33]; decide)
            cases hr : qO (μ.1 32) n k (q + 1) with
            | inl q2 =>
              refine zb M_readsO_s0 rfl ?_
              refine z_ne M_readsO_d4 (tgt := 8) rfl (fun h4 => ?_) (fun h4 => absurd h4 (show ¬ (1 : Int32) = 0 by decide))
              refine zb M_readsO_s8 rfl ?_
              refine zcallV M_readsO_d9 k11_181 (by omega) (c_M_next hn hn2 (by omega)) rfl rfl rfl (Nat.le_of_ble_eq_true rfl) ?_
              rintro _ _ ⟨rfl, rfl⟩
              refine zb M_readsO_s12 rfl ?_
              refine zcallV M_readsO_d15 k11_185 (by omega) (c_M_isDigit _) rfl rfl rfl (Nat.le_of_ble_eq_true rfl) ?_
              rintro _ _ ⟨rfl, rfl⟩
              refine z_eq M_readsO_d18 (tgt := 56) rfl (fun h18 => ?_) (fun h18 => absurd (zB_eq0.mpr hdg) h18)
              refine zb M_readsO_s56 rfl ?_
              refine zcallV M_readsO_d58 k11_188 (by omega) (c_M_isName _) rfl rfl rfl (Nat.le_of_ble_eq_true rfl) ?_
              rintro _ _ ⟨rfl, rfl⟩
              refine z_eq M_readsO_d61 (tgt := 75) rfl (fun h61 => ?_) (fun h61 => absurd (zB_eq0.mpr hnmP) h61)
              refine zb M_readsO_s75 rfl ?_
              refine z_ceq M_readsO_d78 (tgt := 93) rfl (fun h78 => ?_) (fun h78 => absurd h33 h78)
              refine zb M_readsO_s93 rfl ?_
              refine z_cne M_readsO_d99 (tgt := 108) rfl (fun h99 => ?_) (fun h99 => absurd h99 hne)
              refine zb M_readsO_s108 rfl ?_
              rw [m3_24, m3_p, nI_1, m3_25, m3_o, ho1]
              refine z_cne M_readsO_d131 (tgt := 162) rfl (fun h131 => ?_) (fun h131 => absurd h131 h40)
              refine zb M_readsO_s162 rfl ?_
              refine zcallV M_readsO_d163 k11_201 (by omega) (ihk (d - 1) (q + 1) (by omega) (by omega)) rfl rfl rfl (Nat.le_of_ble_eq_true rfl) ?_
              rintro _ _ ⟨rfl, rfl⟩
              rw [hr]
              refine zb M_readsO_s166 rfl ?_
              refine z_retV M_readsO_d176 rfl ?_
              rw [m3_25, m3_o, ho2]
              exact ⟨rfl, rfl⟩
            | inr z =>
              obtain ⟨q2, c2, e2⟩ := z
              refine zb M_readsO_s0 rfl ?_
              refine z_ne M_readsO_d4 (tgt := 8) rfl (fun h4 => ?_) (fun h4 => absurd h4 (show ¬ (1 : Int32) = 0 by decide))
              refine zb M_readsO_s8 rfl ?_
              refine zcallV M_readsO_d9 k11_181 (by omega) (c_M_next hn hn2 (by omega)) rfl rfl rfl (Nat.le_of_ble_eq_true rfl) ?_
              rintro _ _ ⟨rfl, rfl⟩
              refine zb M_readsO_s12 rfl ?_
              refine zcallV M_readsO_d15 k11_185 (by omega) (c_M_isDigit _) rfl rfl rfl (Nat.le_of_ble_eq_true rfl) ?_
              rintro _ _ ⟨rfl, rfl⟩
              refine z_eq M_readsO_d18 (tgt := 56) rfl (fun h18 => ?_) (fun h18 => absurd (zB_eq0.mpr hdg) h18)
              refine zb M_readsO_s56 rfl ?_
              refine zcallV M_readsO_d58 k11_188 (by omega) (c_M_isName _) rfl rfl rfl (Nat.le_of_ble_eq_true rfl) ?_
              rintro _ _ ⟨rfl, rfl⟩
              refine z_eq M_readsO_d61 (tgt := 75) rfl (fun h61 => ?_) (fun h61 => absurd (zB_eq0.mpr hnmP) h61)
              refine zb M_readsO_s75 rfl ?_
              refine z_ceq M_readsO_d78 (tgt := 93) rfl (fun h78 => ?_) (fun h78 => absurd h33 h78)
              refine zb M_readsO_s93 rfl ?_
              refine z_cne M_readsO_d99 (tgt := 108) rfl (fun h99 => ?_) (fun h99 => absurd h99 hne)
              refine zb M_readsO_s108 rfl ?_
              rw [m3_24, m3_p, nI_1, m3_25, m3_o, ho1]
              refine z_cne M_readsO_d131 (tgt := 162) rfl (fun h131 => ?_) (fun h131 => absurd h131 h40)
              refine zb M_readsO_s162 rfl ?_
              refine zcallV M_readsO_d163 k11_201 (by omega) (ihk (d - 1) (q + 1) (by omega) (by omega)) rfl rfl rfl (Nat.le_of_ble_eq_true rfl) ?_
              rintro _ _ ⟨rfl, rfl⟩
              rw [hr]
              refine zb M_readsO_s166 rfl ?_
              refine z_retV M_readsO_d176 rfl ?_
              rw [m3_25, m3_o, ho2]
              exact ⟨rfl, rfl⟩
          · rw [if_neg h33]
            by_cases h45 : qnx (μ.1 32) n q = 45
            · rw [if_pos h45]
              have hq1 : q < n := qnx_lt (by rw [h45]; decide)
              cases hr : qO (μ.1 32) n k (q + 1) with
              | inl q2 =>
                refine zb M_readsO_s0 rfl ?_
                refine z_ne M_readsO_d4 (tgt := 8) rfl (fun h4 => ?_) (fun h4 => absurd h4 (show ¬ (1 : Int32) = 0 by decide))
                refine zb M_readsO_s8 rfl ?_
                refine zcallV M_readsO_d9 k11_181 (by omega) (c_M_next hn hn2 (by omega)) rfl rfl rfl (Nat.le_of_ble_eq_true rfl) ?_
                rintro _ _ ⟨rfl, rfl⟩
                refine zb M_readsO_s12 rfl ?_
                refine zcallV M_readsO_d15 k11_185 (by omega) (c_M_isDigit _) rfl rfl rfl (Nat.le_of_ble_eq_true rfl) ?_
                rintro _ _ ⟨rfl, rfl⟩
                refine z_eq M_readsO_d18 (tgt := 56) rfl (fun h18 => ?_) (fun h18 => absurd (zB_eq0.mpr hdg) h18)
                refine zb M_readsO_s56 rfl ?_
                refine zcallV M_readsO_d58 k11_188 (by omega) (c_M_isName _) rfl rfl rfl (Nat.le_of_ble_eq_true rfl) ?_
                rintro _ _ ⟨rfl, rfl⟩
                refine z_eq M_readsO_d61 (tgt := 75) rfl (fun h61 => ?_) (fun h61 => absurd (zB_eq0.mpr hnmP) h61)
                refine zb M_readsO_s75 rfl ?_
                refine z_ceq M_readsO_d78 (tgt := 93) rfl (fun h78 => absurd h78 h33) (fun h78 => ?_)
                refine zb M_readsO_s81 rfl ?_
                refine z_ceq M_readsO_d84 (tgt := 93) rfl (fun h84 => ?_) (fun h84 => absurd h45 h84)
                refine zb M_readsO_s93 rfl ?_
                refine z_cne M_readsO_d99 (tgt := 108) rfl (fun h99 => ?_) (fun h99 => absurd h99 hne)
                refine zb M_readsO_s108 rfl ?_
                rw [m3_24, m3_p, nI_1, m3_25, m3_o, ho1]
                refine z_cne M_readsO_d131 (tgt := 162) rfl (fun h131 => ?_) (fun h131 => absurd h131 h40)
                refine zb M_readsO_s162 rfl ?_
                refine zcallV M_readsO_d163 k11_201 (by omega) (ihk (d - 1) (q + 1) (by omega) (by omega)) rfl rfl rfl (Nat.le_of_ble_eq_true rfl) ?_
                rintro _ _ ⟨rfl, rfl⟩
                rw [hr]
                refine zb M_readsO_s166 rfl ?_
                refine z_retV M_readsO_d176 rfl ?_
                rw [m3_25, m3_o, ho2]
                exact ⟨rfl, rfl⟩
              | inr z =>
                obtain ⟨q2, c2, e2⟩ := z
                refine zb M_readsO_s0 rfl ?_
                refine z_ne M_readsO_d4 (tgt := 8) rfl (fun h4 => ?_) (fun h4 => absurd h4 (show ¬ (1 : Int32) = 0 by decide))
                refine zb M_readsO_s8 rfl ?_
                refine zcallV M_readsO_d9 k11_181 (by omega) (c_M_next hn hn2 (by omega)) rfl rfl rfl (Nat.le_of_ble_eq_true rfl) ?_
                rintro _ _ ⟨rfl, rfl⟩
                refine zb M_readsO_s12 rfl ?_
                refine zcallV M_readsO_d15 k11_185 (by omega) (c_M_isDigit _) rfl rfl rfl (Nat.le_of_ble_eq_true rfl) ?_
                rintro _ _ ⟨rfl, rfl⟩
                refine z_eq M_readsO_d18 (tgt := 56) rfl (fun h18 => ?_) (fun h18 => absurd (zB_eq0.mpr hdg) h18)
                refine zb M_readsO_s56 rfl ?_
                refine zcallV M_readsO_d58 k11_188 (by omega) (c_M_isName _) rfl rfl rfl (Nat.le_of_ble_eq_true rfl) ?_
                rintro _ _ ⟨rfl, rfl⟩
                refine z_eq M_readsO_d61 (tgt := 75) rfl (fun h61 => ?_) (fun h61 => absurd (zB_eq0.mpr hnmP) h61)
                refine zb M_readsO_s75 rfl ?_
                refine z_ceq M_readsO_d78 (tgt := 93) rfl (fun h78 => absurd h78 h33) (fun h78 => ?_)
                refine zb M_readsO_s81 rfl ?_
                refine z_ceq M_readsO_d84 (tgt := 93) rfl (fun h84 => ?_) (fun h84 => absurd h45 h84)
                refine zb M_readsO_s93 rfl ?_
                refine z_cne M_readsO_d99 (tgt := 108) rfl (fun h99 => ?_) (fun h99 => absurd h99 hne)
                refine zb M_readsO_s108 rfl ?_
                rw [m3_24, m3_p, nI_1, m3_25, m3_o, ho1]
                refine z_cne M_readsO_d131 (tgt := 162) rfl (fun h131 => ?_) (fun h131 => absurd h131 h40)
                refine zb M_readsO_s162 rfl ?_
                refine zcallV M_readsO_d163 k11_201 (by omega) (ihk (d - 1) (q + 1) (by omega) (by omega)) rfl rfl rfl (Nat.le_of_ble_eq_true rfl) ?_
                rintro _ _ ⟨rfl, rfl⟩
                rw [hr]
                refine zb M_readsO_s166 rfl ?_
                refine z_retV M_readsO_d176 rfl ?_
                rw [m3_25, m3_o, ho2]
                exact ⟨rfl, rfl⟩
            · rw [if_neg h45]
              refine zb M_readsO_s0 rfl ?_
              refine z_ne M_readsO_d4 (tgt := 8) rfl (fun h4 => ?_) (fun h4 => absurd h4 (show ¬ (1 : Int32) = 0 by decide))
              refine zb M_readsO_s8 rfl ?_
              refine zcallV M_readsO_d9 k11_181 (by omega) (c_M_next hn hn2 (by omega)) rfl rfl rfl (Nat.le_of_ble_eq_true rfl) ?_
              rintro _ _ ⟨rfl, rfl⟩
              refine zb M_readsO_s12 rfl ?_
              refine zcallV M_readsO_d15 k11_185 (by omega) (c_M_isDigit _) rfl rfl rfl (Nat.le_of_ble_eq_true rfl) ?_
              rintro _ _ ⟨rfl, rfl⟩
              refine z_eq M_readsO_d18 (tgt := 56) rfl (fun h18 => ?_) (fun h18 => absurd (zB_eq0.mpr hdg) h18)
              refine zb M_readsO_s56 rfl ?_
              refine zcallV M_readsO_d58 k11_188 (by omega) (c_M_isName _) rfl rfl rfl (Nat.le_of_ble_eq_true rfl) ?_
              rintro _ _ ⟨rfl, rfl⟩
              refine z_eq M_readsO_d61 (tgt := 75) rfl (fun h61 => ?_) (fun h61 => absurd (zB_eq0.mpr hnmP) h61)
              refine zb M_readsO_s75 rfl ?_
              refine z_ceq M_readsO_d78 (tgt := 93) rfl (fun h78 => absurd h78 h33) (fun h78 => ?_)
              refine zb M_readsO_s81 rfl ?_
              refine z_ceq M_readsO_d84 (tgt := 93) rfl (fun h84 => absurd h84 h45) (fun h84 => ?_)
              refine zb M_readsO_s87 rfl ?_
              refine z_cne M_readsO_d90 (tgt := 102) rfl (fun h90 => ?_) (fun h90 => absurd h90 h40)
              refine zb1 M_readsO_s102 rfl (by first | assumption | exact vp_in_nI (by omega) (by omega) | decide) ?_
              refine z_retV M_readsO_d107 rfl ?_
              rw [m3_26]
              exact ⟨rfl, rfl⟩
