/-! the class reads a line, the text; the law changes -/
def rL (P st ar : Nat) (μ0 : zMem) (c : qC) (z : Nat ⊕ (Nat × qC × Option qD × qD)) (v : Option Value) (μ' : zMem) : Prop := match z with
  | .inl q => v = some (.int 0) ∧ rF P st ar μ0 q μ'
  | .inr (q, c1, _, _) => v = some (.int 1) ∧ rS P st ar μ0 q (c ++ c1) μ'
def rW (P st ar : Nat) (μ0 : zMem) (n : Nat) (c : qC) (z : Nat ⊕ (qC × qD)) (v : Option Value) (μ' : zMem) : Prop := match z with
  | .inl q => v = some (.int 0) ∧ rF P st ar μ0 q μ'
  | .inr (c1, _) => v = some (.int 1) ∧ rS P st ar μ0 n (c ++ c1) μ'
theorem qLn_pos {T : Nat → Int32} {n p sz q : Nat} {c : qC} {o : Option qD} {e : qD} (h : qLn T n p sz = .inr (q, c, o, e)) : 0 < c.length := by
  unfold qLn at h
  cases h1 : qTop T n p with
  | inl z => rw [h1] at h; cases h
  | inr z =>
    obtain ⟨q1, c1, e1⟩ := z
    rw [h1] at h
    dsimp only at h
    by_cases h63 : qnx T n q1 = 63
    · rw [if_pos h63] at h
      cases h2 : qTop T n (q1 + 1) with
      | inl z => rw [h2] at h; cases h
      | inr z =>
        obtain ⟨q2, c2, e2⟩ := z
        rw [h2] at h
        cases h
        simp only [List.length_append, List.length_cons, List.length_nil]
        omega
    · rw [if_neg h63] at h
      cases h
      simp only [List.length_append, List.length_cons, List.length_nil]
      omega
theorem qLw_len {T : Nat → Int32} {n : Nat} : ∀ (f q sz : Nat) (c : qC) (e : qD), q ≤ n → qLw T n f q sz = .inr (c, e) → 0 < c.length ∧ c.length ≤ n - q + 1
  | 0, q, sz, c, e, _, h => by cases h
  | f + 1, q, sz, c, e, hq, h => by
    simp only [qLw] at h
    have hl := qLn_ok (T := T) (sz := sz) hq
    cases hr : qLn T n q sz with
    | inl z => rw [hr] at h; cases h
    | inr z =>
      obtain ⟨q1, c1, o1, e1⟩ := z
      rw [hr] at h hl
      have hp := qLn_pos hr
      dsimp only at h hl
      by_cases hqn : q1 = n
      · rw [if_pos hqn] at h
        cases h
        omega
      · rw [if_neg hqn] at h
        by_cases h59 : qnx T n q1 = 59
        · rw [if_pos h59] at h
          have hlt : q1 < n := qnx_lt (by rw [h59]; decide)
          cases h2 : qLw T n f (q1 + 1) (sz + c1.length) with
          | inl z => rw [h2] at h; cases h
          | inr z =>
            obtain ⟨c2, e2⟩ := z
            rw [h2] at h
            cases h
            have := qLw_len f (q1 + 1) (sz + c1.length) c2 e2 hlt h2
            rw [List.length_append]
            omega
        · rw [if_neg h59] at h
          cases h

set_option maxRecDepth 100000 in
set_option maxHeartbeats 4000000 in
theorem x_line_11 {g : zG} {μ0 : zMem} {n : Nat} (hR : μ0.2.2 = zR10) (hn : μ0.1 3 1 = nI n) (hn2 : n ≤ 120) (hb : ∀ i, i < n → 0 ≤ μ0.1 61 i ∧ μ0.1 61 i ≤ 255) {d p : Nat} {c : qC} {μ : zMem} (hd : 54 ≤ d) (hp : p ≤ n) (hl : c.length ≤ p) (hs : rS 11 89 90 μ0 p c μ) : zM g d R_line [.ref 3] μ (rL 11 89 90 μ0 c (qLn (μ0.1 61) n p c.length)) := by
  refine zM_of (by decide +kernel) rfl rfl (Nat.le_of_ble_eq_true rfl) rfl ?_
  unfold qLn
  refine zb R_line_s0 rfl ?_
  refine zcallV R_line_d2 k7_42 (by omega) (x_eith_11 hR hn hn2 (D := 47) (k := 6) (by decide) (x_one_11 hR hn hn2 hb 6 (by decide)) (d - 1) (p) (c) _ (by omega) (by omega) (by first | omega | (simp only [List.length_append, List.length_cons, List.length_nil]; omega)) hs) rfl rfl rfl (Nat.le_of_ble_eq_true rfl) ?_
  rintro v μ1 hv
  cases hr : qTop (μ0.1 61) n p with
  | inl q1 =>
    have hv2 : rQ 11 89 90 μ0 c (.inl q1) v μ1 := by rw [← hr]; exact hv
    obtain rfl := hv2.1
    refine z_ne R_line_d5 (tgt := 10) rfl (fun h5 => absurd rfl h5) (fun h5 => ?_)
    refine zb R_line_s8 rfl ?_
    refine z_retZ R_line_d9 rfl (by first | exact Or.inl rfl | exact Or.inr rfl) ?_
    exact ⟨rfl, hv2.2⟩
  | inr z =>
    obtain ⟨q1, c1, e1⟩ := z
    have hv1 : rQ 11 89 90 μ0 c (.inr (q1, c1, e1)) v μ1 := by rw [← hr]; exact hv
    have hin := qTop_ok (μ0.1 61) n p
    rw [hr] at hin
    obtain rfl := hv1.1
    have hv2 : rS 11 89 90 μ0 q1 (c ++ c1) μ1 := hv1.2
    have hq1n : q1 ≤ n := hin.2.1
    have hl1 : c.length + c1.length ≤ q1 := by omega
    obtain ⟨m1, m2, R⟩ := μ1
    obtain rfl : R = zR10 := hv2.f.R hR
    dsimp only
    by_cases h63 : qnx (μ0.1 61) n q1 = 63
    · rw [if_pos h63]
      have hlt : q1 < n := qnx_lt (by rw [h63]; decide)
      refine z_ne R_line_d5 (tgt := 10) rfl (fun h5 => ?_) (fun h5 => absurd h5 (by decide))
      refine zb R_line_s10 rfl ?_
      rw [show ((m1, m2, zR10) : zMem).1 (((m1, m2, zR10) : zMem).2.2 1) 4 = nI (c ++ c1).length from hv2.2.2.1]
      refine zcallV R_line_d21 k7_34 (by omega) (x_take_y (by omega) (Or.inl ⟨rfl, rfl, rfl⟩) hn hn2 (by omega) hv2 h63) rfl rfl rfl (Nat.le_of_ble_eq_true rfl) ?_
      rintro _ μ3 ⟨rfl, hs3⟩
      obtain ⟨m3, m4, R⟩ := μ3
      obtain rfl : R = zR10 := hs3.f.R hR
      refine zb R_line_s24 rfl ?_
      refine z_eq R_line_d26 (tgt := 49) rfl (fun h26 => absurd h26 (by decide)) (fun h26 => ?_)
      refine zb R_line_s29 rfl ?_
      refine zcallV R_line_d36 k7_45 (by omega) (x_add_11 (by simp only [List.length_append]; omega) hs3) rfl rfl rfl (Nat.le_of_ble_eq_true rfl) ?_
      rintro _ μ4 ⟨rfl, hs4⟩
      refine zb R_line_s39 rfl ?_
      refine zcallV R_line_d41 k7_42 (by omega) (x_eith_11 hR hn hn2 (D := 47) (k := 6) (by decide) (x_one_11 hR hn hn2 hb 6 (by decide)) (d - 1) (q1 + 1) (c ++ c1 ++ [(63, 0)]) _ (by omega) (by omega) (by first | omega | (simp only [List.length_append, List.length_cons, List.length_nil]; omega)) hs4) rfl rfl rfl (Nat.le_of_ble_eq_true rfl) ?_
      rintro v μ5 hv
      cases hr2 : qTop (μ0.1 61) n (q1 + 1) with
      | inl q2 =>
        have hv3 : rQ 11 89 90 μ0 (c ++ c1 ++ [(63, 0)]) (.inl q2) v μ5 := by rw [← hr2]; exact hv
        obtain rfl := hv3.1
        refine z_ne R_line_d44 (tgt := 49) rfl (fun h44 => absurd rfl h44) (fun h44 => ?_)
        refine zb R_line_s47 rfl ?_
        refine z_retZ R_line_d48 rfl (by first | exact Or.inl rfl | exact Or.inr rfl) ?_
        exact ⟨rfl, hv3.2⟩
      | inr z =>
        obtain ⟨q2, c2, e2⟩ := z
        have hv3 : rQ 11 89 90 μ0 (c ++ c1 ++ [(63, 0)]) (.inr (q2, c2, e2)) v μ5 := by rw [← hr2]; exact hv
        have hin2 := qTop_ok (μ0.1 61) n (q1 + 1)
        rw [hr2] at hin2
        obtain rfl := hv3.1
        replace hv3 : some (Value.int 1) = some (Value.int 1) ∧ rS 11 89 90 μ0 q2 (c ++ c1 ++ [(63, 0)] ++ c2) μ5 := hv3
        obtain ⟨m5, m6, R⟩ := μ5
        obtain rfl : R = zR10 := hv3.2.f.R hR
        refine z_ne R_line_d44 (tgt := 49) rfl (fun h44 => ?_) (fun h44 => absurd h44 (by decide))
        refine zb R_line_s49 rfl ?_
        refine zcallV R_line_d56 k7_45 (by omega) (x_add_11 (by simp only [List.length_append, List.length_cons, List.length_nil]; omega) hv3.2) rfl rfl rfl (Nat.le_of_ble_eq_true rfl) ?_
        rintro _ μ6 ⟨rfl, hs6⟩
        obtain ⟨m7, m8, R⟩ := μ6
        obtain rfl : R = zR10 := hs6.f.R hR
        refine zb R_line_s59 rfl ?_
        refine z_eq R_line_d60 (tgt := 85) rfl (fun h60 => absurd h60 (by decide)) (fun h60 => ?_)
        refine zb R_line_s63 rfl ?_
        refine z_cge R_line_d66 (tgt := 85) rfl (fun h66 => absurd h66 (nI_ge (b := 121) (by simp only [List.length_append]; omega) (by omega))) (fun h66 => ?_)
        refine zb1 R_line_s69 rfl (vp_in_nI (by simp only [List.length_append]; omega) (by omega)) ?_
        refine z_retZ R_line_d86 rfl (by first | exact Or.inl rfl | exact Or.inr rfl) ?_
        have e4 : m7 11 4 = _ := hs6.2.2.1
        rw [nI_clamp (show (c ++ c1).length < 2 ^ 31 by simp only [List.length_append]; omega)]
        have hfin := rS.arg (Or.inl ⟨rfl, rfl, rfl⟩) (a := c ++ c1) (s := 63) (x := 0) (y := nI (c.length + c1.length + 1 + c2.length + 1)) (b := c2 ++ [(59, 0)]) (p := q2) (μ0 := μ0) (μ := (m7, m8, zR10)) (by simp only [List.append_assoc] at hs6 ⊢; exact hs6)
        refine ⟨rfl, ?_⟩
        rw [show ((m7, m8, zR10) : zMem).1 (((m7, m8, zR10) : zMem).2.2 1) 4 = nI (c.length + c1.length + 1 + c2.length + 1) from e4.trans (by simp only [List.length_append, List.length_cons, List.length_nil])]
        simp only [List.append_assoc] at hfin ⊢
        exact hfin
    · rw [if_neg h63]
      refine z_ne R_line_d5 (tgt := 10) rfl (fun h5 => ?_) (fun h5 => absurd h5 (by decide))
      refine zb R_line_s10 rfl ?_
      rw [show ((m1, m2, zR10) : zMem).1 (((m1, m2, zR10) : zMem).2.2 1) 4 = nI (c ++ c1).length from hv2.2.2.1]
      refine zcallV R_line_d21 k7_34 (by omega) (x_take_n (by omega) (Or.inl ⟨rfl, rfl, rfl⟩) hn hn2 (by omega) hv2.f h63) rfl rfl rfl (Nat.le_of_ble_eq_true rfl) ?_
      rintro _ μx ⟨rfl, hx⟩
      rw [hx]
      clear hx μx
      refine zb R_line_s24 rfl ?_
      refine z_eq R_line_d26 (tgt := 49) rfl (fun h26 => ?_) (fun h26 => absurd rfl h26)
      refine zb R_line_s49 rfl ?_
      refine zcallV R_line_d56 k7_45 (by omega) (x_add_11 (by simp only [List.length_append]; omega) hv2) rfl rfl rfl (Nat.le_of_ble_eq_true rfl) ?_
      rintro _ μ3 ⟨rfl, hs3⟩
      refine zb R_line_s59 rfl ?_
      refine z_eq R_line_d60 (tgt := 85) rfl (fun h60 => ?_) (fun h60 => absurd rfl h60)
      refine zb R_line_s85 rfl ?_
      refine z_retZ R_line_d86 rfl (by first | exact Or.inl rfl | exact Or.inr rfl) ?_
      simp only [List.append_assoc] at hs3 ⊢
      exact ⟨rfl, hs3⟩

set_option maxRecDepth 100000 in
set_option maxHeartbeats 4000000 in
theorem w_text_11 {g : zG} {μ0 : zMem} {n : Nat} (hR : μ0.2.2 = zR10) (hn : μ0.1 3 1 = nI n) (hn2 : n ≤ 120) (hb : ∀ i, i < n → 0 ≤ μ0.1 61 i ∧ μ0.1 61 i ≤ 255) {d : Nat} (hd : 55 ≤ d) : ∀ (f i q : Nat) (c : qC) (μ : zMem), i + f = 121 → q ≤ n → c.length ≤ q → rS 11 89 90 μ0 q c μ → zW g R_isText d 15 [some (.ref 3), some (.int (nI i))] [] μ (rW 11 89 90 μ0 n c (qLw (μ0.1 61) n f q c.length)) := by
  intro f
  induction f with
  | zero =>
    intro i q c μ hi hq hl hs
    have hi : i = 121 := by omega
    subst hi
    refine zb R_isText_s15 rfl ?_
    refine z_cgt R_isText_d18 (tgt := 60) rfl (fun h18 => ?_) (fun h18 => absurd (show (120 : Int32) < nI 121 by decide) h18)
    refine zb R_isText_s60 rfl ?_
    refine z_retZ R_isText_d61 rfl (by first | exact Or.inl rfl | exact Or.inr rfl) ?_
    exact ⟨rfl, hs.f⟩
  | succ f ih =>
    intro i q c μ hi hq hl hs
    have hln := qLn_ok (T := (μ0.1 61)) (sz := c.length) hq
    simp only [qLw]
    refine zb R_isText_s15 rfl ?_
    refine z_cgt R_isText_d18 (tgt := 60) rfl (fun h18 => absurd h18 (Int32.not_lt.mpr (show nI i ≤ 120 from nI_le (b := 120) (by omega) (by omega)))) (fun h18 => ?_)
    refine zb R_isText_s21 rfl ?_
    refine zcallV R_isText_d22 k7_30 (by omega) (x_line_11 hR hn hn2 hb (by omega) hq hl hs) rfl rfl rfl (Nat.le_of_ble_eq_true rfl) ?_
    rintro v μ1 hv
    cases hr : qLn (μ0.1 61) n q c.length with
    | inl q1 =>
      have hv2 : rL 11 89 90 μ0 c (.inl q1) v μ1 := by rw [← hr]; exact hv
      obtain rfl := hv2.1
      refine z_ne R_isText_d25 (tgt := 30) rfl (fun h25 => absurd rfl h25) (fun h25 => ?_)
      refine zb R_isText_s28 rfl ?_
      refine z_retZ R_isText_d29 rfl (by first | exact Or.inl rfl | exact Or.inr rfl) ?_
      exact ⟨rfl, hv2.2⟩
    | inr z =>
      obtain ⟨q1, c1, o1, e1⟩ := z
      have hv1 : rL 11 89 90 μ0 c (.inr (q1, c1, o1, e1)) v μ1 := by rw [← hr]; exact hv
      rw [hr] at hln
      obtain rfl := hv1.1
      have hv2 : rS 11 89 90 μ0 q1 (c ++ c1) μ1 := hv1.2
      have hq1 : q1 ≤ n := hln.2.1
      have hlc : c1.length ≤ q1 - q + 1 := hln.2.2
      have hqq : q < q1 := hln.1
      have e31 : μ1.1 3 1 = nI n := (hv2.f.n (Or.inl ⟨rfl, rfl, rfl⟩)).trans hn
      obtain ⟨m1, m2, R⟩ := μ1
      obtain rfl : R = zR10 := hv2.f.R hR
      replace e31 : m1 3 1 = nI n := e31
      dsimp only
      by_cases hqn : q1 = n
      · rw [if_pos hqn]
        refine z_ne R_isText_d25 (tgt := 30) rfl (fun h25 => ?_) (fun h25 => absurd h25 (by decide))
        refine zb R_isText_s30 rfl ?_
        refine z_cne R_isText_d38 (tgt := 43) rfl (fun h38 => absurd (show m1 3 2 = m1 3 1 by rw [show m1 3 2 = nI q1 from hv2.2.1, e31, hqn]) h38) (fun h38 => ?_)
        refine zb R_isText_s41 rfl ?_
        refine z_retZ R_isText_d42 rfl (by first | exact Or.inl rfl | exact Or.inr rfl) ?_
        rw [hqn] at hv2
        exact ⟨rfl, hv2⟩
      · rw [if_neg hqn]
        by_cases h59 : qnx (μ0.1 61) n q1 = 59
        · rw [if_pos h59]
          have hlt : q1 < n := qnx_lt (by rw [h59]; decide)
          refine z_ne R_isText_d25 (tgt := 30) rfl (fun h25 => ?_) (fun h25 => absurd h25 (by decide))
          refine zb R_isText_s30 rfl ?_
          refine z_cne R_isText_d38 (tgt := 43) rfl (fun h38 => ?_) (fun h38 => absurd ((nI_eq (by omega) (by omega)).mp ((show nI q1 = m1 3 2 from hv2.2.1.symm).trans (h38.trans e31))) hqn)
          refine zb R_isText_s43 rfl ?_
          refine zcallV R_isText_d46 k7_34 (by omega) (x_take_y (by omega) (Or.inl ⟨rfl, rfl, rfl⟩) hn hn2 (by omega) hv2 h59) rfl rfl rfl (Nat.le_of_ble_eq_true rfl) ?_
          rintro _ μ2 ⟨rfl, hs2⟩
          refine z_ne R_isText_d49 (tgt := 54) rfl (fun h49 => ?_) (fun h49 => absurd h49 (by decide))
          refine zb R_isText_s54 rfl ?_
          rw [nI_1]
          refine zW.mono (ih (i + 1) (q1 + 1) _ _ (by omega) hlt (by rw [List.length_append]; omega) hs2) (fun v μ' hw => ?_)
          rw [List.length_append] at hw
          revert hw
          cases qLw (μ0.1 61) n f (q1 + 1) (c.length + c1.length) with
          | inl z => exact id
          | inr z =>
            obtain ⟨c2, e2⟩ := z
            intro hw
            have hw2 : rS 11 89 90 μ0 n (c ++ c1 ++ c2) μ' := hw.2
            rw [List.append_assoc] at hw2
            exact ⟨hw.1, hw2⟩
        · rw [if_neg h59]
          refine z_ne R_isText_d25 (tgt := 30) rfl (fun h25 => ?_) (fun h25 => absurd h25 (by decide))
          refine zb R_isText_s30 rfl ?_
          refine z_cne R_isText_d38 (tgt := 43) rfl (fun h38 => ?_) (fun h38 => absurd ((nI_eq (by omega) (by omega)).mp ((show nI q1 = m1 3 2 from hv2.2.1.symm).trans (h38.trans e31))) hqn)
          refine zb R_isText_s43 rfl ?_
          refine zcallV R_isText_d46 k7_34 (by omega) (x_take_n (by omega) (Or.inl ⟨rfl, rfl, rfl⟩) hn hn2 (by omega) hv2.f h59) rfl rfl rfl (Nat.le_of_ble_eq_true rfl) ?_
          rintro _ μx ⟨rfl, hx⟩
          rw [hx]
          clear hx μx
          refine z_ne R_isText_d49 (tgt := 54) rfl (fun h49 => absurd rfl h49) (fun h49 => ?_)
          refine zb R_isText_s52 rfl ?_
          refine z_retZ R_isText_d53 rfl (by first | exact Or.inl rfl | exact Or.inr rfl) ?_
          exact ⟨rfl, hv2.f⟩

set_option maxRecDepth 100000 in
set_option maxHeartbeats 4000000 in
theorem x_text_11 {g : zG} {μ : zMem} {n : Nat} (hR : μ.2.2 = zR10) (hn : μ.1 3 1 = nI n) (hn2 : n ≤ 120) (hb : ∀ i, i < n → 0 ≤ μ.1 61 i ∧ μ.1 61 i ≤ 255) {d : Nat} (hd : 55 ≤ d) : zM g d R_isText [.ref 3] μ (rW 11 89 90 μ n [] (qLw (μ.1 61) n 121 0 0)) := by
  refine zM_of (by decide +kernel) rfl rfl (Nat.le_of_ble_eq_true rfl) rfl ?_
  have hs0 : rS 11 89 90 μ 0 [] (zpI (zpI μ 11 4 0) 3 2 0) := ⟨(zq.rf.put rfl).put rfl, rfl, rfl, fun i hi => absurd hi (Nat.not_lt_zero _)⟩
  revert hs0
  have hR9 := hR
  obtain ⟨m1, m2, R⟩ := μ
  obtain rfl : R = zR10 := hR9
  intro hs0
  refine zb R_isText_s0 rfl ?_
  exact w_text_11 hR hn hn2 hb hd 121 0 0 [] _ rfl (Nat.zero_le _) (Nat.zero_le _) hs0

set_option maxRecDepth 100000 in
set_option maxHeartbeats 4000000 in
theorem x_line_10 {g : zG} {μ0 : zMem} {n : Nat} (hR : μ0.2.2 = zR11) (hn : μ0.1 3 1 = nI n) (hn2 : n ≤ 120) (hb : ∀ i, i < n → 0 ≤ μ0.1 61 i ∧ μ0.1 61 i ≤ 255) {d p : Nat} {c : qC} {μ : zMem} (hd : 54 ≤ d) (hp : p ≤ n) (hl : c.length ≤ p) (hs : rS 10 85 86 μ0 p c μ) : zM g d R_line [.ref 3] μ (rL 10 85 86 μ0 c (qLn (μ0.1 61) n p c.length)) := by
  refine zM_of (by decide +kernel) rfl rfl (Nat.le_of_ble_eq_true rfl) rfl ?_
  unfold qLn
  refine zb R_line_s0 rfl ?_
  refine zcallV R_line_d2 k7_42 (by omega) (x_eith_10 hR hn hn2 (D := 47) (k := 6) (by decide) (x_one_10 hR hn hn2 hb 6 (by decide)) (d - 1) (p) (c) _ (by omega) (by omega) (by first | omega | (simp only [List.length_append, List.length_cons, List.length_nil]; omega)) hs) rfl rfl rfl (Nat.le_of_ble_eq_true rfl) ?_
  rintro v μ1 hv
  cases hr : qTop (μ0.1 61) n p with
  | inl q1 =>
    have hv2 : rQ 10 85 86 μ0 c (.inl q1) v μ1 := by rw [← hr]; exact hv
    obtain rfl := hv2.1
    refine z_ne R_line_d5 (tgt := 10) rfl (fun h5 => absurd rfl h5) (fun h5 => ?_)
    refine zb R_line_s8 rfl ?_
    refine z_retZ R_line_d9 rfl (by first | exact Or.inl rfl | exact Or.inr rfl) ?_
    exact ⟨rfl, hv2.2⟩
  | inr z =>
    obtain ⟨q1, c1, e1⟩ := z
    have hv1 : rQ 10 85 86 μ0 c (.inr (q1, c1, e1)) v μ1 := by rw [← hr]; exact hv
    have hin := qTop_ok (μ0.1 61) n p
    rw [hr] at hin
    obtain rfl := hv1.1
    have hv2 : rS 10 85 86 μ0 q1 (c ++ c1) μ1 := hv1.2
    have hq1n : q1 ≤ n := hin.2.1
    have hl1 : c.length + c1.length ≤ q1 := by omega
    obtain ⟨m1, m2, R⟩ := μ1
    obtain rfl : R = zR11 := hv2.f.R hR
    dsimp only
    by_cases h63 : qnx (μ0.1 61) n q1 = 63
    · rw [if_pos h63]
      have hlt : q1 < n := qnx_lt (by rw [h63]; decide)
      refine z_ne R_line_d5 (tgt := 10) rfl (fun h5 => ?_) (fun h5 => absurd h5 (by decide))
      refine zb R_line_s10 rfl ?_
      rw [show ((m1, m2, zR11) : zMem).1 (((m1, m2, zR11) : zMem).2.2 1) 4 = nI (c ++ c1).length from hv2.2.2.1]
      refine zcallV R_line_d21 k7_34 (by omega) (x_take_y (by omega) (Or.inr ⟨rfl, rfl, rfl⟩) hn hn2 (by omega) hv2 h63) rfl rfl rfl (Nat.le_of_ble_eq_true rfl) ?_
      rintro _ μ3 ⟨rfl, hs3⟩
      obtain ⟨m3, m4, R⟩ := μ3
      obtain rfl : R = zR11 := hs3.f.R hR
      refine zb R_line_s24 rfl ?_
      refine z_eq R_line_d26 (tgt := 49) rfl (fun h26 => absurd h26 (by decide)) (fun h26 => ?_)
      refine zb R_line_s29 rfl ?_
      refine zcallV R_line_d36 k7_45 (by omega) (x_add_10 (by simp only [List.length_append]; omega) hs3) rfl rfl rfl (Nat.le_of_ble_eq_true rfl) ?_
      rintro _ μ4 ⟨rfl, hs4⟩
      refine zb R_line_s39 rfl ?_
      refine zcallV R_line_d41 k7_42 (by omega) (x_eith_10 hR hn hn2 (D := 47) (k := 6) (by decide) (x_one_10 hR hn hn2 hb 6 (by decide)) (d - 1) (q1 + 1) (c ++ c1 ++ [(63, 0)]) _ (by omega) (by omega) (by first | omega | (simp only [List.length_append, List.length_cons, List.length_nil]; omega)) hs4) rfl rfl rfl (Nat.le_of_ble_eq_true rfl) ?_
      rintro v μ5 hv
      cases hr2 : qTop (μ0.1 61) n (q1 + 1) with
      | inl q2 =>
        have hv3 : rQ 10 85 86 μ0 (c ++ c1 ++ [(63, 0)]) (.inl q2) v μ5 := by rw [← hr2]; exact hv
        obtain rfl := hv3.1
        refine z_ne R_line_d44 (tgt := 49) rfl (fun h44 => absurd rfl h44) (fun h44 => ?_)
        refine zb R_line_s47 rfl ?_
        refine z_retZ R_line_d48 rfl (by first | exact Or.inl rfl | exact Or.inr rfl) ?_
        exact ⟨rfl, hv3.2⟩
      | inr z =>
        obtain ⟨q2, c2, e2⟩ := z
        have hv3 : rQ 10 85 86 μ0 (c ++ c1 ++ [(63, 0)]) (.inr (q2, c2, e2)) v μ5 := by rw [← hr2]; exact hv
        have hin2 := qTop_ok (μ0.1 61) n (q1 + 1)
        rw [hr2] at hin2
        obtain rfl := hv3.1
        replace hv3 : some (Value.int 1) = some (Value.int 1) ∧ rS 10 85 86 μ0 q2 (c ++ c1 ++ [(63, 0)] ++ c2) μ5 := hv3
        obtain ⟨m5, m6, R⟩ := μ5
        obtain rfl : R = zR11 := hv3.2.f.R hR
        refine z_ne R_line_d44 (tgt := 49) rfl (fun h44 => ?_) (fun h44 => absurd h44 (by decide))
        refine zb R_line_s49 rfl ?_
        refine zcallV R_line_d56 k7_45 (by omega) (x_add_10 (by simp only [List.length_append, List.length_cons, List.length_nil]; omega) hv3.2) rfl rfl rfl (Nat.le_of_ble_eq_true rfl) ?_
        rintro _ μ6 ⟨rfl, hs6⟩
        obtain ⟨m7, m8, R⟩ := μ6
        obtain rfl : R = zR11 := hs6.f.R hR
        refine zb R_line_s59 rfl ?_
        refine z_eq R_line_d60 (tgt := 85) rfl (fun h60 => absurd h60 (by decide)) (fun h60 => ?_)
        refine zb R_line_s63 rfl ?_
        refine z_cge R_line_d66 (tgt := 85) rfl (fun h66 => absurd h66 (nI_ge (b := 121) (by simp only [List.length_append]; omega) (by omega))) (fun h66 => ?_)
        refine zb1 R_line_s69 rfl (vp_in_nI (by simp only [List.length_append]; omega) (by omega)) ?_
        refine z_retZ R_line_d86 rfl (by first | exact Or.inl rfl | exact Or.inr rfl) ?_
        have e4 : m7 10 4 = _ := hs6.2.2.1
        rw [nI_clamp (show (c ++ c1).length < 2 ^ 31 by simp only [List.length_append]; omega)]
        have hfin := rS.arg (Or.inr ⟨rfl, rfl, rfl⟩) (a := c ++ c1) (s := 63) (x := 0) (y := nI (c.length + c1.length + 1 + c2.length + 1)) (b := c2 ++ [(59, 0)]) (p := q2) (μ0 := μ0) (μ := (m7, m8, zR11)) (by simp only [List.append_assoc] at hs6 ⊢; exact hs6)
        refine ⟨rfl, ?_⟩
        rw [show ((m7, m8, zR11) : zMem).1 (((m7, m8, zR11) : zMem).2.2 1) 4 = nI (c.length + c1.length + 1 + c2.length + 1) from e4.trans (by simp only [List.length_append, List.length_cons, List.length_nil])]
        simp only [List.append_assoc] at hfin ⊢
        exact hfin
    · rw [if_neg h63]
      refine z_ne R_line_d5 (tgt := 10) rfl (fun h5 => ?_) (fun h5 => absurd h5 (by decide))
      refine zb R_line_s10 rfl ?_
      rw [show ((m1, m2, zR11) : zMem).1 (((m1, m2, zR11) : zMem).2.2 1) 4 = nI (c ++ c1).length from hv2.2.2.1]
      refine zcallV R_line_d21 k7_34 (by omega) (x_take_n (by omega) (Or.inr ⟨rfl, rfl, rfl⟩) hn hn2 (by omega) hv2.f h63) rfl rfl rfl (Nat.le_of_ble_eq_true rfl) ?_
      rintro _ μx ⟨rfl, hx⟩
      rw [hx]
      clear hx μx
      refine zb R_line_s24 rfl ?_
      refine z_eq R_line_d26 (tgt := 49) rfl (fun h26 => ?_) (fun h26 => absurd rfl h26)
      refine zb R_line_s49 rfl ?_
      refine zcallV R_line_d56 k7_45 (by omega) (x_add_10 (by simp only [List.length_append]; omega) hv2) rfl rfl rfl (Nat.le_of_ble_eq_true rfl) ?_
      rintro _ μ3 ⟨rfl, hs3⟩
      refine zb R_line_s59 rfl ?_
      refine z_eq R_line_d60 (tgt := 85) rfl (fun h60 => ?_) (fun h60 => absurd rfl h60)
      refine zb R_line_s85 rfl ?_
      refine z_retZ R_line_d86 rfl (by first | exact Or.inl rfl | exact Or.inr rfl) ?_
      simp only [List.append_assoc] at hs3 ⊢
      exact ⟨rfl, hs3⟩

set_option maxRecDepth 100000 in
set_option maxHeartbeats 4000000 in
theorem w_text_10 {g : zG} {μ0 : zMem} {n : Nat} (hR : μ0.2.2 = zR11) (hn : μ0.1 3 1 = nI n) (hn2 : n ≤ 120) (hb : ∀ i, i < n → 0 ≤ μ0.1 61 i ∧ μ0.1 61 i ≤ 255) {d : Nat} (hd : 55 ≤ d) : ∀ (f i q : Nat) (c : qC) (μ : zMem), i + f = 121 → q ≤ n → c.length ≤ q → rS 10 85 86 μ0 q c μ → zW g R_isText d 15 [some (.ref 3), some (.int (nI i))] [] μ (rW 10 85 86 μ0 n c (qLw (μ0.1 61) n f q c.length)) := by
  intro f
  induction f with
  | zero =>
    intro i q c μ hi hq hl hs
    have hi : i = 121 := by omega
    subst hi
    refine zb R_isText_s15 rfl ?_
    refine z_cgt R_isText_d18 (tgt := 60) rfl (fun h18 => ?_) (fun h18 => absurd (show (120 : Int32) < nI 121 by decide) h18)
    refine zb R_isText_s60 rfl ?_
    refine z_retZ R_isText_d61 rfl (by first | exact Or.inl rfl | exact Or.inr rfl) ?_
    exact ⟨rfl, hs.f⟩
  | succ f ih =>
    intro i q c μ hi hq hl hs
    have hln := qLn_ok (T := (μ0.1 61)) (sz := c.length) hq
    simp only [qLw]
    refine zb R_isText_s15 rfl ?_
    refine z_cgt R_isText_d18 (tgt := 60) rfl (fun h18 => absurd h18 (Int32.not_lt.mpr (show nI i ≤ 120 from nI_le (b := 120) (by omega) (by omega)))) (fun h18 => ?_)
    refine zb R_isText_s21 rfl ?_
    refine zcallV R_isText_d22 k7_30 (by omega) (x_line_10 hR hn hn2 hb (by omega) hq hl hs) rfl rfl rfl (Nat.le_of_ble_eq_true rfl) ?_
    rintro v μ1 hv
    cases hr : qLn (μ0.1 61) n q c.length with
    | inl q1 =>
      have hv2 : rL 10 85 86 μ0 c (.inl q1) v μ1 := by rw [← hr]; exact hv
      obtain rfl := hv2.1
      refine z_ne R_isText_d25 (tgt := 30) rfl (fun h25 => absurd rfl h25) (fun h25 => ?_)
      refine zb R_isText_s28 rfl ?_
      refine z_retZ R_isText_d29 rfl (by first | exact Or.inl rfl | exact Or.inr rfl) ?_
      exact ⟨rfl, hv2.2⟩
    | inr z =>
      obtain ⟨q1, c1, o1, e1⟩ := z
      have hv1 : rL 10 85 86 μ0 c (.inr (q1, c1, o1, e1)) v μ1 := by rw [← hr]; exact hv
      rw [hr] at hln
      obtain rfl := hv1.1
      have hv2 : rS 10 85 86 μ0 q1 (c ++ c1) μ1 := hv1.2
      have hq1 : q1 ≤ n := hln.2.1
      have hlc : c1.length ≤ q1 - q + 1 := hln.2.2
      have hqq : q < q1 := hln.1
      have e31 : μ1.1 3 1 = nI n := (hv2.f.n (Or.inr ⟨rfl, rfl, rfl⟩)).trans hn
      obtain ⟨m1, m2, R⟩ := μ1
      obtain rfl : R = zR11 := hv2.f.R hR
      replace e31 : m1 3 1 = nI n := e31
      dsimp only
      by_cases hqn : q1 = n
      · rw [if_pos hqn]
        refine z_ne R_isText_d25 (tgt := 30) rfl (fun h25 => ?_) (fun h25 => absurd h25 (by decide))
        refine zb R_isText_s30 rfl ?_
        refine z_cne R_isText_d38 (tgt := 43) rfl (fun h38 => absurd (show m1 3 2 = m1 3 1 by rw [show m1 3 2 = nI q1 from hv2.2.1, e31, hqn]) h38) (fun h38 => ?_)
        refine zb R_isText_s41 rfl ?_
        refine z_retZ R_isText_d42 rfl (by first | exact Or.inl rfl | exact Or.inr rfl) ?_
        rw [hqn] at hv2
        exact ⟨rfl, hv2⟩
      · rw [if_neg hqn]
        by_cases h59 : qnx (μ0.1 61) n q1 = 59
        · rw [if_pos h59]
          have hlt : q1 < n := qnx_lt (by rw [h59]; decide)
          refine z_ne R_isText_d25 (tgt := 30) rfl (fun h25 => ?_) (fun h25 => absurd h25 (by decide))
          refine zb R_isText_s30 rfl ?_
          refine z_cne R_isText_d38 (tgt := 43) rfl (fun h38 => ?_) (fun h38 => absurd ((nI_eq (by omega) (by omega)).mp ((show nI q1 = m1 3 2 from hv2.2.1.symm).trans (h38.trans e31))) hqn)
          refine zb R_isText_s43 rfl ?_
          refine zcallV R_isText_d46 k7_34 (by omega) (x_take_y (by omega) (Or.inr ⟨rfl, rfl, rfl⟩) hn hn2 (by omega) hv2 h59) rfl rfl rfl (Nat.le_of_ble_eq_true rfl) ?_
          rintro _ μ2 ⟨rfl, hs2⟩
          refine z_ne R_isText_d49 (tgt := 54) rfl (fun h49 => ?_) (fun h49 => absurd h49 (by decide))
          refine zb R_isText_s54 rfl ?_
          rw [nI_1]
          refine zW.mono (ih (i + 1) (q1 + 1) _ _ (by omega) hlt (by rw [List.length_append]; omega) hs2) (fun v μ' hw => ?_)
          rw [List.length_append] at hw
          revert hw
          cases qLw (μ0.1 61) n f (q1 + 1) (c.length + c1.length) with
          | inl z => exact id
          | inr z =>
            obtain ⟨c2, e2⟩ := z
            intro hw
            have hw2 : rS 10 85 86 μ0 n (c ++ c1 ++ c2) μ' := hw.2
            rw [List.append_assoc] at hw2
            exact ⟨hw.1, hw2⟩
        · rw [if_neg h59]
          refine z_ne R_isText_d25 (tgt := 30) rfl (fun h25 => ?_) (fun h25 => absurd h25 (by decide))
          refine zb R_isText_s30 rfl ?_
          refine z_cne R_isText_d38 (tgt := 43) rfl (fun h38 => ?_) (fun h38 => absurd ((nI_eq (by omega) (by omega)).mp ((show nI q1 = m1 3 2 from hv2.2.1.symm).trans (h38.trans e31))) hqn)
          refine zb R_isText_s43 rfl ?_
          refine zcallV R_isText_d46 k7_34 (by omega) (x_take_n (by omega) (Or.inr ⟨rfl, rfl, rfl⟩) hn hn2 (by omega) hv2.f h59) rfl rfl rfl (Nat.le_of_ble_eq_true rfl) ?_
          rintro _ μx ⟨rfl, hx⟩
          rw [hx]
          clear hx μx
          refine z_ne R_isText_d49 (tgt := 54) rfl (fun h49 => absurd rfl h49) (fun h49 => ?_)
          refine zb R_isText_s52 rfl ?_
          refine z_retZ R_isText_d53 rfl (by first | exact Or.inl rfl | exact Or.inr rfl) ?_
          exact ⟨rfl, hv2.f⟩

set_option maxRecDepth 100000 in
set_option maxHeartbeats 4000000 in
theorem x_text_10 {g : zG} {μ : zMem} {n : Nat} (hR : μ.2.2 = zR11) (hn : μ.1 3 1 = nI n) (hn2 : n ≤ 120) (hb : ∀ i, i < n → 0 ≤ μ.1 61 i ∧ μ.1 61 i ≤ 255) {d : Nat} (hd : 55 ≤ d) : zM g d R_isText [.ref 3] μ (rW 10 85 86 μ n [] (qLw (μ.1 61) n 121 0 0)) := by
  refine zM_of (by decide +kernel) rfl rfl (Nat.le_of_ble_eq_true rfl) rfl ?_
  have hs0 : rS 10 85 86 μ 0 [] (zpI (zpI μ 10 4 0) 3 2 0) := ⟨(zq.rf.put rfl).put rfl, rfl, rfl, fun i hi => absurd hi (Nat.not_lt_zero _)⟩
  revert hs0
  have hR9 := hR
  obtain ⟨m1, m2, R⟩ := μ
  obtain rfl : R = zR11 := hR9
  intro hs0
  refine zb R_isText_s0 rfl ?_
  exact w_text_10 hR hn hn2 hb hd 121 0 0 [] _ rfl (Nat.zero_le _) (Nat.zero_le _) hs0

theorem zR_x1 : zuR (zuR zR10 1 10) 0 11 = zR11 := by
  funext j
  match j with
  | 0 => rfl
  | 1 => rfl
  | j + 2 => rfl
theorem zR_x2 : zuR (zuR zR11 1 11) 0 10 = zR10 := by
  funext j
  match j with
  | 0 => rfl
  | 1 => rfl
  | j + 2 => rfl
def okT (S : zS) : Prop := ∀ i, i < (tT S).1 → 0 ≤ (tT S).2 i ∧ (tT S).2 i ≤ 255

set_option maxRecDepth 100000 in
set_option maxHeartbeats 4000000 in
theorem x_exch_11 {g : zG} {d : Nat} {m1 : Nat → Nat → Int32} {m2 : Nat → Nat → Int64} : zM g d R_exchanged [.ref 3, .ref 10] (m1, m2, zR10) (fun r μ' => r = some (.ref 11) ∧ μ' = (m1, m2, zuR zR10 1 10)) := by
  refine zM_of (by decide +kernel) rfl rfl (Nat.le_of_ble_eq_true rfl) rfl ?_
  refine zb R_exchanged_s0 rfl ?_
  refine z_retA R_exchanged_d11 rfl (by first | exact Or.inl ⟨_, rfl⟩ | exact Or.inr ⟨_, rfl⟩) ?_
  exact ⟨rfl, rfl⟩

set_option maxRecDepth 100000 in
set_option maxHeartbeats 4000000 in
theorem x_exch_10 {g : zG} {d : Nat} {m1 : Nat → Nat → Int32} {m2 : Nat → Nat → Int64} : zM g d R_exchanged [.ref 3, .ref 11] (m1, m2, zR11) (fun r μ' => r = some (.ref 10) ∧ μ' = (m1, m2, zuR zR11 1 11)) := by
  refine zM_of (by decide +kernel) rfl rfl (Nat.le_of_ble_eq_true rfl) rfl ?_
  refine zb R_exchanged_s0 rfl ?_
  refine z_retA R_exchanged_d11 rfl (by first | exact Or.inl ⟨_, rfl⟩ | exact Or.inr ⟨_, rfl⟩) ?_
  exact ⟨rfl, rfl⟩
