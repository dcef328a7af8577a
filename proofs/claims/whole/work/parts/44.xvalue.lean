/-! the class: what a program gives -/
def ten (o : Int32) : Prop := o = 124 ∨ o = 38 ∨ o = 60 ∨ o = 61 ∨ o = 62 ∨ o = 43 ∨ o = 45 ∨ o = 42 ∨ o = 47 ∨ o = 37
def vst (s : Int32 × Int32) : Prop := s.1 = 35 ∨ (s.1 = 97 ∧ ∃ i, i < 6 ∧ s.2 = nI i) ∨ s.1 = 126 ∨ s.1 = 33 ∨ ten s.1
def vR (z : qR) : Prop := match z with
  | .inl _ => True
  | .inr w => ∀ s ∈ w.2.1, vst s
theorem vst_app {a b : qC} (ha : ∀ s ∈ a, vst s) (hb : ∀ s ∈ b, vst s) : ∀ s ∈ a ++ b, vst s := fun s hs => (List.mem_append.mp hs).elim (ha s) (hb s)
theorem vst_1 {s : Int32 × Int32} (h : vst s) : ∀ t ∈ [s], vst t := fun t ht => by rw [List.mem_singleton.mp ht]; exact h
theorem qlp_v {T : Nat → Int32} {n : Nat} {po : Nat → qR} {isop : Int32 → Bool} (hp : ∀ p, vR (po p)) (hop : ∀ c, isop c = true → ten c) : ∀ (f p : Nat) (c : qC) (e : qD), (∀ s ∈ c, vst s) → vR (qlp T n po isop f p c e)
  | 0, _, _, _, h => h
  | f + 1, p, c, e, h => by
    simp only [qlp]
    by_cases hi : isop (qnx T n p) = true
    · rw [if_pos hi]
      have h1 := hp (p + 1)
      cases hr : po (p + 1) with
      | inl q => exact trivial
      | inr w =>
        rw [hr] at h1
        exact qlp_v hp hop f _ _ _ (vst_app (vst_app h h1) (vst_1 (Or.inr (Or.inr (Or.inr (Or.inr (hop _ hi)))))))
    · rw [if_neg hi]
      exact h
theorem qbin_v {T : Nat → Int32} {n : Nat} {po : Nat → qR} {isop : Int32 → Bool} {f : Nat} (hp : ∀ p, vR (po p)) (hop : ∀ c, isop c = true → ten c) (p : Nat) : vR (qbin T n po isop f p) := by
  unfold qbin
  have h1 := hp p
  cases hr : po p with
  | inl q => exact trivial
  | inr w =>
    rw [hr] at h1
    exact qlp_v hp hop f _ _ _ h1
theorem qE_v {T : Nat → Int32} {n : Nat} {po : Nat → qR} (hp : ∀ p, vR (po p)) : ∀ p, vR (qE T n po p) := by
  have k3 : ∀ c, qop3 c = true → ten c := fun c h => by unfold qop3 at h; simp only [Bool.or_eq_true, beq_iff_eq] at h; unfold ten; grind
  have k2 : ∀ c, qop2 c = true → ten c := fun c h => by unfold qop2 at h; simp only [Bool.or_eq_true, beq_iff_eq] at h; unfold ten; grind
  have kB : ∀ c, qopB c = true → ten c := fun c h => by unfold qopB at h; simp only [Bool.or_eq_true, beq_iff_eq] at h; unfold ten; grind
  have kA : ∀ c, qopA c = true → ten c := fun c h => by unfold qopA at h; simp only [beq_iff_eq] at h; unfold ten; grind
  have kE : ∀ c, qopE c = true → ten c := fun c h => by unfold qopE at h; simp only [beq_iff_eq] at h; unfold ten; grind
  exact qbin_v (qbin_v (qbin_v (qbin_v (qbin_v hp k3) k2) kB) kA) kE
theorem qO_v (T : Nat → Int32) (n : Nat) : ∀ (k p : Nat), vR (qO T n k p)
  | 0, p => by
    simp only [qO]
    by_cases h : qdig (qnx T n p)
    · rw [if_pos h]; exact vst_1 (Or.inl rfl)
    · rw [if_neg h]
      cases hm : qnm (qnx T n p) with
      | none => exact trivial
      | some i => exact vst_1 (Or.inr (Or.inl ⟨rfl, i, (qnm_lt hm).1, rfl⟩))
  | k + 1, p => by
    have ih := qO_v T n k
    simp only [qO]
    by_cases h : qdig (qnx T n p)
    · rw [if_pos h]; exact vst_1 (Or.inl rfl)
    · rw [if_neg h]
      cases hm : qnm (qnx T n p) with
      | some i => exact vst_1 (Or.inr (Or.inl ⟨rfl, i, (qnm_lt hm).1, rfl⟩))
      | none =>
        dsimp only
        split
        · have h1 := qE_v (T := T) (n := n) ih (p + 1)
          cases hr : qE T n (qO T n k) (p + 1) with
          | inl q => exact trivial
          | inr w =>
            rw [hr] at h1
            dsimp only
            split
            · exact h1
            · exact trivial
        · split
          · have h1 := ih (p + 1)
            cases hr : qO T n k (p + 1) with
            | inl q => exact trivial
            | inr w =>
              rw [hr] at h1
              exact vst_app h1 (vst_1 (Or.inr (Or.inr (Or.inr (Or.inl rfl)))))
          · split
            · have h1 := ih (p + 1)
              cases hr : qO T n k (p + 1) with
              | inl q => exact trivial
              | inr w =>
                rw [hr] at h1
                exact vst_app h1 (vst_1 (Or.inr (Or.inr (Or.inl rfl))))
            · exact trivial
theorem qTop_v (T : Nat → Int32) (n p : Nat) : vR (qTop T n p) := qE_v (qO_v T n 6) p
theorem x_join {g : zG} {d : Nat} {μ : zMem} {op : Int32} (hd : 1 ≤ d) (u v : Int32) (h : ten op) : zM g d P_joined [.int op, .int u, .int v] μ (fun r μ' => r = some (.int (qjn op u v)) ∧ μ' = μ) := by
  rcases h with rfl | rfl | rfl | rfl | rfl | rfl | rfl | rfl | rfl | rfl
  · exact x_join_124 hd u v
  · exact x_join_38 hd u v
  · exact x_join_60 hd u v
  · exact x_join_61 hd u v
  · exact x_join_62 hd u v
  · exact x_join_43 hd u v
  · exact x_join_45 hd u v
  · exact x_join_42 hd u v
  · exact x_join_47 hd u v
  · exact x_join_37 hd u v
def vS (c _ : Nat) : Bool := c == 87 || c == 91
theorem vS_sX : ∀ c k, vS c k = true → sX c k = true := by
  intro c k h
  unfold vS at h
  simp only [Bool.or_eq_true, beq_iff_eq] at h
  rcases h with rfl | rfl <;> rfl
def stkR (sk : Nat) : List Int32 → zMem → Prop
  | [], _ => True
  | x :: r, μ => μ.1 sk r.length = x ∧ stkR sk r μ
theorem stkR_put {sk k : Nat} {v : Int32} {μ : zMem} : ∀ (l : List Int32), stkR sk l μ → l.length ≤ k → stkR sk l (zpI μ sk k v)
  | [], _, _ => trivial
  | x :: r, h, hk => by
    have hk2 : r.length + 1 ≤ k := hk
    exact ⟨by rw [zpI_at, if_neg (by omega)]; exact h.1, stkR_put r h.2 (by omega)⟩

set_option maxRecDepth 100000 in
set_option maxHeartbeats 4000000 in
theorem x_told_10 {g : zG} {d : Nat} {μ : zMem} {i : Nat} (hi : i < 6) : zM g d P_toldAs [.ref 10, .int (nI i)] μ (fun r μ' => r = some (.int (μ.1 88 i)) ∧ μ' = μ) := by
  refine zM_of (by decide +kernel) rfl rfl (Nat.le_of_ble_eq_true rfl) rfl ?_
  have ei : (nI i).toNatClampNeg = i := nI_clamp (by omega)
  have hvi : vp_in (nI i) 6 := vp_in_nI hi (by omega)
  refine zb P_toldAs_s0 rfl ?_
  refine z_lt P_toldAs_d1 (tgt := 22) rfl (fun h1 => absurd h1 (nI_pos (by omega))) (fun h1 => ?_)
  refine zb P_toldAs_s4 rfl ?_
  refine z_cge P_toldAs_d10 (tgt := 22) rfl (fun h10 => absurd h10 (show ¬ nI 6 ≤ nI i from nI_ge hi (by omega))) (fun h10 => ?_)
  refine zb1 P_toldAs_s13 rfl hvi ?_
  refine z_ret P_toldAs_d23 rfl ?_
  exact ⟨by rw [ei], rfl⟩

set_option maxRecDepth 100000 in
set_option maxHeartbeats 4000000 in
theorem v35_10 {g : zG} {d : Nat} {μ : zMem} {Q : Option Value → zMem → Prop} {at' i sz : Nat} {x4 x5 x6 : Option Value} (hat : at' < sz) (hsz : sz ≤ 121) (hi : i ≤ at') (hs : μ.1 10 4 = nI sz) {st : List Int32} {a : Int32} (h1 : μ.1 85 (nI at').toNatClampNeg = 35) (h2 : μ.1 86 (nI at').toNatClampNeg = a) (hl : st.length ≤ at') (hst : stkR 87 st μ) (K : ∀ (μ' : zMem) (y4 y5 y6 : Option Value), zq vS μ μ' → stkR 87 (a :: st) μ' → zW g P_value d 6 [some (.ref 10), some (.int (nI (st.length + 1))), some (.int (nI (at' + 1))), some (.int (nI (i + 1))), y4, y5, y6] [] μ' Q) : zW g P_value d 6 [some (.ref 10), some (.int (nI st.length)), some (.int (nI at')), some (.int (nI i)), x4, x5, x6] [] μ Q := by
  have eat : (nI at').toNatClampNeg = at' := nI_clamp (by omega)
  have hva : vp_in (nI at') 121 := vp_in_nI (by omega) (by omega)
  have hvt : vp_in (nI st.length) 121 := vp_in_nI (by omega) (by omega)
  have et : (nI st.length).toNatClampNeg = st.length := nI_clamp (by omega)
  refine zb P_value_s6 rfl ?_
  refine z_cge P_value_d11 (tgt := 230) rfl (fun h11 => absurd h11 (show ¬ μ.1 10 4 ≤ nI i by rw [hs]; exact nI_ge (by omega) (by omega))) (fun h11 => ?_)
  refine zb P_value_s14 rfl ?_
  refine z_lt P_value_d15 (tgt := 230) rfl (fun h15 => absurd h15 (nI_pos (by omega))) (fun h15 => ?_)
  refine zb P_value_s18 rfl ?_
  refine z_cge P_value_d23 (tgt := 230) rfl (fun h23 => absurd h23 (show ¬ μ.1 10 4 ≤ nI at' by rw [hs]; exact nI_ge (by omega) (by omega))) (fun h23 => ?_)
  refine zb2 P_value_s26 rfl (by first | exact hva | exact hvt) (by first | exact hva | exact hvt) ?_
  refine z_ceq P_value_d49 (tgt := 59) rfl (fun h49 => ?_) (fun h49 => absurd h1 h49)
  refine zb P_value_s59 rfl ?_
  refine z_cge P_value_d62 (tgt := 224) rfl (fun h62 => absurd h62 (show ¬ (121 : Int32) ≤ nI st.length from nI_ge (b := 121) (by omega) (by omega))) (fun h62 => ?_)
  refine zb P_value_s65 rfl ?_
  refine z_cne P_value_d74 (tgt := 82) rfl (fun h74 => absurd h1 h74) (fun h74 => ?_)
  refine zb1 P_value_s77 rfl (by first | exact hva | exact hvt) ?_
  rw [nI_1, nI_1, nI_1, h2, et]
  exact K _ _ _ _ (zq.w rfl) ⟨by rw [zpI_at, if_pos rfl], stkR_put st hst (Nat.le_refl _)⟩

set_option maxRecDepth 100000 in
set_option maxHeartbeats 4000000 in
theorem v97_10 {g : zG} {d : Nat} {μ : zMem} {Q : Option Value → zMem → Prop} {at' i sz : Nat} {x4 x5 x6 : Option Value} (hat : at' < sz) (hsz : sz ≤ 121) (hi : i ≤ at') (hs : μ.1 10 4 = nI sz) {st : List Int32} {a : Nat} (h1 : μ.1 85 (nI at').toNatClampNeg = 97) (h2 : μ.1 86 (nI at').toNatClampNeg = nI a) (ha : a < 6) (hd : 1 ≤ d) (hl : st.length ≤ at') (hst : stkR 87 st μ) (K : ∀ (μ' : zMem) (y4 y5 y6 : Option Value), zq vS μ μ' → stkR 87 (μ.1 88 a :: st) μ' → zW g P_value d 6 [some (.ref 10), some (.int (nI (st.length + 1))), some (.int (nI (at' + 1))), some (.int (nI (i + 1))), y4, y5, y6] [] μ' Q) : zW g P_value d 6 [some (.ref 10), some (.int (nI st.length)), some (.int (nI at')), some (.int (nI i)), x4, x5, x6] [] μ Q := by
  have eat : (nI at').toNatClampNeg = at' := nI_clamp (by omega)
  have hva : vp_in (nI at') 121 := vp_in_nI (by omega) (by omega)
  have hvt : vp_in (nI st.length) 121 := vp_in_nI (by omega) (by omega)
  have et : (nI st.length).toNatClampNeg = st.length := nI_clamp (by omega)
  refine zb P_value_s6 rfl ?_
  refine z_cge P_value_d11 (tgt := 230) rfl (fun h11 => absurd h11 (show ¬ μ.1 10 4 ≤ nI i by rw [hs]; exact nI_ge (by omega) (by omega))) (fun h11 => ?_)
  refine zb P_value_s14 rfl ?_
  refine z_lt P_value_d15 (tgt := 230) rfl (fun h15 => absurd h15 (nI_pos (by omega))) (fun h15 => ?_)
  refine zb P_value_s18 rfl ?_
  refine z_cge P_value_d23 (tgt := 230) rfl (fun h23 => absurd h23 (show ¬ μ.1 10 4 ≤ nI at' by rw [hs]; exact nI_ge (by omega) (by omega))) (fun h23 => ?_)
  refine zb2 P_value_s26 rfl (by first | exact hva | exact hvt) (by first | exact hva | exact hvt) ?_
  refine z_ceq P_value_d49 (tgt := 59) rfl (fun h49 => absurd (h49.symm.trans h1) (by decide)) (fun h49 => ?_)
  refine zb P_value_s52 rfl ?_
  refine z_cne P_value_d56 (tgt := 95) rfl (fun h56 => absurd h1 h56) (fun h56 => ?_)
  refine zb P_value_s59 rfl ?_
  refine z_cge P_value_d62 (tgt := 224) rfl (fun h62 => absurd h62 (show ¬ (121 : Int32) ≤ nI st.length from nI_ge (b := 121) (by omega) (by omega))) (fun h62 => ?_)
  refine zb P_value_s65 rfl ?_
  refine z_cne P_value_d74 (tgt := 82) rfl (fun h74 => ?_) (fun h74 => absurd (h74.symm.trans h1) (by decide))
  refine zb P_value_s82 rfl ?_
  rw [h2]
  refine zcallV P_value_d85 k6_28 (by omega) (x_told_10 ha) rfl rfl rfl (Nat.le_of_ble_eq_true rfl) ?_
  rintro _ μx ⟨rfl, hx⟩
  rw [hx]
  clear hx μx
  refine zb1 P_value_s88 rfl (by first | exact hva | exact hvt) ?_
  rw [nI_1, nI_1, nI_1, et]
  exact K _ _ _ _ (zq.w rfl) ⟨by rw [zpI_at, if_pos rfl], stkR_put st hst (Nat.le_refl _)⟩

set_option maxRecDepth 100000 in
set_option maxHeartbeats 4000000 in
theorem v126_10 {g : zG} {d : Nat} {μ : zMem} {Q : Option Value → zMem → Prop} {at' i sz : Nat} {x4 x5 x6 : Option Value} (hat : at' < sz) (hsz : sz ≤ 121) (hi : i ≤ at') (hs : μ.1 10 4 = nI sz) {r : List Int32} {a x : Int32} (h1 : μ.1 85 (nI at').toNatClampNeg = 126) (h2 : μ.1 86 (nI at').toNatClampNeg = a) (hl : r.length + 1 ≤ at') (hst : stkR 87 (x :: r) μ) (K : ∀ (μ' : zMem) (y4 y5 y6 : Option Value), zq vS μ μ' → stkR 87 (-x :: r) μ' → zW g P_value d 6 [some (.ref 10), some (.int (nI (r.length + 1))), some (.int (nI (at' + 1))), some (.int (nI (i + 1))), y4, y5, y6] [] μ' Q) : zW g P_value d 6 [some (.ref 10), some (.int (nI (r.length + 1))), some (.int (nI at')), some (.int (nI i)), x4, x5, x6] [] μ Q := by
  have eat : (nI at').toNatClampNeg = at' := nI_clamp (by omega)
  have hva : vp_in (nI at') 121 := vp_in_nI (by omega) (by omega)
  have hvr : vp_in (nI r.length) 121 := vp_in_nI (by omega) (by omega)
  have er : (nI r.length).toNatClampNeg = r.length := nI_clamp (by omega)
  have em : nI (r.length + 1) + -1 = nI r.length := pk_m1 _
  refine zb P_value_s6 rfl ?_
  refine z_cge P_value_d11 (tgt := 230) rfl (fun h11 => absurd h11 (show ¬ μ.1 10 4 ≤ nI i by rw [hs]; exact nI_ge (by omega) (by omega))) (fun h11 => ?_)
  refine zb P_value_s14 rfl ?_
  refine z_lt P_value_d15 (tgt := 230) rfl (fun h15 => absurd h15 (nI_pos (by omega))) (fun h15 => ?_)
  refine zb P_value_s18 rfl ?_
  refine z_cge P_value_d23 (tgt := 230) rfl (fun h23 => absurd h23 (show ¬ μ.1 10 4 ≤ nI at' by rw [hs]; exact nI_ge (by omega) (by omega))) (fun h23 => ?_)
  refine zb2 P_value_s26 rfl (by first | with_reducible exact hva | with_reducible exact hvr | (rw [em]; exact hvr)) (by first | with_reducible exact hva | with_reducible exact hvr | (rw [em]; exact hvr)) ?_
  refine z_ceq P_value_d49 (tgt := 59) rfl (fun h49 => absurd (h49.symm.trans h1) (by decide)) (fun h49 => ?_)
  refine zb P_value_s52 rfl ?_
  refine z_cne P_value_d56 (tgt := 95) rfl (fun h56 => ?_) (fun h56 => absurd (h56.symm.trans h1) (by decide))
  refine zb P_value_s95 rfl ?_
  refine z_cge P_value_d97 (tgt := 102) rfl (fun h97 => ?_) (fun h97 => absurd (show (1 : Int32) ≤ nI (r.length + 1) from nI_le (a := 1) (by omega) (by omega)) h97)
  refine zb1 P_value_s102 rfl (by first | with_reducible exact hva | with_reducible exact hvr | (rw [em]; exact hvr)) ?_
  rw [em, er, hst.1]
  refine z_cne P_value_d117 (tgt := 123) rfl (fun h117 => ?_) (fun h117 => absurd (h117.symm.trans h1) (by decide))
  refine zb P_value_s123 rfl ?_
  refine z_cne P_value_d127 (tgt := 145) rfl (fun h127 => ?_) (fun h127 => absurd (h127.symm.trans h1) (by decide))
  refine zb P_value_s145 rfl ?_
  refine z_ceq P_value_d149 (tgt := 159) rfl (fun h149 => ?_) (fun h149 => absurd h1 h149)
  refine zb P_value_s159 rfl ?_
  refine z_cne P_value_d168 (tgt := 177) rfl (fun h168 => absurd h1 h168) (fun h168 => ?_)
  refine zb1 P_value_s171 rfl (by first | with_reducible exact hva | with_reducible exact hvr | (rw [em]; exact hvr)) ?_
  rw [nI_1, nI_1, nI_1, er]
  exact K _ _ _ _ (zq.w rfl) ⟨by rw [zpI_at, if_pos rfl], stkR_put r hst.2 (Nat.le_refl _)⟩

set_option maxRecDepth 100000 in
set_option maxHeartbeats 4000000 in
theorem v33_10 {g : zG} {d : Nat} {μ : zMem} {Q : Option Value → zMem → Prop} {at' i sz : Nat} {x4 x5 x6 : Option Value} (hat : at' < sz) (hsz : sz ≤ 121) (hi : i ≤ at') (hs : μ.1 10 4 = nI sz) {r : List Int32} {a x : Int32} (h1 : μ.1 85 (nI at').toNatClampNeg = 33) (h2 : μ.1 86 (nI at').toNatClampNeg = a) (hd : 1 ≤ d) (hl : r.length + 1 ≤ at') (hst : stkR 87 (x :: r) μ) (K : ∀ (μ' : zMem) (y4 y5 y6 : Option Value), zq vS μ μ' → stkR 87 (zB (x = 0) :: r) μ' → zW g P_value d 6 [some (.ref 10), some (.int (nI (r.length + 1))), some (.int (nI (at' + 1))), some (.int (nI (i + 1))), y4, y5, y6] [] μ' Q) : zW g P_value d 6 [some (.ref 10), some (.int (nI (r.length + 1))), some (.int (nI at')), some (.int (nI i)), x4, x5, x6] [] μ Q := by
  have eat : (nI at').toNatClampNeg = at' := nI_clamp (by omega)
  have hva : vp_in (nI at') 121 := vp_in_nI (by omega) (by omega)
  have hvr : vp_in (nI r.length) 121 := vp_in_nI (by omega) (by omega)
  have er : (nI r.length).toNatClampNeg = r.length := nI_clamp (by omega)
  have em : nI (r.length + 1) + -1 = nI r.length := pk_m1 _
  refine zb P_value_s6 rfl ?_
  refine z_cge P_value_d11 (tgt := 230) rfl (fun h11 => absurd h11 (show ¬ μ.1 10 4 ≤ nI i by rw [hs]; exact nI_ge (by omega) (by omega))) (fun h11 => ?_)
  refine zb P_value_s14 rfl ?_
  refine z_lt P_value_d15 (tgt := 230) rfl (fun h15 => absurd h15 (nI_pos (by omega))) (fun h15 => ?_)
  refine zb P_value_s18 rfl ?_
  refine z_cge P_value_d23 (tgt := 230) rfl (fun h23 => absurd h23 (show ¬ μ.1 10 4 ≤ nI at' by rw [hs]; exact nI_ge (by omega) (by omega))) (fun h23 => ?_)
  refine zb2 P_value_s26 rfl (by first | with_reducible exact hva | with_reducible exact hvr | (rw [em]; exact hvr)) (by first | with_reducible exact hva | with_reducible exact hvr | (rw [em]; exact hvr)) ?_
  refine z_ceq P_value_d49 (tgt := 59) rfl (fun h49 => absurd (h49.symm.trans h1) (by decide)) (fun h49 => ?_)
  refine zb P_value_s52 rfl ?_
  refine z_cne P_value_d56 (tgt := 95) rfl (fun h56 => ?_) (fun h56 => absurd (h56.symm.trans h1) (by decide))
  refine zb P_value_s95 rfl ?_
  refine z_cge P_value_d97 (tgt := 102) rfl (fun h97 => ?_) (fun h97 => absurd (show (1 : Int32) ≤ nI (r.length + 1) from nI_le (a := 1) (by omega) (by omega)) h97)
  refine zb1 P_value_s102 rfl (by first | with_reducible exact hva | with_reducible exact hvr | (rw [em]; exact hvr)) ?_
  rw [em, er, hst.1]
  refine z_cne P_value_d117 (tgt := 123) rfl (fun h117 => ?_) (fun h117 => absurd (h117.symm.trans h1) (by decide))
  refine zb P_value_s123 rfl ?_
  refine z_cne P_value_d127 (tgt := 145) rfl (fun h127 => ?_) (fun h127 => absurd (h127.symm.trans h1) (by decide))
  refine zb P_value_s145 rfl ?_
  refine z_ceq P_value_d149 (tgt := 159) rfl (fun h149 => absurd (h149.symm.trans h1) (by decide)) (fun h149 => ?_)
  refine zb P_value_s152 rfl ?_
  refine z_cne P_value_d156 (tgt := 197) rfl (fun h156 => absurd h1 h156) (fun h156 => ?_)
  refine zb P_value_s159 rfl ?_
  refine z_cne P_value_d168 (tgt := 177) rfl (fun h168 => ?_) (fun h168 => absurd (h168.symm.trans h1) (by decide))
  refine zb P_value_s177 rfl ?_
  refine z_ne P_value_d179 (tgt := 186) rfl (fun h179 => ?_) (fun h179 => ?_)
  · refine zb P_value_s186 rfl ?_
    refine zcallN P_value_d187 k6_32 (by omega) (x_bit _) rfl rfl (Nat.le_of_ble_eq_true rfl) ?_
    rintro _ μx ⟨rfl, hx⟩
    rw [hx]
    clear hx μx
    refine zb1 P_value_s190 rfl (by first | with_reducible exact hva | with_reducible exact hvr | (rw [em]; exact hvr)) ?_
    rw [nI_1, nI_1, nI_1, er]
    refine K _ _ _ _ (zq.w rfl) ⟨?_, stkR_put r hst.2 (Nat.le_refl _)⟩
    rw [zpI_at, if_pos rfl]
    first | exact zB_cong (iff_of_true (by decide) h179) | exact zB_cong (iff_of_false (by decide) h179)
  · refine zb P_value_s182 rfl ?_
    refine zcallN P_value_d187 k6_32 (by omega) (x_bit _) rfl rfl (Nat.le_of_ble_eq_true rfl) ?_
    rintro _ μx ⟨rfl, hx⟩
    rw [hx]
    clear hx μx
    refine zb1 P_value_s190 rfl (by first | with_reducible exact hva | with_reducible exact hvr | (rw [em]; exact hvr)) ?_
    rw [nI_1, nI_1, nI_1, er]
    refine K _ _ _ _ (zq.w rfl) ⟨?_, stkR_put r hst.2 (Nat.le_refl _)⟩
    rw [zpI_at, if_pos rfl]
    first | exact zB_cong (iff_of_true (by decide) h179) | exact zB_cong (iff_of_false (by decide) h179)

set_option maxRecDepth 100000 in
set_option maxHeartbeats 4000000 in
theorem vbin_10 {g : zG} {d : Nat} {μ : zMem} {Q : Option Value → zMem → Prop} {at' i sz : Nat} {x4 x5 x6 : Option Value} (hat : at' < sz) (hsz : sz ≤ 121) (hi : i ≤ at') (hs : μ.1 10 4 = nI sz) {r : List Int32} {a op x y : Int32} (h1 : μ.1 85 (nI at').toNatClampNeg = op) (h2 : μ.1 86 (nI at').toNatClampNeg = a) (hop : ten op) (hd : 2 ≤ d) (hl : r.length + 2 ≤ at') (hst : stkR 87 (x :: y :: r) μ) (K : ∀ (μ' : zMem) (y4 y5 y6 : Option Value), zq vS μ μ' → stkR 87 (qjn op y x :: r) μ' → zW g P_value d 6 [some (.ref 10), some (.int (nI (r.length + 1))), some (.int (nI (at' + 1))), some (.int (nI (i + 1))), y4, y5, y6] [] μ' Q) : zW g P_value d 6 [some (.ref 10), some (.int (nI (r.length + 1 + 1))), some (.int (nI at')), some (.int (nI i)), x4, x5, x6] [] μ Q := by
  have eat : (nI at').toNatClampNeg = at' := nI_clamp (by omega)
  have hva : vp_in (nI at') 121 := vp_in_nI (by omega) (by omega)
  have hvr : vp_in (nI (r.length + 1)) 121 := vp_in_nI (by omega) (by omega)
  have er : (nI (r.length + 1)).toNatClampNeg = r.length + 1 := nI_clamp (by omega)
  have em : nI (r.length + 1 + 1) + -1 = nI (r.length + 1) := pk_m1 _
  have em2 : nI (r.length + 1) - 1 = nI r.length := nI_pred _
  have hv0 : vp_in (nI (r.length + 1) - 1) 121 := by rw [em2]; exact vp_in_nI (by omega) (by omega)
  have er0 : (nI r.length).toNatClampNeg = r.length := nI_clamp (by omega)
  have hv00 : vp_in (nI r.length) 121 := vp_in_nI (by omega) (by omega)
  refine zb P_value_s6 rfl ?_
  refine z_cge P_value_d11 (tgt := 230) rfl (fun h11 => absurd h11 (show ¬ μ.1 10 4 ≤ nI i by rw [hs]; exact nI_ge (by omega) (by omega))) (fun h11 => ?_)
  refine zb P_value_s14 rfl ?_
  refine z_lt P_value_d15 (tgt := 230) rfl (fun h15 => absurd h15 (nI_pos (by omega))) (fun h15 => ?_)
  refine zb P_value_s18 rfl ?_
  refine z_cge P_value_d23 (tgt := 230) rfl (fun h23 => absurd h23 (show ¬ μ.1 10 4 ≤ nI at' by rw [hs]; exact nI_ge (by omega) (by omega))) (fun h23 => ?_)
  refine zb2 P_value_s26 rfl (by first | with_reducible exact hva | with_reducible exact hvr | with_reducible exact hv0 | with_reducible exact hv00 | (rw [em]; exact hvr)) (by first | with_reducible exact hva | with_reducible exact hvr | with_reducible exact hv0 | with_reducible exact hv00 | (rw [em]; exact hvr)) ?_
  refine z_ceq P_value_d49 (tgt := 59) rfl (fun h49 => absurd (h49.symm.trans h1) (fun z => by subst z; rcases hop with w | w | w | w | w | w | w | w | w | w <;> exact absurd w (by decide))) (fun h49 => ?_)
  refine zb P_value_s52 rfl ?_
  refine z_cne P_value_d56 (tgt := 95) rfl (fun h56 => ?_) (fun h56 => absurd (h56.symm.trans h1) (fun z => by subst z; rcases hop with w | w | w | w | w | w | w | w | w | w <;> exact absurd w (by decide)))
  refine zb P_value_s95 rfl ?_
  refine z_cge P_value_d97 (tgt := 102) rfl (fun h97 => ?_) (fun h97 => absurd (show (1 : Int32) ≤ nI (r.length + 1 + 1) from nI_le (a := 1) (by omega) (by omega)) h97)
  refine zb1 P_value_s102 rfl (by first | with_reducible exact hva | with_reducible exact hvr | with_reducible exact hv0 | with_reducible exact hv00 | (rw [em]; exact hvr)) ?_
  have hx : μ.1 87 (r.length + 1) = x := hst.1
  have hy : μ.1 87 r.length = y := hst.2.1
  rw [em, er, hx]
  refine z_cne P_value_d117 (tgt := 123) rfl (fun h117 => ?_) (fun h117 => absurd (h117.symm.trans h1) (fun z => by subst z; rcases hop with w | w | w | w | w | w | w | w | w | w <;> exact absurd w (by decide)))
  refine zb P_value_s123 rfl ?_
  refine z_cne P_value_d127 (tgt := 145) rfl (fun h127 => ?_) (fun h127 => absurd (h127.symm.trans h1) (fun z => by subst z; rcases hop with w | w | w | w | w | w | w | w | w | w <;> exact absurd w (by decide)))
  refine zb P_value_s145 rfl ?_
  refine z_ceq P_value_d149 (tgt := 159) rfl (fun h149 => absurd (h149.symm.trans h1) (fun z => by subst z; rcases hop with w | w | w | w | w | w | w | w | w | w <;> exact absurd w (by decide))) (fun h149 => ?_)
  refine zb P_value_s152 rfl ?_
  refine z_cne P_value_d156 (tgt := 197) rfl (fun h156 => ?_) (fun h156 => absurd (h156.symm.trans h1) (fun z => by subst z; rcases hop with w | w | w | w | w | w | w | w | w | w <;> exact absurd w (by decide)))
  refine zb P_value_s197 rfl ?_
  refine z_le P_value_d198 (tgt := 224) rfl (fun h198 => absurd h198 (nI_nle (by omega) (by omega))) (fun h198 => ?_)
  refine zb1 P_value_s201 rfl (by first | with_reducible exact hva | with_reducible exact hvr | with_reducible exact hv0 | with_reducible exact hv00 | (rw [em]; exact hvr)) ?_
  rw [em2, er0, hy, h1]
  refine zcallS P_value_d220 k6_38 (by omega) (x_join (by omega) _ _ hop) rfl rfl (Nat.le_of_ble_eq_true rfl) ?_
  rintro _ μx ⟨rfl, hx⟩
  rw [hx]
  clear hx μx
  refine zb1 P_value_s223 rfl (by first | with_reducible exact hva | with_reducible exact hvr | with_reducible exact hv0 | with_reducible exact hv00 | (rw [em]; exact hvr)) ?_
  rw [nI_1, nI_1, er0]
  exact K _ _ _ _ (zq.w rfl) ⟨by rw [zpI_at, if_pos rfl], stkR_put r hst.2.2 (Nat.le_refl _)⟩

set_option maxRecDepth 100000 in
set_option maxHeartbeats 4000000 in
theorem x_told_11 {g : zG} {d : Nat} {μ : zMem} {i : Nat} (hi : i < 6) : zM g d P_toldAs [.ref 11, .int (nI i)] μ (fun r μ' => r = some (.int (μ.1 92 i)) ∧ μ' = μ) := by
  refine zM_of (by decide +kernel) rfl rfl (Nat.le_of_ble_eq_true rfl) rfl ?_
  have ei : (nI i).toNatClampNeg = i := nI_clamp (by omega)
  have hvi : vp_in (nI i) 6 := vp_in_nI hi (by omega)
  refine zb P_toldAs_s0 rfl ?_
  refine z_lt P_toldAs_d1 (tgt := 22) rfl (fun h1 => absurd h1 (nI_pos (by omega))) (fun h1 => ?_)
  refine zb P_toldAs_s4 rfl ?_
  refine z_cge P_toldAs_d10 (tgt := 22) rfl (fun h10 => absurd h10 (show ¬ nI 6 ≤ nI i from nI_ge hi (by omega))) (fun h10 => ?_)
  refine zb1 P_toldAs_s13 rfl hvi ?_
  refine z_ret P_toldAs_d23 rfl ?_
  exact ⟨by rw [ei], rfl⟩

set_option maxRecDepth 100000 in
set_option maxHeartbeats 4000000 in
theorem v35_11 {g : zG} {d : Nat} {μ : zMem} {Q : Option Value → zMem → Prop} {at' i sz : Nat} {x4 x5 x6 : Option Value} (hat : at' < sz) (hsz : sz ≤ 121) (hi : i ≤ at') (hs : μ.1 11 4 = nI sz) {st : List Int32} {a : Int32} (h1 : μ.1 89 (nI at').toNatClampNeg = 35) (h2 : μ.1 90 (nI at').toNatClampNeg = a) (hl : st.length ≤ at') (hst : stkR 91 st μ) (K : ∀ (μ' : zMem) (y4 y5 y6 : Option Value), zq vS μ μ' → stkR 91 (a :: st) μ' → zW g P_value d 6 [some (.ref 11), some (.int (nI (st.length + 1))), some (.int (nI (at' + 1))), some (.int (nI (i + 1))), y4, y5, y6] [] μ' Q) : zW g P_value d 6 [some (.ref 11), some (.int (nI st.length)), some (.int (nI at')), some (.int (nI i)), x4, x5, x6] [] μ Q := by
  have eat : (nI at').toNatClampNeg = at' := nI_clamp (by omega)
  have hva : vp_in (nI at') 121 := vp_in_nI (by omega) (by omega)
  have hvt : vp_in (nI st.length) 121 := vp_in_nI (by omega) (by omega)
  have et : (nI st.length).toNatClampNeg = st.length := nI_clamp (by omega)
  refine zb P_value_s6 rfl ?_
  refine z_cge P_value_d11 (tgt := 230) rfl (fun h11 => absurd h11 (show ¬ μ.1 11 4 ≤ nI i by rw [hs]; exact nI_ge (by omega) (by omega))) (fun h11 => ?_)
  refine zb P_value_s14 rfl ?_
  refine z_lt P_value_d15 (tgt := 230) rfl (fun h15 => absurd h15 (nI_pos (by omega))) (fun h15 => ?_)
  refine zb P_value_s18 rfl ?_
  refine z_cge P_value_d23 (tgt := 230) rfl (fun h23 => absurd h23 (show ¬ μ.1 11 4 ≤ nI at' by rw [hs]; exact nI_ge (by omega) (by omega))) (fun h23 => ?_)
  refine zb2 P_value_s26 rfl (by first | exact hva | exact hvt) (by first | exact hva | exact hvt) ?_
  refine z_ceq P_value_d49 (tgt := 59) rfl (fun h49 => ?_) (fun h49 => absurd h1 h49)
  refine zb P_value_s59 rfl ?_
  refine z_cge P_value_d62 (tgt := 224) rfl (fun h62 => absurd h62 (show ¬ (121 : Int32) ≤ nI st.length from nI_ge (b := 121) (by omega) (by omega))) (fun h62 => ?_)
  refine zb P_value_s65 rfl ?_
  refine z_cne P_value_d74 (tgt := 82) rfl (fun h74 => absurd h1 h74) (fun h74 => ?_)
  refine zb1 P_value_s77 rfl (by first | exact hva | exact hvt) ?_
  rw [nI_1, nI_1, nI_1, h2, et]
  exact K _ _ _ _ (zq.w rfl) ⟨by rw [zpI_at, if_pos rfl], stkR_put st hst (Nat.le_refl _)⟩

set_option maxRecDepth 100000 in
set_option maxHeartbeats 4000000 in
theorem v97_11 {g : zG} {d : Nat} {μ : zMem} {Q : Option Value → zMem → Prop} {at' i sz : Nat} {x4 x5 x6 : Option Value} (hat : at' < sz) (hsz : sz ≤ 121) (hi : i ≤ at') (hs : μ.1 11 4 = nI sz) {st : List Int32} {a : Nat} (h1 : μ.1 89 (nI at').toNatClampNeg = 97) (h2 : μ.1 90 (nI at').toNatClampNeg = nI a) (ha : a < 6) (hd : 1 ≤ d) (hl : st.length ≤ at') (hst : stkR 91 st μ) (K : ∀ (μ' : zMem) (y4 y5 y6 : Option Value), zq vS μ μ' → stkR 91 (μ.1 92 a :: st) μ' → zW g P_value d 6 [some (.ref 11), some (.int (nI (st.length + 1))), some (.int (nI (at' + 1))), some (.int (nI (i + 1))), y4, y5, y6] [] μ' Q) : zW g P_value d 6 [some (.ref 11), some (.int (nI st.length)), some (.int (nI at')), some (.int (nI i)), x4, x5, x6] [] μ Q := by
  have eat : (nI at').toNatClampNeg = at' := nI_clamp (by omega)
  have hva : vp_in (nI at') 121 := vp_in_nI (by omega) (by omega)
  have hvt : vp_in (nI st.length) 121 := vp_in_nI (by omega) (by omega)
  have et : (nI st.length).toNatClampNeg = st.length := nI_clamp (by omega)
  refine zb P_value_s6 rfl ?_
  refine z_cge P_value_d11 (tgt := 230) rfl (fun h11 => absurd h11 (show ¬ μ.1 11 4 ≤ nI i by rw [hs]; exact nI_ge (by omega) (by omega))) (fun h11 => ?_)
  refine zb P_value_s14 rfl ?_
  refine z_lt P_value_d15 (tgt := 230) rfl (fun h15 => absurd h15 (nI_pos (by omega))) (fun h15 => ?_)
  refine zb P_value_s18 rfl ?_
  refine z_cge P_value_d23 (tgt := 230) rfl (fun h23 => absurd h23 (show ¬ μ.1 11 4 ≤ nI at' by rw [hs]; exact nI_ge (by omega) (by omega))) (fun h23 => ?_)
  refine zb2 P_value_s26 rfl (by first | exact hva | exact hvt) (by first | exact hva | exact hvt) ?_
  refine z_ceq P_value_d49 (tgt := 59) rfl (fun h49 => absurd (h49.symm.trans h1) (by decide)) (fun h49 => ?_)
  refine zb P_value_s52 rfl ?_
  refine z_cne P_value_d56 (tgt := 95) rfl (fun h56 => absurd h1 h56) (fun h56 => ?_)
  refine zb P_value_s59 rfl ?_
  refine z_cge P_value_d62 (tgt := 224) rfl (fun h62 => absurd h62 (show ¬ (121 : Int32) ≤ nI st.length from nI_ge (b := 121) (by omega) (by omega))) (fun h62 => ?_)
  refine zb P_value_s65 rfl ?_
  refine z_cne P_value_d74 (tgt := 82) rfl (fun h74 => ?_) (fun h74 => absurd (h74.symm.trans h1) (by decide))
  refine zb P_value_s82 rfl ?_
  rw [h2]
  refine zcallV P_value_d85 k6_28 (by omega) (x_told_11 ha) rfl rfl rfl (Nat.le_of_ble_eq_true rfl) ?_
  rintro _ μx ⟨rfl, hx⟩
  rw [hx]
  clear hx μx
  refine zb1 P_value_s88 rfl (by first | exact hva | exact hvt) ?_
  rw [nI_1, nI_1, nI_1, et]
  exact K _ _ _ _ (zq.w rfl) ⟨by rw [zpI_at, if_pos rfl], stkR_put st hst (Nat.le_refl _)⟩

set_option maxRecDepth 100000 in
set_option maxHeartbeats 4000000 in
theorem v126_11 {g : zG} {d : Nat} {μ : zMem} {Q : Option Value → zMem → Prop} {at' i sz : Nat} {x4 x5 x6 : Option Value} (hat : at' < sz) (hsz : sz ≤ 121) (hi : i ≤ at') (hs : μ.1 11 4 = nI sz) {r : List Int32} {a x : Int32} (h1 : μ.1 89 (nI at').toNatClampNeg = 126) (h2 : μ.1 90 (nI at').toNatClampNeg = a) (hl : r.length + 1 ≤ at') (hst : stkR 91 (x :: r) μ) (K : ∀ (μ' : zMem) (y4 y5 y6 : Option Value), zq vS μ μ' → stkR 91 (-x :: r) μ' → zW g P_value d 6 [some (.ref 11), some (.int (nI (r.length + 1))), some (.int (nI (at' + 1))), some (.int (nI (i + 1))), y4, y5, y6] [] μ' Q) : zW g P_value d 6 [some (.ref 11), some (.int (nI (r.length + 1))), some (.int (nI at')), some (.int (nI i)), x4, x5, x6] [] μ Q := by
  have eat : (nI at').toNatClampNeg = at' := nI_clamp (by omega)
  have hva : vp_in (nI at') 121 := vp_in_nI (by omega) (by omega)
  have hvr : vp_in (nI r.length) 121 := vp_in_nI (by omega) (by omega)
  have er : (nI r.length).toNatClampNeg = r.length := nI_clamp (by omega)
  have em : nI (r.length + 1) + -1 = nI r.length := pk_m1 _
  refine zb P_value_s6 rfl ?_
  refine z_cge P_value_d11 (tgt := 230) rfl (fun h11 => absurd h11 (show ¬ μ.1 11 4 ≤ nI i by rw [hs]; exact nI_ge (by omega) (by omega))) (fun h11 => ?_)
  refine zb P_value_s14 rfl ?_
  refine z_lt P_value_d15 (tgt := 230) rfl (fun h15 => absurd h15 (nI_pos (by omega))) (fun h15 => ?_)
  refine zb P_value_s18 rfl ?_
  refine z_cge P_value_d23 (tgt := 230) rfl (fun h23 => absurd h23 (show ¬ μ.1 11 4 ≤ nI at' by rw [hs]; exact nI_ge (by omega) (by omega))) (fun h23 => ?_)
  refine zb2 P_value_s26 rfl (by first | with_reducible exact hva | with_reducible exact hvr | (rw [em]; exact hvr)) (by first | with_reducible exact hva | with_reducible exact hvr | (rw [em]; exact hvr)) ?_
  refine z_ceq P_value_d49 (tgt := 59) rfl (fun h49 => absurd (h49.symm.trans h1) (by decide)) (fun h49 => ?_)
  refine zb P_value_s52 rfl ?_
  refine z_cne P_value_d56 (tgt := 95) rfl (fun h56 => ?_) (fun h56 => absurd (h56.symm.trans h1) (by decide))
  refine zb P_value_s95 rfl ?_
  refine z_cge P_value_d97 (tgt := 102) rfl (fun h97 => ?_) (fun h97 => absurd (show (1 : Int32) ≤ nI (r.length + 1) from nI_le (a := 1) (by omega) (by omega)) h97)
  refine zb1 P_value_s102 rfl (by first | with_reducible exact hva | with_reducible exact hvr | (rw [em]; exact hvr)) ?_
  rw [em, er, hst.1]
  refine z_cne P_value_d117 (tgt := 123) rfl (fun h117 => ?_) (fun h117 => absurd (h117.symm.trans h1) (by decide))
  refine zb P_value_s123 rfl ?_
  refine z_cne P_value_d127 (tgt := 145) rfl (fun h127 => ?_) (fun h127 => absurd (h127.symm.trans h1) (by decide))
  refine zb P_value_s145 rfl ?_
  refine z_ceq P_value_d149 (tgt := 159) rfl (fun h149 => ?_) (fun h149 => absurd h1 h149)
  refine zb P_value_s159 rfl ?_
  refine z_cne P_value_d168 (tgt := 177) rfl (fun h168 => absurd h1 h168) (fun h168 => ?_)
  refine zb1 P_value_s171 rfl (by first | with_reducible exact hva | with_reducible exact hvr | (rw [em]; exact hvr)) ?_
  rw [nI_1, nI_1, nI_1, er]
  exact K _ _ _ _ (zq.w rfl) ⟨by rw [zpI_at, if_pos rfl], stkR_put r hst.2 (Nat.le_refl _)⟩

set_option maxRecDepth 100000 in
set_option maxHeartbeats 4000000 in
theorem v33_11 {g : zG} {d : Nat} {μ : zMem} {Q : Option Value → zMem → Prop} {at' i sz : Nat} {x4 x5 x6 : Option Value} (hat : at' < sz) (hsz : sz ≤ 121) (hi : i ≤ at') (hs : μ.1 11 4 = nI sz) {r : List Int32} {a x : Int32} (h1 : μ.1 89 (nI at').toNatClampNeg = 33) (h2 : μ.1 90 (nI at').toNatClampNeg = a) (hd : 1 ≤ d) (hl : r.length + 1 ≤ at') (hst : stkR 91 (x :: r) μ) (K : ∀ (μ' : zMem) (y4 y5 y6 : Option Value), zq vS μ μ' → stkR 91 (zB (x = 0) :: r) μ' → zW g P_value d 6 [some (.ref 11), some (.int (nI (r.length + 1))), some (.int (nI (at' + 1))), some (.int (nI (i + 1))), y4, y5, y6] [] μ' Q) : zW g P_value d 6 [some (.ref 11), some (.int (nI (r.length + 1))), some (.int (nI at')), some (.int (nI i)), x4, x5, x6] [] μ Q := by
  have eat : (nI at').toNatClampNeg = at' := nI_clamp (by omega)
  have hva : vp_in (nI at') 121 := vp_in_nI (by omega) (by omega)
  have hvr : vp_in (nI r.length) 121 := vp_in_nI (by omega) (by omega)
  have er : (nI r.length).toNatClampNeg = r.length := nI_clamp (by omega)
  have em : nI (r.length + 1) + -1 = nI r.length := pk_m1 _
  refine zb P_value_s6 rfl ?_
  refine z_cge P_value_d11 (tgt := 230) rfl (fun h11 => absurd h11 (show ¬ μ.1 11 4 ≤ nI i by rw [hs]; exact nI_ge (by omega) (by omega))) (fun h11 => ?_)
  refine zb P_value_s14 rfl ?_
  refine z_lt P_value_d15 (tgt := 230) rfl (fun h15 => absurd h15 (nI_pos (by omega))) (fun h15 => ?_)
  refine zb P_value_s18 rfl ?_
  refine z_cge P_value_d23 (tgt := 230) rfl (fun h23 => absurd h23 (show ¬ μ.1 11 4 ≤ nI at' by rw [hs]; exact nI_ge (by omega) (by omega))) (fun h23 => ?_)
  refine zb2 P_value_s26 rfl (by first | with_reducible exact hva | with_reducible exact hvr | (rw [em]; exact hvr)) (by first | with_reducible exact hva | with_reducible exact hvr | (rw [em]; exact hvr)) ?_
  refine z_ceq P_value_d49 (tgt := 59) rfl (fun h49 => absurd (h49.symm.trans h1) (by decide)) (fun h49 => ?_)
  refine zb P_value_s52 rfl ?_
  refine z_cne P_value_d56 (tgt := 95) rfl (fun h56 => ?_) (fun h56 => absurd (h56.symm.trans h1) (by decide))
  refine zb P_value_s95 rfl ?_
  refine z_cge P_value_d97 (tgt := 102) rfl (fun h97 => ?_) (fun h97 => absurd (show (1 : Int32) ≤ nI (r.length + 1) from nI_le (a := 1) (by omega) (by omega)) h97)
  refine zb1 P_value_s102 rfl (by first | with_reducible exact hva | with_reducible exact hvr | (rw [em]; exact hvr)) ?_
  rw [em, er, hst.1]
  refine z_cne P_value_d117 (tgt := 123) rfl (fun h117 => ?_) (fun h117 => absurd (h117.symm.trans h1) (by decide))
  refine zb P_value_s123 rfl ?_
  refine z_cne P_value_d127 (tgt := 145) rfl (fun h127 => ?_) (fun h127 => absurd (h127.symm.trans h1) (by decide))
  refine zb P_value_s145 rfl ?_
  refine z_ceq P_value_d149 (tgt := 159) rfl (fun h149 => absurd (h149.symm.trans h1) (by decide)) (fun h149 => ?_)
  refine zb P_value_s152 rfl ?_
  refine z_cne P_value_d156 (tgt := 197) rfl (fun h156 => absurd h1 h156) (fun h156 => ?_)
  refine zb P_value_s159 rfl ?_
  refine z_cne P_value_d168 (tgt := 177) rfl (fun h168 => ?_) (fun h168 => absurd (h168.symm.trans h1) (by decide))
  refine zb P_value_s177 rfl ?_
  refine z_ne P_value_d179 (tgt := 186) rfl (fun h179 => ?_) (fun h179 => ?_)
  · refine zb P_value_s186 rfl ?_
    refine zcallN P_value_d187 k6_32 (by omega) (x_bit _) rfl rfl (Nat.le_of_ble_eq_true rfl) ?_
    rintro _ μx ⟨rfl, hx⟩
    rw [hx]
    clear hx μx
    refine zb1 P_value_s190 rfl (by first | with_reducible exact hva | with_reducible exact hvr | (rw [em]; exact hvr)) ?_
    rw [nI_1, nI_1, nI_1, er]
    refine K _ _ _ _ (zq.w rfl) ⟨?_, stkR_put r hst.2 (Nat.le_refl _)⟩
    rw [zpI_at, if_pos rfl]
    first | exact zB_cong (iff_of_true (by decide) h179) | exact zB_cong (iff_of_false (by decide) h179)
  · refine zb P_value_s182 rfl ?_
    refine zcallN P_value_d187 k6_32 (by omega) (x_bit _) rfl rfl (Nat.le_of_ble_eq_true rfl) ?_
    rintro _ μx ⟨rfl, hx⟩
    rw [hx]
    clear hx μx
    refine zb1 P_value_s190 rfl (by first | with_reducible exact hva | with_reducible exact hvr | (rw [em]; exact hvr)) ?_
    rw [nI_1, nI_1, nI_1, er]
    refine K _ _ _ _ (zq.w rfl) ⟨?_, stkR_put r hst.2 (Nat.le_refl _)⟩
    rw [zpI_at, if_pos rfl]
    first | exact zB_cong (iff_of_true (by decide) h179) | exact zB_cong (iff_of_false (by decide) h179)

set_option maxRecDepth 100000 in
set_option maxHeartbeats 4000000 in
theorem vbin_11 {g : zG} {d : Nat} {μ : zMem} {Q : Option Value → zMem → Prop} {at' i sz : Nat} {x4 x5 x6 : Option Value} (hat : at' < sz) (hsz : sz ≤ 121) (hi : i ≤ at') (hs : μ.1 11 4 = nI sz) {r : List Int32} {a op x y : Int32} (h1 : μ.1 89 (nI at').toNatClampNeg = op) (h2 : μ.1 90 (nI at').toNatClampNeg = a) (hop : ten op) (hd : 2 ≤ d) (hl : r.length + 2 ≤ at') (hst : stkR 91 (x :: y :: r) μ) (K : ∀ (μ' : zMem) (y4 y5 y6 : Option Value), zq vS μ μ' → stkR 91 (qjn op y x :: r) μ' → zW g P_value d 6 [some (.ref 11), some (.int (nI (r.length + 1))), some (.int (nI (at' + 1))), some (.int (nI (i + 1))), y4, y5, y6] [] μ' Q) : zW g P_value d 6 [some (.ref 11), some (.int (nI (r.length + 1 + 1))), some (.int (nI at')), some (.int (nI i)), x4, x5, x6] [] μ Q := by
  have eat : (nI at').toNatClampNeg = at' := nI_clamp (by omega)
  have hva : vp_in (nI at') 121 := vp_in_nI (by omega) (by omega)
  have hvr : vp_in (nI (r.length + 1)) 121 := vp_in_nI (by omega) (by omega)
  have er : (nI (r.length + 1)).toNatClampNeg = r.length + 1 := nI_clamp (by omega)
  have em : nI (r.length + 1 + 1) + -1 = nI (r.length + 1) := pk_m1 _
  have em2 : nI (r.length + 1) - 1 = nI r.length := nI_pred _
  have hv0 : vp_in (nI (r.length + 1) - 1) 121 := by rw [em2]; exact vp_in_nI (by omega) (by omega)
  have er0 : (nI r.length).toNatClampNeg = r.length := nI_clamp (by omega)
  have hv00 : vp_in (nI r.length) 121 := vp_in_nI (by omega) (by omega)
  refine zb P_value_s6 rfl ?_
  refine z_cge P_value_d11 (tgt := 230) rfl (fun h11 => absurd h11 (show ¬ μ.1 11 4 ≤ nI i by rw [hs]; exact nI_ge (by omega) (by omega))) (fun h11 => ?_)
  refine zb P_value_s14 rfl ?_
  refine z_lt P_value_d15 (tgt := 230) rfl (fun h15 => absurd h15 (nI_pos (by omega))) (fun h15 => ?_)
  refine zb P_value_s18 rfl ?_
  refine z_cge P_value_d23 (tgt := 230) rfl (fun h23 => absurd h23 (show ¬ μ.1 11 4 ≤ nI at' by rw [hs]; exact nI_ge (by omega) (by omega))) (fun h23 => ?_)
  refine zb2 P_value_s26 rfl (by first | with_reducible exact hva | with_reducible exact hvr | with_reducible exact hv0 | with_reducible exact hv00 | (rw [em]; exact hvr)) (by first | with_reducible exact hva | with_reducible exact hvr | with_reducible exact hv0 | with_reducible exact hv00 | (rw [em]; exact hvr)) ?_
  refine z_ceq P_value_d49 (tgt := 59) rfl (fun h49 => absurd (h49.symm.trans h1) (fun z => by subst z; rcases hop with w | w | w | w | w | w | w | w | w | w <;> exact absurd w (by decide))) (fun h49 => ?_)
  refine zb P_value_s52 rfl ?_
  refine z_cne P_value_d56 (tgt := 95) rfl (fun h56 => ?_) (fun h56 => absurd (h56.symm.trans h1) (fun z => by subst z; rcases hop with w | w | w | w | w | w | w | w | w | w <;> exact absurd w (by decide)))
  refine zb P_value_s95 rfl ?_
  refine z_cge P_value_d97 (tgt := 102) rfl (fun h97 => ?_) (fun h97 => absurd (show (1 : Int32) ≤ nI (r.length + 1 + 1) from nI_le (a := 1) (by omega) (by omega)) h97)
  refine zb1 P_value_s102 rfl (by first | with_reducible exact hva | with_reducible exact hvr | with_reducible exact hv0 | with_reducible exact hv00 | (rw [em]; exact hvr)) ?_
  have hx : μ.1 91 (r.length + 1) = x := hst.1
  have hy : μ.1 91 r.length = y := hst.2.1
  rw [em, er, hx]
  refine z_cne P_value_d117 (tgt := 123) rfl (fun h117 => ?_) (fun h117 => absurd (h117.symm.trans h1) (fun z => by subst z; rcases hop with w | w | w | w | w | w | w | w | w | w <;> exact absurd w (by decide)))
  refine zb P_value_s123 rfl ?_
  refine z_cne P_value_d127 (tgt := 145) rfl (fun h127 => ?_) (fun h127 => absurd (h127.symm.trans h1) (fun z => by subst z; rcases hop with w | w | w | w | w | w | w | w | w | w <;> exact absurd w (by decide)))
  refine zb P_value_s145 rfl ?_
  refine z_ceq P_value_d149 (tgt := 159) rfl (fun h149 => absurd (h149.symm.trans h1) (fun z => by subst z; rcases hop with w | w | w | w | w | w | w | w | w | w <;> exact absurd w (by decide))) (fun h149 => ?_)
  refine zb P_value_s152 rfl ?_
  refine z_cne P_value_d156 (tgt := 197) rfl (fun h156 => ?_) (fun h156 => absurd (h156.symm.trans h1) (fun z => by subst z; rcases hop with w | w | w | w | w | w | w | w | w | w <;> exact absurd w (by decide)))
  refine zb P_value_s197 rfl ?_
  refine z_le P_value_d198 (tgt := 224) rfl (fun h198 => absurd h198 (nI_nle (by omega) (by omega))) (fun h198 => ?_)
  refine zb1 P_value_s201 rfl (by first | with_reducible exact hva | with_reducible exact hvr | with_reducible exact hv0 | with_reducible exact hv00 | (rw [em]; exact hvr)) ?_
  rw [em2, er0, hy, h1]
  refine zcallS P_value_d220 k6_38 (by omega) (x_join (by omega) _ _ hop) rfl rfl (Nat.le_of_ble_eq_true rfl) ?_
  rintro _ μx ⟨rfl, hx⟩
  rw [hx]
  clear hx μx
  refine zb1 P_value_s223 rfl (by first | with_reducible exact hva | with_reducible exact hvr | with_reducible exact hv0 | with_reducible exact hv00 | (rw [em]; exact hvr)) ?_
  rw [nI_1, nI_1, er0]
  exact K _ _ _ _ (zq.w rfl) ⟨by rw [zpI_at, if_pos rfl], stkR_put r hst.2.2 (Nat.le_refl _)⟩

set_option maxRecDepth 100000 in
set_option maxHeartbeats 4000000 in
theorem v59_10 {g : zG} {d : Nat} {μ : zMem} {Q : Option Value → zMem → Prop} {at' i sz : Nat} {x4 x5 x6 : Option Value} (hat : at' < sz) (hsz : sz ≤ 121) (hi : i ≤ at') (hs : μ.1 10 4 = nI sz) {r : List Int32} {a x : Int32} (h1 : μ.1 85 (nI at').toNatClampNeg = 59) (h2 : μ.1 86 (nI at').toNatClampNeg = a) (hl : r.length + 1 ≤ at') (hst : stkR 87 (x :: r) μ) (hQ : Q (some (.int x)) μ) : zW g P_value d 6 [some (.ref 10), some (.int (nI (r.length + 1))), some (.int (nI at')), some (.int (nI i)), x4, x5, x6] [] μ Q := by
  have eat : (nI at').toNatClampNeg = at' := nI_clamp (by omega)
  have hva : vp_in (nI at') 121 := vp_in_nI (by omega) (by omega)
  have hvr : vp_in (nI r.length) 121 := vp_in_nI (by omega) (by omega)
  have er : (nI r.length).toNatClampNeg = r.length := nI_clamp (by omega)
  have em : nI (r.length + 1) + -1 = nI r.length := pk_m1 _
  refine zb P_value_s6 rfl ?_
  refine z_cge P_value_d11 (tgt := 230) rfl (fun h11 => absurd h11 (show ¬ μ.1 10 4 ≤ nI i by rw [hs]; exact nI_ge (by omega) (by omega))) (fun h11 => ?_)
  refine zb P_value_s14 rfl ?_
  refine z_lt P_value_d15 (tgt := 230) rfl (fun h15 => absurd h15 (nI_pos (by omega))) (fun h15 => ?_)
  refine zb P_value_s18 rfl ?_
  refine z_cge P_value_d23 (tgt := 230) rfl (fun h23 => absurd h23 (show ¬ μ.1 10 4 ≤ nI at' by rw [hs]; exact nI_ge (by omega) (by omega))) (fun h23 => ?_)
  refine zb2 P_value_s26 rfl (by first | with_reducible exact hva | with_reducible exact hvr | (rw [em]; exact hvr)) (by first | with_reducible exact hva | with_reducible exact hvr | (rw [em]; exact hvr)) ?_
  refine z_ceq P_value_d49 (tgt := 59) rfl (fun h49 => absurd (h49.symm.trans h1) (by decide)) (fun h49 => ?_)
  refine zb P_value_s52 rfl ?_
  refine z_cne P_value_d56 (tgt := 95) rfl (fun h56 => ?_) (fun h56 => absurd (h56.symm.trans h1) (by decide))
  refine zb P_value_s95 rfl ?_
  refine z_cge P_value_d97 (tgt := 102) rfl (fun h97 => ?_) (fun h97 => absurd (show (1 : Int32) ≤ nI (r.length + 1) from nI_le (a := 1) (by omega) (by omega)) h97)
  refine zb1 P_value_s102 rfl (by first | with_reducible exact hva | with_reducible exact hvr | (rw [em]; exact hvr)) ?_
  refine z_cne P_value_d117 (tgt := 123) rfl (fun h117 => absurd h1 h117) (fun h117 => ?_)
  refine zb P_value_s120 rfl ?_
  refine z_ret P_value_d122 rfl ?_
  rw [em, er, hst.1]
  exact hQ

set_option maxRecDepth 100000 in
set_option maxHeartbeats 4000000 in
theorem v63_10 {g : zG} {d : Nat} {μ : zMem} {Q : Option Value → zMem → Prop} {at' i sz : Nat} {x4 x5 x6 : Option Value} (hat : at' < sz) (hsz : sz ≤ 121) (hi : i ≤ at') (hs : μ.1 10 4 = nI sz) {r : List Int32} {a : Nat} {x : Int32} (h1 : μ.1 85 (nI at').toNatClampNeg = 63) (h2 : μ.1 86 (nI at').toNatClampNeg = nI a) (hl : r.length + 1 ≤ at') (hst : stkR 87 (x :: r) μ) (K1 : ¬ x = 0 → ∀ (y4 y5 y6 : Option Value), zW g P_value d 6 [some (.ref 10), some (.int (nI r.length)), some (.int (nI (at' + 1))), some (.int (nI (i + 1))), y4, y5, y6] [] μ Q) (K0 : x = 0 → ∀ (y4 y5 y6 : Option Value), zW g P_value d 6 [some (.ref 10), some (.int (nI r.length)), some (.int (nI a)), some (.int (nI (i + 1))), y4, y5, y6] [] μ Q) : zW g P_value d 6 [some (.ref 10), some (.int (nI (r.length + 1))), some (.int (nI at')), some (.int (nI i)), x4, x5, x6] [] μ Q := by
  have eat : (nI at').toNatClampNeg = at' := nI_clamp (by omega)
  have hva : vp_in (nI at') 121 := vp_in_nI (by omega) (by omega)
  have hvr : vp_in (nI r.length) 121 := vp_in_nI (by omega) (by omega)
  have er : (nI r.length).toNatClampNeg = r.length := nI_clamp (by omega)
  have em : nI (r.length + 1) + -1 = nI r.length := pk_m1 _
  refine zb P_value_s6 rfl ?_
  refine z_cge P_value_d11 (tgt := 230) rfl (fun h11 => absurd h11 (show ¬ μ.1 10 4 ≤ nI i by rw [hs]; exact nI_ge (by omega) (by omega))) (fun h11 => ?_)
  refine zb P_value_s14 rfl ?_
  refine z_lt P_value_d15 (tgt := 230) rfl (fun h15 => absurd h15 (nI_pos (by omega))) (fun h15 => ?_)
  refine zb P_value_s18 rfl ?_
  refine z_cge P_value_d23 (tgt := 230) rfl (fun h23 => absurd h23 (show ¬ μ.1 10 4 ≤ nI at' by rw [hs]; exact nI_ge (by omega) (by omega))) (fun h23 => ?_)
  refine zb2 P_value_s26 rfl (by first | with_reducible exact hva | with_reducible exact hvr | (rw [em]; exact hvr)) (by first | with_reducible exact hva | with_reducible exact hvr | (rw [em]; exact hvr)) ?_
  refine z_ceq P_value_d49 (tgt := 59) rfl (fun h49 => absurd (h49.symm.trans h1) (by decide)) (fun h49 => ?_)
  refine zb P_value_s52 rfl ?_
  refine z_cne P_value_d56 (tgt := 95) rfl (fun h56 => ?_) (fun h56 => absurd (h56.symm.trans h1) (by decide))
  refine zb P_value_s95 rfl ?_
  refine z_cge P_value_d97 (tgt := 102) rfl (fun h97 => ?_) (fun h97 => absurd (show (1 : Int32) ≤ nI (r.length + 1) from nI_le (a := 1) (by omega) (by omega)) h97)
  refine zb1 P_value_s102 rfl (by first | with_reducible exact hva | with_reducible exact hvr | (rw [em]; exact hvr)) ?_
  rw [em, er, hst.1]
  refine z_cne P_value_d117 (tgt := 123) rfl (fun h117 => ?_) (fun h117 => absurd (h117.symm.trans h1) (by decide))
  refine zb P_value_s123 rfl ?_
  refine z_cne P_value_d127 (tgt := 145) rfl (fun h127 => absurd h1 h127) (fun h127 => ?_)
  refine zb P_value_s130 rfl ?_
  refine z_eq P_value_d132 (tgt := 139) rfl (fun h132 => ?_) (fun h132 => ?_)
  · refine zb P_value_s139 rfl ?_
    first
      | (rw [nI_1, nI_1]; exact K1 h132 _ _ _ )
      | (rw [nI_1, h2]; exact K0 h132 _ _ _)
  · refine zb P_value_s135 rfl ?_
    first
      | (rw [nI_1, nI_1]; exact K1 h132 _ _ _ )
      | (rw [nI_1, h2]; exact K0 h132 _ _ _)

set_option maxRecDepth 100000 in
set_option maxHeartbeats 4000000 in
theorem vend_10 {g : zG} {d : Nat} {μ : zMem} {Q : Option Value → zMem → Prop} {top : Option Value} {i sz : Nat} {x4 x5 x6 : Option Value} (hsz : sz ≤ 121) (hs : μ.1 10 4 = nI sz) (hQ : Q (some (.int 0)) μ) : zW g P_value d 6 [some (.ref 10), top, some (.int (nI sz)), some (.int (nI i)), x4, x5, x6] [] μ Q := by
  refine zb P_value_s6 rfl ?_
  refine z_cge P_value_d11 (tgt := 230) rfl (fun h11 => ?_) (fun h11 => ?_)
  · refine zb P_value_s230 rfl ?_
    refine z_ret P_value_d231 rfl ?_
    exact hQ
  · refine zb P_value_s14 rfl ?_
    refine z_lt P_value_d15 (tgt := 230) rfl (fun h15 => absurd h15 (nI_pos (by omega))) (fun h15 => ?_)
    refine zb P_value_s18 rfl ?_
    refine z_cge P_value_d23 (tgt := 230) rfl (fun h23 => ?_) (fun h23 => absurd (show μ.1 10 4 ≤ nI sz by rw [hs]; exact Int32.le_refl _) h23)
    refine zb P_value_s230 rfl ?_
    refine z_ret P_value_d231 rfl ?_
    exact hQ

set_option maxRecDepth 100000 in
set_option maxHeartbeats 4000000 in
theorem vrun_10 {g : zG} {d : Nat} {Q : Option Value → zMem → Prop} {ν : Nat → Int32} {sz : Nat} (hd : 2 ≤ d) (hsz : sz ≤ 121) : ∀ (c : qC) (st st' : List Int32) (at' i : Nat) (μ : zMem) (x4 x5 x6 : Option Value), (∀ s ∈ c, vst s) → qvm ν c st = some st' → (∀ j, j < c.length → (μ.1 85 (at' + j), μ.1 86 (at' + j)) = zget c j (0, 0)) → at' + c.length < sz → i ≤ at' → st.length ≤ at' → stkR 87 st μ → (∀ i, i < 6 → μ.1 88 i = ν i) → μ.1 10 4 = nI sz → (∀ (μ' : zMem) (i' : Nat) (y4 y5 y6 : Option Value), zq vS μ μ' → i' ≤ at' + c.length → st'.length ≤ at' + c.length → stkR 87 st' μ' → zW g P_value d 6 [some (.ref 10), some (.int (nI st'.length)), some (.int (nI (at' + c.length))), some (.int (nI i')), y4, y5, y6] [] μ' Q) → zW g P_value d 6 [some (.ref 10), some (.int (nI st.length)), some (.int (nI at')), some (.int (nI i)), x4, x5, x6] [] μ Q := by
  intro c
  induction c with
  | nil =>
    intro st st' at' i μ x4 x5 x6 hv hq hr hat hi hl hst hn hs K
    cases hq
    exact K μ i x4 x5 x6 zq.rf hi hl hst
  | cons s c ih =>
    intro st st' at' i μ x4 x5 x6 hv hq hr hat hi hl hst hn hs K
    have hlen : (s :: c).length = c.length + 1 := rfl
    rw [hlen] at hat
    have eat : (nI at').toNatClampNeg = at' := nI_clamp (by omega)
    have hr0 := hr 0 (by rw [hlen]; omega)
    rw [Nat.add_zero] at hr0
    have h1 : μ.1 85 (nI at').toNatClampNeg = s.1 := by rw [eat]; exact congrArg Prod.fst hr0
    have h2 : μ.1 86 (nI at').toNatClampNeg = s.2 := by rw [eat]; exact congrArg Prod.snd hr0
    have hv0 := hv s List.mem_cons_self
    have next : ∀ (st1 : List Int32) (μ1 : zMem) (y4 y5 y6 : Option Value), qv1 s ν st = some st1 → zq vS μ μ1 → stkR 87 st1 μ1 → st1.length ≤ at' + 1 → zW g P_value d 6 [some (.ref 10), some (.int (nI st1.length)), some (.int (nI (at' + 1))), some (.int (nI (i + 1))), y4, y5, y6] [] μ1 Q := by
      intro st1 μ1 y4 y5 y6 he hz1 hs1 hl1
      simp only [qvm, he] at hq
      refine ih st1 st' (at' + 1) (i + 1) μ1 y4 y5 y6 (fun t ht => hv t (List.mem_cons_of_mem _ ht)) hq (fun j hj => ?_) (by omega) (by omega) hl1 hs1 (fun k hk => ?_) ?_ (fun μ2 i' z4 z5 z6 hz2 hi' hl' hs2 => ?_)
      · have := hr (j + 1) (by rw [hlen]; omega)
        rw [show at' + 1 + j = at' + (j + 1) by omega, hz1.1 85 _ rfl, hz1.1 86 _ rfl]
        exact this
      · rw [hz1.1 88 _ rfl]; exact hn k hk
      · rw [hz1.1 10 _ rfl]; exact hs
      · have := K μ2 i' z4 z5 z6 (hz1.tr hz2) (by rw [hlen]; omega) (by rw [hlen]; omega) hs2
        rw [hlen, show at' + (c.length + 1) = at' + 1 + c.length by omega] at this
        exact this
    have ne : ∀ k : Int32, ten s.1 → ¬ ten k → ¬ s.1 = k := fun k h h' z => h' (by rw [← z]; exact h)
    rcases hv0 with e | ⟨e, k, hk, ek⟩ | e | e | e
    · refine v35_10 (by omega) hsz hi hs (h1.trans e) h2 hl hst (fun μ1 y4 y5 y6 hz1 hs1 => next (s.2 :: st) μ1 y4 y5 y6 ?_ hz1 hs1 (by show st.length + 1 ≤ at' + 1; omega))
      unfold qv1
      rw [if_pos e]
    · refine v97_10 (by omega) hsz hi hs (h1.trans e) (h2.trans ek) hk (by omega) hl hst (fun μ1 y4 y5 y6 hz1 hs1 => next (μ.1 88 k :: st) μ1 y4 y5 y6 ?_ hz1 hs1 (by show st.length + 1 ≤ at' + 1; omega))
      unfold qv1
      rw [if_neg (by rw [e]; decide), if_pos e, ek, nI_clamp (by omega), hn k hk]
    · cases st with
      | nil =>
        exfalso
        simp only [qvm, qv1] at hq
        rw [if_neg (by rw [e]; decide), if_neg (by rw [e]; decide)] at hq
        cases hq
      | cons x r =>
        refine v126_10 (by omega) hsz hi hs (h1.trans e) h2 hl hst (fun μ1 y4 y5 y6 hz1 hs1 => next (-x :: r) μ1 y4 y5 y6 ?_ hz1 hs1 (Nat.le_succ_of_le hl))
        unfold qv1
        rw [if_neg (by rw [e]; decide), if_neg (by rw [e]; decide)]
        dsimp only
        rw [if_pos e]
    · cases st with
      | nil =>
        exfalso
        simp only [qvm, qv1] at hq
        rw [if_neg (by rw [e]; decide), if_neg (by rw [e]; decide)] at hq
        cases hq
      | cons x r =>
        refine v33_10 (by omega) hsz hi hs (h1.trans e) h2 (by omega) hl hst (fun μ1 y4 y5 y6 hz1 hs1 => next (zB (x = 0) :: r) μ1 y4 y5 y6 ?_ hz1 hs1 (Nat.le_succ_of_le hl))
        unfold qv1
        rw [if_neg (by rw [e]; decide), if_neg (by rw [e]; decide)]
        dsimp only
        rw [if_neg (by rw [e]; decide), if_pos e]
    · have n35 := ne 35 e (by unfold ten; decide)
      have n97 := ne 97 e (by unfold ten; decide)
      have n126 := ne 126 e (by unfold ten; decide)
      have n33 := ne 33 e (by unfold ten; decide)
      cases st with
      | nil =>
        exfalso
        simp only [qvm, qv1] at hq
        rw [if_neg n35, if_neg n97] at hq
        cases hq
      | cons x r =>
        cases r with
        | nil =>
          exfalso
          simp only [qvm, qv1] at hq
          rw [if_neg n35, if_neg n97, if_neg n126, if_neg n33] at hq
          cases hq
        | cons y r =>
          have hl3 : r.length + 1 + 1 ≤ at' := hl
          refine vbin_10 (by omega) hsz hi hs h1 h2 e hd hl hst (fun μ1 y4 y5 y6 hz1 hs1 => next (qjn s.1 y x :: r) μ1 y4 y5 y6 ?_ hz1 hs1 (by show r.length + 1 ≤ at' + 1; omega))
          unfold qv1
          rw [if_neg n35, if_neg n97]
          dsimp only
          rw [if_neg n126, if_neg n33]

set_option maxRecDepth 100000 in
set_option maxHeartbeats 4000000 in
theorem v59_11 {g : zG} {d : Nat} {μ : zMem} {Q : Option Value → zMem → Prop} {at' i sz : Nat} {x4 x5 x6 : Option Value} (hat : at' < sz) (hsz : sz ≤ 121) (hi : i ≤ at') (hs : μ.1 11 4 = nI sz) {r : List Int32} {a x : Int32} (h1 : μ.1 89 (nI at').toNatClampNeg = 59) (h2 : μ.1 90 (nI at').toNatClampNeg = a) (hl : r.length + 1 ≤ at') (hst : stkR 91 (x :: r) μ) (hQ : Q (some (.int x)) μ) : zW g P_value d 6 [some (.ref 11), some (.int (nI (r.length + 1))), some (.int (nI at')), some (.int (nI i)), x4, x5, x6] [] μ Q := by
  have eat : (nI at').toNatClampNeg = at' := nI_clamp (by omega)
  have hva : vp_in (nI at') 121 := vp_in_nI (by omega) (by omega)
  have hvr : vp_in (nI r.length) 121 := vp_in_nI (by omega) (by omega)
  have er : (nI r.length).toNatClampNeg = r.length := nI_clamp (by omega)
  have em : nI (r.length + 1) + -1 = nI r.length := pk_m1 _
  refine zb P_value_s6 rfl ?_
  refine z_cge P_value_d11 (tgt := 230) rfl (fun h11 => absurd h11 (show ¬ μ.1 11 4 ≤ nI i by rw [hs]; exact nI_ge (by omega) (by omega))) (fun h11 => ?_)
  refine zb P_value_s14 rfl ?_
  refine z_lt P_value_d15 (tgt := 230) rfl (fun h15 => absurd h15 (nI_pos (by omega))) (fun h15 => ?_)
  refine zb P_value_s18 rfl ?_
  refine z_cge P_value_d23 (tgt := 230) rfl (fun h23 => absurd h23 (show ¬ μ.1 11 4 ≤ nI at' by rw [hs]; exact nI_ge (by omega) (by omega))) (fun h23 => ?_)
  refine zb2 P_value_s26 rfl (by first | with_reducible exact hva | with_reducible exact hvr | (rw [em]; exact hvr)) (by first | with_reducible exact hva | with_reducible exact hvr | (rw [em]; exact hvr)) ?_
  refine z_ceq P_value_d49 (tgt := 59) rfl (fun h49 => absurd (h49.symm.trans h1) (by decide)) (fun h49 => ?_)
  refine zb P_value_s52 rfl ?_
  refine z_cne P_value_d56 (tgt := 95) rfl (fun h56 => ?_) (fun h56 => absurd (h56.symm.trans h1) (by decide))
  refine zb P_value_s95 rfl ?_
  refine z_cge P_value_d97 (tgt := 102) rfl (fun h97 => ?_) (fun h97 => absurd (show (1 : Int32) ≤ nI (r.length + 1) from nI_le (a := 1) (by omega) (by omega)) h97)
  refine zb1 P_value_s102 rfl (by first | with_reducible exact hva | with_reducible exact hvr | (rw [em]; exact hvr)) ?_
  refine z_cne P_value_d117 (tgt := 123) rfl (fun h117 => absurd h1 h117) (fun h117 => ?_)
  refine zb P_value_s120 rfl ?_
  refine z_ret P_value_d122 rfl ?_
  rw [em, er, hst.1]
  exact hQ

set_option maxRecDepth 100000 in
set_option maxHeartbeats 4000000 in
theorem v63_11 {g : zG} {d : Nat} {μ : zMem} {Q : Option Value → zMem → Prop} {at' i sz : Nat} {x4 x5 x6 : Option Value} (hat : at' < sz) (hsz : sz ≤ 121) (hi : i ≤ at') (hs : μ.1 11 4 = nI sz) {r : List Int32} {a : Nat} {x : Int32} (h1 : μ.1 89 (nI at').toNatClampNeg = 63) (h2 : μ.1 90 (nI at').toNatClampNeg = nI a) (hl : r.length + 1 ≤ at') (hst : stkR 91 (x :: r) μ) (K1 : ¬ x = 0 → ∀ (y4 y5 y6 : Option Value), zW g P_value d 6 [some (.ref 11), some (.int (nI r.length)), some (.int (nI (at' + 1))), some (.int (nI (i + 1))), y4, y5, y6] [] μ Q) (K0 : x = 0 → ∀ (y4 y5 y6 : Option Value), zW g P_value d 6 [some (.ref 11), some (.int (nI r.length)), some (.int (nI a)), some (.int (nI (i + 1))), y4, y5, y6] [] μ Q) : zW g P_value d 6 [some (.ref 11), some (.int (nI (r.length + 1))), some (.int (nI at')), some (.int (nI i)), x4, x5, x6] [] μ Q := by
  have eat : (nI at').toNatClampNeg = at' := nI_clamp (by omega)
  have hva : vp_in (nI at') 121 := vp_in_nI (by omega) (by omega)
  have hvr : vp_in (nI r.length) 121 := vp_in_nI (by omega) (by omega)
  have er : (nI r.length).toNatClampNeg = r.length := nI_clamp (by omega)
  have em : nI (r.length + 1) + -1 = nI r.length := pk_m1 _
  refine zb P_value_s6 rfl ?_
  refine z_cge P_value_d11 (tgt := 230) rfl (fun h11 => absurd h11 (show ¬ μ.1 11 4 ≤ nI i by rw [hs]; exact nI_ge (by omega) (by omega))) (fun h11 => ?_)
  refine zb P_value_s14 rfl ?_
  refine z_lt P_value_d15 (tgt := 230) rfl (fun h15 => absurd h15 (nI_pos (by omega))) (fun h15 => ?_)
  refine zb P_value_s18 rfl ?_
  refine z_cge P_value_d23 (tgt := 230) rfl (fun h23 => absurd h23 (show ¬ μ.1 11 4 ≤ nI at' by rw [hs]; exact nI_ge (by omega) (by omega))) (fun h23 => ?_)
  refine zb2 P_value_s26 rfl (by first | with_reducible exact hva | with_reducible exact hvr | (rw [em]; exact hvr)) (by first | with_reducible exact hva | with_reducible exact hvr | (rw [em]; exact hvr)) ?_
  refine z_ceq P_value_d49 (tgt := 59) rfl (fun h49 => absurd (h49.symm.trans h1) (by decide)) (fun h49 => ?_)
  refine zb P_value_s52 rfl ?_
  refine z_cne P_value_d56 (tgt := 95) rfl (fun h56 => ?_) (fun h56 => absurd (h56.symm.trans h1) (by decide))
  refine zb P_value_s95 rfl ?_
  refine z_cge P_value_d97 (tgt := 102) rfl (fun h97 => ?_) (fun h97 => absurd (show (1 : Int32) ≤ nI (r.length + 1) from nI_le (a := 1) (by omega) (by omega)) h97)
  refine zb1 P_value_s102 rfl (by first | with_reducible exact hva | with_reducible exact hvr | (rw [em]; exact hvr)) ?_
  rw [em, er, hst.1]
  refine z_cne P_value_d117 (tgt := 123) rfl (fun h117 => ?_) (fun h117 => absurd (h117.symm.trans h1) (by decide))
  refine zb P_value_s123 rfl ?_
  refine z_cne P_value_d127 (tgt := 145) rfl (fun h127 => absurd h1 h127) (fun h127 => ?_)
  refine zb P_value_s130 rfl ?_
  refine z_eq P_value_d132 (tgt := 139) rfl (fun h132 => ?_) (fun h132 => ?_)
  · refine zb P_value_s139 rfl ?_
    first
      | (rw [nI_1, nI_1]; exact K1 h132 _ _ _ )
      | (rw [nI_1, h2]; exact K0 h132 _ _ _)
  · refine zb P_value_s135 rfl ?_
    first
      | (rw [nI_1, nI_1]; exact K1 h132 _ _ _ )
      | (rw [nI_1, h2]; exact K0 h132 _ _ _)

set_option maxRecDepth 100000 in
set_option maxHeartbeats 4000000 in
theorem vend_11 {g : zG} {d : Nat} {μ : zMem} {Q : Option Value → zMem → Prop} {top : Option Value} {i sz : Nat} {x4 x5 x6 : Option Value} (hsz : sz ≤ 121) (hs : μ.1 11 4 = nI sz) (hQ : Q (some (.int 0)) μ) : zW g P_value d 6 [some (.ref 11), top, some (.int (nI sz)), some (.int (nI i)), x4, x5, x6] [] μ Q := by
  refine zb P_value_s6 rfl ?_
  refine z_cge P_value_d11 (tgt := 230) rfl (fun h11 => ?_) (fun h11 => ?_)
  · refine zb P_value_s230 rfl ?_
    refine z_ret P_value_d231 rfl ?_
    exact hQ
  · refine zb P_value_s14 rfl ?_
    refine z_lt P_value_d15 (tgt := 230) rfl (fun h15 => absurd h15 (nI_pos (by omega))) (fun h15 => ?_)
    refine zb P_value_s18 rfl ?_
    refine z_cge P_value_d23 (tgt := 230) rfl (fun h23 => ?_) (fun h23 => absurd (show μ.1 11 4 ≤ nI sz by rw [hs]; exact Int32.le_refl _) h23)
    refine zb P_value_s230 rfl ?_
    refine z_ret P_value_d231 rfl ?_
    exact hQ

set_option maxRecDepth 100000 in
set_option maxHeartbeats 4000000 in
theorem vrun_11 {g : zG} {d : Nat} {Q : Option Value → zMem → Prop} {ν : Nat → Int32} {sz : Nat} (hd : 2 ≤ d) (hsz : sz ≤ 121) : ∀ (c : qC) (st st' : List Int32) (at' i : Nat) (μ : zMem) (x4 x5 x6 : Option Value), (∀ s ∈ c, vst s) → qvm ν c st = some st' → (∀ j, j < c.length → (μ.1 89 (at' + j), μ.1 90 (at' + j)) = zget c j (0, 0)) → at' + c.length < sz → i ≤ at' → st.length ≤ at' → stkR 91 st μ → (∀ i, i < 6 → μ.1 92 i = ν i) → μ.1 11 4 = nI sz → (∀ (μ' : zMem) (i' : Nat) (y4 y5 y6 : Option Value), zq vS μ μ' → i' ≤ at' + c.length → st'.length ≤ at' + c.length → stkR 91 st' μ' → zW g P_value d 6 [some (.ref 11), some (.int (nI st'.length)), some (.int (nI (at' + c.length))), some (.int (nI i')), y4, y5, y6] [] μ' Q) → zW g P_value d 6 [some (.ref 11), some (.int (nI st.length)), some (.int (nI at')), some (.int (nI i)), x4, x5, x6] [] μ Q := by
  intro c
  induction c with
  | nil =>
    intro st st' at' i μ x4 x5 x6 hv hq hr hat hi hl hst hn hs K
    cases hq
    exact K μ i x4 x5 x6 zq.rf hi hl hst
  | cons s c ih =>
    intro st st' at' i μ x4 x5 x6 hv hq hr hat hi hl hst hn hs K
    have hlen : (s :: c).length = c.length + 1 := rfl
    rw [hlen] at hat
    have eat : (nI at').toNatClampNeg = at' := nI_clamp (by omega)
    have hr0 := hr 0 (by rw [hlen]; omega)
    rw [Nat.add_zero] at hr0
    have h1 : μ.1 89 (nI at').toNatClampNeg = s.1 := by rw [eat]; exact congrArg Prod.fst hr0
    have h2 : μ.1 90 (nI at').toNatClampNeg = s.2 := by rw [eat]; exact congrArg Prod.snd hr0
    have hv0 := hv s List.mem_cons_self
    have next : ∀ (st1 : List Int32) (μ1 : zMem) (y4 y5 y6 : Option Value), qv1 s ν st = some st1 → zq vS μ μ1 → stkR 91 st1 μ1 → st1.length ≤ at' + 1 → zW g P_value d 6 [some (.ref 11), some (.int (nI st1.length)), some (.int (nI (at' + 1))), some (.int (nI (i + 1))), y4, y5, y6] [] μ1 Q := by
      intro st1 μ1 y4 y5 y6 he hz1 hs1 hl1
      simp only [qvm, he] at hq
      refine ih st1 st' (at' + 1) (i + 1) μ1 y4 y5 y6 (fun t ht => hv t (List.mem_cons_of_mem _ ht)) hq (fun j hj => ?_) (by omega) (by omega) hl1 hs1 (fun k hk => ?_) ?_ (fun μ2 i' z4 z5 z6 hz2 hi' hl' hs2 => ?_)
      · have := hr (j + 1) (by rw [hlen]; omega)
        rw [show at' + 1 + j = at' + (j + 1) by omega, hz1.1 89 _ rfl, hz1.1 90 _ rfl]
        exact this
      · rw [hz1.1 92 _ rfl]; exact hn k hk
      · rw [hz1.1 11 _ rfl]; exact hs
      · have := K μ2 i' z4 z5 z6 (hz1.tr hz2) (by rw [hlen]; omega) (by rw [hlen]; omega) hs2
        rw [hlen, show at' + (c.length + 1) = at' + 1 + c.length by omega] at this
        exact this
    have ne : ∀ k : Int32, ten s.1 → ¬ ten k → ¬ s.1 = k := fun k h h' z => h' (by rw [← z]; exact h)
    rcases hv0 with e | ⟨e, k, hk, ek⟩ | e | e | e
    · refine v35_11 (by omega) hsz hi hs (h1.trans e) h2 hl hst (fun μ1 y4 y5 y6 hz1 hs1 => next (s.2 :: st) μ1 y4 y5 y6 ?_ hz1 hs1 (by show st.length + 1 ≤ at' + 1; omega))
      unfold qv1
      rw [if_pos e]
    · refine v97_11 (by omega) hsz hi hs (h1.trans e) (h2.trans ek) hk (by omega) hl hst (fun μ1 y4 y5 y6 hz1 hs1 => next (μ.1 92 k :: st) μ1 y4 y5 y6 ?_ hz1 hs1 (by show st.length + 1 ≤ at' + 1; omega))
      unfold qv1
      rw [if_neg (by rw [e]; decide), if_pos e, ek, nI_clamp (by omega), hn k hk]
    · cases st with
      | nil =>
        exfalso
        simp only [qvm, qv1] at hq
        rw [if_neg (by rw [e]; decide), if_neg (by rw [e]; decide)] at hq
        cases hq
      | cons x r =>
        refine v126_11 (by omega) hsz hi hs (h1.trans e) h2 hl hst (fun μ1 y4 y5 y6 hz1 hs1 => next (-x :: r) μ1 y4 y5 y6 ?_ hz1 hs1 (Nat.le_succ_of_le hl))
        unfold qv1
        rw [if_neg (by rw [e]; decide), if_neg (by rw [e]; decide)]
        dsimp only
        rw [if_pos e]
    · cases st with
      | nil =>
        exfalso
        simp only [qvm, qv1] at hq
        rw [if_neg (by rw [e]; decide), if_neg (by rw [e]; decide)] at hq
        cases hq
      | cons x r =>
        refine v33_11 (by omega) hsz hi hs (h1.trans e) h2 (by omega) hl hst (fun μ1 y4 y5 y6 hz1 hs1 => next (zB (x = 0) :: r) μ1 y4 y5 y6 ?_ hz1 hs1 (Nat.le_succ_of_le hl))
        unfold qv1
        rw [if_neg (by rw [e]; decide), if_neg (by rw [e]; decide)]
        dsimp only
        rw [if_neg (by rw [e]; decide), if_pos e]
    · have n35 := ne 35 e (by unfold ten; decide)
      have n97 := ne 97 e (by unfold ten; decide)
      have n126 := ne 126 e (by unfold ten; decide)
      have n33 := ne 33 e (by unfold ten; decide)
      cases st with
      | nil =>
        exfalso
        simp only [qvm, qv1] at hq
        rw [if_neg n35, if_neg n97] at hq
        cases hq
      | cons x r =>
        cases r with
        | nil =>
          exfalso
          simp only [qvm, qv1] at hq
          rw [if_neg n35, if_neg n97, if_neg n126, if_neg n33] at hq
          cases hq
        | cons y r =>
          have hl3 : r.length + 1 + 1 ≤ at' := hl
          refine vbin_11 (by omega) hsz hi hs h1 h2 e hd hl hst (fun μ1 y4 y5 y6 hz1 hs1 => next (qjn s.1 y x :: r) μ1 y4 y5 y6 ?_ hz1 hs1 (by show r.length + 1 ≤ at' + 1; omega))
          unfold qv1
          rw [if_neg n35, if_neg n97]
          dsimp only
          rw [if_neg n126, if_neg n33]
