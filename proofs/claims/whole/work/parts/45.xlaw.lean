/-! the class: texts told, what a vow does, sums -/
def rowsH (st ar base : Nat) (c : qC) (μ : zMem) : Prop := ∀ j, j < c.length → (μ.1 st (base + j), μ.1 ar (base + j)) = zget c j (0, 0)
theorem zget_l {a b : qC} {j : Nat} (h : j < a.length) : zget (a ++ b) j (0, 0) = zget a j (0, 0) := by rw [zget_at, zget_at, List.getElem?_append_left h]
theorem zget_r {a b : qC} {j : Nat} : zget (a ++ b) (a.length + j) (0, 0) = zget b j (0, 0) := by rw [zget_at, zget_at, List.getElem?_append_right (by omega), show a.length + j - a.length = j by omega]
def nS (c _ : Nat) : Bool := c == 87 || c == 88 || c == 91 || c == 92
theorem nS_sX : ∀ c k, nS c k = true → sX c k = true := by
  intro c k h
  unfold nS at h
  simp only [Bool.or_eq_true, beq_iff_eq] at h
  rcases h with ((rfl | rfl) | rfl) | rfl <;> rfl
theorem vS_nS : ∀ c k, vS c k = true → nS c k = true := by
  intro c k h
  unfold vS at h
  simp only [Bool.or_eq_true, beq_iff_eq] at h
  rcases h with rfl | rfl <;> rfl
theorem rowsH.left {st ar base : Nat} {a b : qC} {μ : zMem} (h : rowsH st ar base (a ++ b) μ) : rowsH st ar base a μ := fun j hj => by
  rw [h j (by rw [List.length_append]; omega), zget_l hj]
theorem rowsH.right {st ar base : Nat} {a b : qC} {μ : zMem} (h : rowsH st ar base (a ++ b) μ) : rowsH st ar (base + a.length) b μ := fun j hj => by
  rw [Nat.add_assoc, h (a.length + j) (by rw [List.length_append]; omega), zget_r]
theorem rowsH.q {st ar base : Nat} {c : qC} {μ μ' : zMem} (h : rowsH st ar base c μ) (hz : zq vS μ μ') (h1 : ∀ k, vS st k = false) (h2 : ∀ k, vS ar k = false) : rowsH st ar base c μ' := fun j hj => by
  rw [hz.1 st _ (h1 _), hz.1 ar _ (h2 _)]
  exact h j hj

set_option maxRecDepth 100000 in
set_option maxHeartbeats 4000000 in
theorem vexp_10 {g : zG} {d : Nat} {Q : Option Value → zMem → Prop} {ν : Nat → Int32} {sz : Nat} (hd : 2 ≤ d) (hsz : sz ≤ 121) {T : Nat → Int32} {n p q : Nat} {c : qC} {e : qD} (hq : qTop T n p = .inr (q, c, e)) {at' i : Nat} {μ : zMem} {x4 x5 x6 : Option Value} (hr : rowsH 85 86 at' c μ) (hat : at' + c.length < sz) (hi : i ≤ at') (hn : ∀ i, i < 6 → μ.1 88 i = ν i) (hs : μ.1 10 4 = nI sz) (K : ∀ (μ' : zMem) (i' : Nat) (y4 y5 y6 : Option Value), zq vS μ μ' → i' ≤ at' + c.length → 1 ≤ at' + c.length → stkR 87 [e ν] μ' → zW g P_value d 6 [some (.ref 10), some (.int (nI 1)), some (.int (nI (at' + c.length))), some (.int (nI i')), y4, y5, y6] [] μ' Q) : zW g P_value d 6 [some (.ref 10), some (.int (nI 0)), some (.int (nI at')), some (.int (nI i)), x4, x5, x6] [] μ Q := by
  have h1 := qTop_ok T n p
  have h2 := qTop_v T n p
  rw [hq] at h1 h2
  obtain ⟨-, -, -, hg⟩ := h1
  have hc : 1 ≤ at' + c.length := by
    cases c with
    | nil =>
      have := hg.1 ν []
      cases this
    | cons s r => show 1 ≤ at' + (r.length + 1); omega
  exact vrun_10 hd hsz c [] [e ν] at' i μ x4 x5 x6 h2 (hg.1 ν []) hr hat hi (Nat.zero_le _) trivial hn hs (fun μ1 i' y4 y5 y6 hz1 hi1 hl1 hs1 => K μ1 i' y4 y5 y6 hz1 hi1 hc hs1)

set_option maxRecDepth 100000 in
set_option maxHeartbeats 4000000 in
theorem vline_10 {g : zG} {d : Nat} {Q : Option Value → zMem → Prop} {ν : Nat → Int32} {sz : Nat} (hd : 2 ≤ d) (hsz : sz ≤ 121) {T : Nat → Int32} {n p q : Nat} {c : qC} {o : Option qD} {e : qD} {at' i : Nat} {μ : zMem} {x4 x5 x6 : Option Value} (hq : qLn T n p at' = .inr (q, c, o, e)) (hr : rowsH 85 86 at' c μ) (hat : at' + c.length ≤ sz) (hi : i ≤ at') (hn : ∀ i, i < 6 → μ.1 88 i = ν i) (hs : μ.1 10 4 = nI sz) (Kr : ∀ μ' : zMem, zq vS μ μ' → (o = none ∨ ∃ z, o = some z ∧ ¬ z ν = 0) → Q (some (.int (e ν))) μ') (Kg : ∀ z, o = some z → z ν = 0 → ∀ (μ' : zMem) (i' : Nat) (y4 y5 y6 : Option Value), zq vS μ μ' → i' ≤ at' + c.length → zW g P_value d 6 [some (.ref 10), some (.int (nI 0)), some (.int (nI (at' + c.length))), some (.int (nI i')), y4, y5, y6] [] μ' Q) : zW g P_value d 6 [some (.ref 10), some (.int (nI 0)), some (.int (nI at')), some (.int (nI i)), x4, x5, x6] [] μ Q := by
  unfold qLn at hq
  cases h1 : qTop T n p with
  | inl z => rw [h1] at hq; cases hq
  | inr z =>
    obtain ⟨q1, ca, ea⟩ := z
    rw [h1] at hq
    dsimp only at hq
    by_cases h63 : qnx T n q1 = 63
    · rw [if_pos h63] at hq
      cases h2 : qTop T n (q1 + 1) with
      | inl z => rw [h2] at hq; cases hq
      | inr z =>
        obtain ⟨q2, cb, eb⟩ := z
        rw [h2] at hq
        cases hq
        simp only [List.length_append, List.length_cons, List.length_nil] at hat Kg
        have r1 := hr.left.left.left
        have r2 := hr.left.left.right
        have r3 := hr.left.right
        have r4 := hr.right
        simp only [List.length_append, List.length_cons, List.length_nil] at r3 r4
        refine vexp_10 hd hsz h1 r1 (by omega) hi hn hs (fun μ1 i1 y4 y5 y6 hz1 hi1 hc1 hs1 => ?_)
        have e0 : (nI (at' + ca.length)).toNatClampNeg = at' + ca.length := nI_clamp (by omega)
        have q2' := r2.q hz1 (fun _ => rfl) (fun _ => rfl) 0 (Nat.zero_lt_one)
        rw [Nat.add_zero] at q2'
        refine v63_10 (r := []) (a := at' + ca.length + 1 + cb.length + 1) (by omega) hsz hi1 (by rw [hz1.1 10 _ rfl]; exact hs) (by rw [e0]; exact congrArg Prod.fst q2') (by rw [e0]; exact congrArg Prod.snd q2') hc1 hs1 (fun hx z4 z5 z6 => ?_) (fun hx z4 z5 z6 => ?_)
        · refine vexp_10 (ν := ν) hd hsz h2 (r3.q hz1 (fun _ => rfl) (fun _ => rfl)) (by omega) (by omega) (fun k hk => by rw [hz1.1 88 _ rfl]; exact hn k hk) (by rw [hz1.1 10 _ rfl]; exact hs) (fun μ2 i2 w4 w5 w6 hz2 hi2 hc2 hs2 => ?_)
          have e1 : (nI (at' + (ca.length + (0 + 1)) + cb.length)).toNatClampNeg = at' + (ca.length + (0 + 1)) + cb.length := nI_clamp (by omega)
          have q3 := (r4.q hz1 (fun _ => rfl) (fun _ => rfl)).q hz2 (fun _ => rfl) (fun _ => rfl) 0 (Nat.zero_lt_one)
          rw [Nat.add_zero, show at' + (ca.length + (0 + 1) + cb.length) = at' + (ca.length + (0 + 1)) + cb.length by omega] at q3
          refine v59_10 (r := []) (a := 0) (by omega) hsz hi2 (by rw [hz2.1 10 _ rfl, hz1.1 10 _ rfl]; exact hs) (by rw [show at' + ca.length + 1 = at' + (ca.length + (0 + 1)) by omega, e1]; exact congrArg Prod.fst q3) (by rw [show at' + ca.length + 1 = at' + (ca.length + (0 + 1)) by omega, e1]; exact congrArg Prod.snd q3) hc2 hs2 (Kr μ2 (hz1.tr hz2) (Or.inr ⟨ea, rfl, hx⟩))
        · have := Kg ea rfl hx μ1 (i1 + 1) z4 z5 z6 hz1 (by omega)
          rw [show at' + ca.length + 1 + cb.length + 1 = at' + (ca.length + (0 + 1) + cb.length + (0 + 1)) by omega]
          exact this
    · rw [if_neg h63] at hq
      cases hq
      simp only [List.length_append, List.length_cons, List.length_nil] at hat
      refine vexp_10 hd hsz h1 hr.left (by omega) hi hn hs (fun μ1 i1 y4 y5 y6 hz1 hi1 hc1 hs1 => ?_)
      have e0 : (nI (at' + ca.length)).toNatClampNeg = at' + ca.length := nI_clamp (by omega)
      have q2' := hr.right.q hz1 (fun _ => rfl) (fun _ => rfl) 0 (Nat.zero_lt_one)
      rw [Nat.add_zero] at q2'
      exact v59_10 (r := []) (a := 0) (by omega) hsz hi1 (by rw [hz1.1 10 _ rfl]; exact hs) (by rw [e0]; exact congrArg Prod.fst q2') (by rw [e0]; exact congrArg Prod.snd q2') hc1 hs1 (Kr μ1 hz1 (Or.inl rfl))

set_option maxRecDepth 100000 in
set_option maxHeartbeats 4000000 in
theorem vlaw_10 {g : zG} {d : Nat} {Q : Option Value → zMem → Prop} {ν : Nat → Int32} {sz : Nat} (hd : 2 ≤ d) (hsz : sz ≤ 121) {T : Nat → Int32} {n : Nat} : ∀ (f p at' i : Nat) (c : qC) (e : qD) (μ : zMem) (x4 x5 x6 : Option Value), qLw T n f p at' = .inr (c, e) → rowsH 85 86 at' c μ → at' + c.length = sz → i ≤ at' → (∀ i, i < 6 → μ.1 88 i = ν i) → μ.1 10 4 = nI sz → (∀ μ' : zMem, zq vS μ μ' → Q (some (.int (e ν))) μ') → zW g P_value d 6 [some (.ref 10), some (.int (nI 0)), some (.int (nI at')), some (.int (nI i)), x4, x5, x6] [] μ Q := by
  intro f
  induction f with
  | zero => intro p at' i c e μ x4 x5 x6 h; cases h
  | succ f ih =>
    intro p at' i c e μ x4 x5 x6 h hr hat hi hn hs hK
    simp only [qLw] at h
    cases h1 : qLn T n p at' with
    | inl z => rw [h1] at h; cases h
    | inr z =>
      obtain ⟨q, c1, o1, e1⟩ := z
      rw [h1] at h
      dsimp only at h
      by_cases hqn : q = n
      · rw [if_pos hqn] at h
        cases h
        refine vline_10 hd hsz h1 hr (by omega) hi hn hs (fun μ1 hz1 ho => ?_) (fun z hz hz0 μ1 i1 y4 y5 y6 hz1 hi1 => ?_)
        · have := hK μ1 hz1
          rcases ho with rfl | ⟨z, rfl, hz⟩
          · exact this
          · unfold qcon at this
            dsimp only at this
            rw [if_neg hz] at this
            exact this
        · subst hz
          rw [hat]
          refine vend_10 hsz (by rw [hz1.1 10 _ rfl]; exact hs) ?_
          have := hK μ1 hz1
          unfold qcon at this
          dsimp only at this
          rw [if_pos hz0] at this
          exact this
      · rw [if_neg hqn] at h
        by_cases h59 : qnx T n q = 59
        · rw [if_pos h59] at h
          cases h2 : qLw T n f (q + 1) (at' + c1.length) with
          | inl z => rw [h2] at h; cases h
          | inr z =>
            obtain ⟨c2, e2⟩ := z
            rw [h2] at h
            cases h
            rw [List.length_append] at hat
            refine vline_10 hd hsz h1 hr.left (by omega) hi hn hs (fun μ1 hz1 ho => ?_) (fun z hz hz0 μ1 i1 y4 y5 y6 hz1 hi1 => ?_)
            · have := hK μ1 hz1
              rcases ho with rfl | ⟨z, rfl, hz⟩
              · exact this
              · unfold qcon at this
                dsimp only at this
                rw [if_neg hz] at this
                exact this
            · subst hz
              refine ih (q + 1) (at' + c1.length) i1 c2 e2 μ1 y4 y5 y6 h2 (hr.right.q hz1 (fun _ => rfl) (fun _ => rfl)) (by omega) hi1 (fun k hk => by rw [hz1.1 88 _ rfl]; exact hn k hk) (by rw [hz1.1 10 _ rfl]; exact hs) (fun μ2 hz2 => ?_)
              have := hK μ2 (hz1.tr hz2)
              unfold qcon at this
              dsimp only at this
              rw [if_pos hz0] at this
              exact this
        · rw [if_neg h59] at h
          cases h
theorem x_value_10 {g : zG} {d : Nat} {ν : Nat → Int32} (hd : 2 ≤ d) {T : Nat → Int32} {n : Nat} {c : qC} {e : qD} {μ : zMem} (h : qLw T n 121 0 0 = .inr (c, e)) (hr : rowsH 85 86 0 c μ) (hc : c.length ≤ 121) (hn : ∀ i, i < 6 → μ.1 88 i = ν i) (hs : μ.1 10 4 = nI c.length) : zM g d P_value [.ref 10] μ (fun r μ' => r = some (.int (e ν)) ∧ zq vS μ μ') := by
  refine zM_of (by decide +kernel) rfl rfl (Nat.le_of_ble_eq_true rfl) rfl ?_
  refine zb P_value_s0 rfl ?_
  exact vlaw_10 hd hc 121 0 0 0 c e μ _ _ _ h hr (Nat.zero_add _) (Nat.le_refl _) hn hs (fun μ1 hz1 => ⟨rfl, hz1⟩)

set_option maxRecDepth 100000 in
set_option maxHeartbeats 4000000 in
theorem vexp_11 {g : zG} {d : Nat} {Q : Option Value → zMem → Prop} {ν : Nat → Int32} {sz : Nat} (hd : 2 ≤ d) (hsz : sz ≤ 121) {T : Nat → Int32} {n p q : Nat} {c : qC} {e : qD} (hq : qTop T n p = .inr (q, c, e)) {at' i : Nat} {μ : zMem} {x4 x5 x6 : Option Value} (hr : rowsH 89 90 at' c μ) (hat : at' + c.length < sz) (hi : i ≤ at') (hn : ∀ i, i < 6 → μ.1 92 i = ν i) (hs : μ.1 11 4 = nI sz) (K : ∀ (μ' : zMem) (i' : Nat) (y4 y5 y6 : Option Value), zq vS μ μ' → i' ≤ at' + c.length → 1 ≤ at' + c.length → stkR 91 [e ν] μ' → zW g P_value d 6 [some (.ref 11), some (.int (nI 1)), some (.int (nI (at' + c.length))), some (.int (nI i')), y4, y5, y6] [] μ' Q) : zW g P_value d 6 [some (.ref 11), some (.int (nI 0)), some (.int (nI at')), some (.int (nI i)), x4, x5, x6] [] μ Q := by
  have h1 := qTop_ok T n p
  have h2 := qTop_v T n p
  rw [hq] at h1 h2
  obtain ⟨-, -, -, hg⟩ := h1
  have hc : 1 ≤ at' + c.length := by
    cases c with
    | nil =>
      have := hg.1 ν []
      cases this
    | cons s r => show 1 ≤ at' + (r.length + 1); omega
  exact vrun_11 hd hsz c [] [e ν] at' i μ x4 x5 x6 h2 (hg.1 ν []) hr hat hi (Nat.zero_le _) trivial hn hs (fun μ1 i' y4 y5 y6 hz1 hi1 hl1 hs1 => K μ1 i' y4 y5 y6 hz1 hi1 hc hs1)

set_option maxRecDepth 100000 in
set_option maxHeartbeats 4000000 in
theorem vline_11 {g : zG} {d : Nat} {Q : Option Value → zMem → Prop} {ν : Nat → Int32} {sz : Nat} (hd : 2 ≤ d) (hsz : sz ≤ 121) {T : Nat → Int32} {n p q : Nat} {c : qC} {o : Option qD} {e : qD} {at' i : Nat} {μ : zMem} {x4 x5 x6 : Option Value} (hq : qLn T n p at' = .inr (q, c, o, e)) (hr : rowsH 89 90 at' c μ) (hat : at' + c.length ≤ sz) (hi : i ≤ at') (hn : ∀ i, i < 6 → μ.1 92 i = ν i) (hs : μ.1 11 4 = nI sz) (Kr : ∀ μ' : zMem, zq vS μ μ' → (o = none ∨ ∃ z, o = some z ∧ ¬ z ν = 0) → Q (some (.int (e ν))) μ') (Kg : ∀ z, o = some z → z ν = 0 → ∀ (μ' : zMem) (i' : Nat) (y4 y5 y6 : Option Value), zq vS μ μ' → i' ≤ at' + c.length → zW g P_value d 6 [some (.ref 11), some (.int (nI 0)), some (.int (nI (at' + c.length))), some (.int (nI i')), y4, y5, y6] [] μ' Q) : zW g P_value d 6 [some (.ref 11), some (.int (nI 0)), some (.int (nI at')), some (.int (nI i)), x4, x5, x6] [] μ Q := by
  unfold qLn at hq
  cases h1 : qTop T n p with
  | inl z => rw [h1] at hq; cases hq
  | inr z =>
    obtain ⟨q1, ca, ea⟩ := z
    rw [h1] at hq
    dsimp only at hq
    by_cases h63 : qnx T n q1 = 63
    · rw [if_pos h63] at hq
      cases h2 : qTop T n (q1 + 1) with
      | inl z => rw [h2] at hq; cases hq
      | inr z =>
        obtain ⟨q2, cb, eb⟩ := z
        rw [h2] at hq
        cases hq
        simp only [List.length_append, List.length_cons, List.length_nil] at hat Kg
        have r1 := hr.left.left.left
        have r2 := hr.left.left.right
        have r3 := hr.left.right
        have r4 := hr.right
        simp only [List.length_append, List.length_cons, List.length_nil] at r3 r4
        refine vexp_11 hd hsz h1 r1 (by omega) hi hn hs (fun μ1 i1 y4 y5 y6 hz1 hi1 hc1 hs1 => ?_)
        have e0 : (nI (at' + ca.length)).toNatClampNeg = at' + ca.length := nI_clamp (by omega)
        have q2' := r2.q hz1 (fun _ => rfl) (fun _ => rfl) 0 (Nat.zero_lt_one)
        rw [Nat.add_zero] at q2'
        refine v63_11 (r := []) (a := at' + ca.length + 1 + cb.length + 1) (by omega) hsz hi1 (by rw [hz1.1 11 _ rfl]; exact hs) (by rw [e0]; exact congrArg Prod.fst q2') (by rw [e0]; exact congrArg Prod.snd q2') hc1 hs1 (fun hx z4 z5 z6 => ?_) (fun hx z4 z5 z6 => ?_)
        · refine vexp_11 (ν := ν) hd hsz h2 (r3.q hz1 (fun _ => rfl) (fun _ => rfl)) (by omega) (by omega) (fun k hk => by rw [hz1.1 92 _ rfl]; exact hn k hk) (by rw [hz1.1 11 _ rfl]; exact hs) (fun μ2 i2 w4 w5 w6 hz2 hi2 hc2 hs2 => ?_)
          have e1 : (nI (at' + (ca.length + (0 + 1)) + cb.length)).toNatClampNeg = at' + (ca.length + (0 + 1)) + cb.length := nI_clamp (by omega)
          have q3 := (r4.q hz1 (fun _ => rfl) (fun _ => rfl)).q hz2 (fun _ => rfl) (fun _ => rfl) 0 (Nat.zero_lt_one)
          rw [Nat.add_zero, show at' + (ca.length + (0 + 1) + cb.length) = at' + (ca.length + (0 + 1)) + cb.length by omega] at q3
          refine v59_11 (r := []) (a := 0) (by omega) hsz hi2 (by rw [hz2.1 11 _ rfl, hz1.1 11 _ rfl]; exact hs) (by rw [show at' + ca.length + 1 = at' + (ca.length + (0 + 1)) by omega, e1]; exact congrArg Prod.fst q3) (by rw [show at' + ca.length + 1 = at' + (ca.length + (0 + 1)) by omega, e1]; exact congrArg Prod.snd q3) hc2 hs2 (Kr μ2 (hz1.tr hz2) (Or.inr ⟨ea, rfl, hx⟩))
        · have := Kg ea rfl hx μ1 (i1 + 1) z4 z5 z6 hz1 (by omega)
          rw [show at' + ca.length + 1 + cb.length + 1 = at' + (ca.length + (0 + 1) + cb.length + (0 + 1)) by omega]
          exact this
    · rw [if_neg h63] at hq
      cases hq
      simp only [List.length_append, List.length_cons, List.length_nil] at hat
      refine vexp_11 hd hsz h1 hr.left (by omega) hi hn hs (fun μ1 i1 y4 y5 y6 hz1 hi1 hc1 hs1 => ?_)
      have e0 : (nI (at' + ca.length)).toNatClampNeg = at' + ca.length := nI_clamp (by omega)
      have q2' := hr.right.q hz1 (fun _ => rfl) (fun _ => rfl) 0 (Nat.zero_lt_one)
      rw [Nat.add_zero] at q2'
      exact v59_11 (r := []) (a := 0) (by omega) hsz hi1 (by rw [hz1.1 11 _ rfl]; exact hs) (by rw [e0]; exact congrArg Prod.fst q2') (by rw [e0]; exact congrArg Prod.snd q2') hc1 hs1 (Kr μ1 hz1 (Or.inl rfl))

set_option maxRecDepth 100000 in
set_option maxHeartbeats 4000000 in
theorem vlaw_11 {g : zG} {d : Nat} {Q : Option Value → zMem → Prop} {ν : Nat → Int32} {sz : Nat} (hd : 2 ≤ d) (hsz : sz ≤ 121) {T : Nat → Int32} {n : Nat} : ∀ (f p at' i : Nat) (c : qC) (e : qD) (μ : zMem) (x4 x5 x6 : Option Value), qLw T n f p at' = .inr (c, e) → rowsH 89 90 at' c μ → at' + c.length = sz → i ≤ at' → (∀ i, i < 6 → μ.1 92 i = ν i) → μ.1 11 4 = nI sz → (∀ μ' : zMem, zq vS μ μ' → Q (some (.int (e ν))) μ') → zW g P_value d 6 [some (.ref 11), some (.int (nI 0)), some (.int (nI at')), some (.int (nI i)), x4, x5, x6] [] μ Q := by
  intro f
  induction f with
  | zero => intro p at' i c e μ x4 x5 x6 h; cases h
  | succ f ih =>
    intro p at' i c e μ x4 x5 x6 h hr hat hi hn hs hK
    simp only [qLw] at h
    cases h1 : qLn T n p at' with
    | inl z => rw [h1] at h; cases h
    | inr z =>
      obtain ⟨q, c1, o1, e1⟩ := z
      rw [h1] at h
      dsimp only at h
      by_cases hqn : q = n
      · rw [if_pos hqn] at h
        cases h
        refine vline_11 hd hsz h1 hr (by omega) hi hn hs (fun μ1 hz1 ho => ?_) (fun z hz hz0 μ1 i1 y4 y5 y6 hz1 hi1 => ?_)
        · have := hK μ1 hz1
          rcases ho with rfl | ⟨z, rfl, hz⟩
          · exact this
          · unfold qcon at this
            dsimp only at this
            rw [if_neg hz] at this
            exact this
        · subst hz
          rw [hat]
          refine vend_11 hsz (by rw [hz1.1 11 _ rfl]; exact hs) ?_
          have := hK μ1 hz1
          unfold qcon at this
          dsimp only at this
          rw [if_pos hz0] at this
          exact this
      · rw [if_neg hqn] at h
        by_cases h59 : qnx T n q = 59
        · rw [if_pos h59] at h
          cases h2 : qLw T n f (q + 1) (at' + c1.length) with
          | inl z => rw [h2] at h; cases h
          | inr z =>
            obtain ⟨c2, e2⟩ := z
            rw [h2] at h
            cases h
            rw [List.length_append] at hat
            refine vline_11 hd hsz h1 hr.left (by omega) hi hn hs (fun μ1 hz1 ho => ?_) (fun z hz hz0 μ1 i1 y4 y5 y6 hz1 hi1 => ?_)
            · have := hK μ1 hz1
              rcases ho with rfl | ⟨z, rfl, hz⟩
              · exact this
              · unfold qcon at this
                dsimp only at this
                rw [if_neg hz] at this
                exact this
            · subst hz
              refine ih (q + 1) (at' + c1.length) i1 c2 e2 μ1 y4 y5 y6 h2 (hr.right.q hz1 (fun _ => rfl) (fun _ => rfl)) (by omega) hi1 (fun k hk => by rw [hz1.1 92 _ rfl]; exact hn k hk) (by rw [hz1.1 11 _ rfl]; exact hs) (fun μ2 hz2 => ?_)
              have := hK μ2 (hz1.tr hz2)
              unfold qcon at this
              dsimp only at this
              rw [if_pos hz0] at this
              exact this
        · rw [if_neg h59] at h
          cases h
theorem x_value_11 {g : zG} {d : Nat} {ν : Nat → Int32} (hd : 2 ≤ d) {T : Nat → Int32} {n : Nat} {c : qC} {e : qD} {μ : zMem} (h : qLw T n 121 0 0 = .inr (c, e)) (hr : rowsH 89 90 0 c μ) (hc : c.length ≤ 121) (hn : ∀ i, i < 6 → μ.1 92 i = ν i) (hs : μ.1 11 4 = nI c.length) : zM g d P_value [.ref 11] μ (fun r μ' => r = some (.int (e ν)) ∧ zq vS μ μ') := by
  refine zM_of (by decide +kernel) rfl rfl (Nat.le_of_ble_eq_true rfl) rfl ?_
  refine zb P_value_s0 rfl ?_
  exact vlaw_11 hd hc 121 0 0 0 c e μ _ _ _ h hr (Nat.zero_add _) (Nat.le_refl _) hn hs (fun μ1 hz1 => ⟨rfl, hz1⟩)

/-- what a vow would do, by the class's numbers -/
def ofI (F : zF) (v : Nat) (b dd h : Int32) : Int32 := flaw F (fwt F v) (zB (dd = -1)) (if dd < 0 then 0 else dd) h b (fby F v)
theorem clamp_is (x : Int32) : (if -9 < (if x < 9 then x else 9) then (if x < 9 then x else 9) else -9) = qclamp x := by
  unfold qclamp
  grind
def tell6 (μ : zMem) (nm : Nat) (w k dd h b p : Int32) : zMem := zpI (zpI (zpI (zpI (zpI (zpI μ nm 0 w) nm 1 k) nm 2 dd) nm 3 h) nm 4 b) nm 5 p
theorem tell6_at {μ : zMem} {nm : Nat} {w k dd h b p : Int32} : ∀ i, i < 6 → (tell6 μ nm w k dd h b p).1 nm i = zget [w, k, dd, h, b, p] i 0 := by
  intro i hi
  unfold tell6
  rcases (show i = 0 ∨ i = 1 ∨ i = 2 ∨ i = 3 ∨ i = 4 ∨ i = 5 by omega) with rfl | rfl | rfl | rfl | rfl | rfl <;> simp [zpI, zu, zget]
theorem tell6_q {μ : zMem} {nm : Nat} {w k dd h b p : Int32} (hn : ∀ j, nS nm j = true) : zq nS μ (tell6 μ nm w k dd h b p) := by
  unfold tell6
  exact (((((zq.w (hn _)).tr (zq.w (hn _))).tr (zq.w (hn _))).tr (zq.w (hn _))).tr (zq.w (hn _))).tr (zq.w (hn _))

set_option maxRecDepth 100000 in
set_option maxHeartbeats 4000000 in
theorem x_tell_10 {g : zG} {d : Nat} {μ : zMem} (w k dd h b p : Int32) : zM g d P_tell [.ref 10, .int w, .int k, .int dd, .int h, .int b, .int p] μ (fun r μ' => r = none ∧ μ' = tell6 μ 88 w k dd h b p) := by
  refine zM_of (by decide +kernel) rfl rfl (Nat.le_of_ble_eq_true rfl) rfl ?_
  refine zb6 P_tell_s0 rfl (vp_in_nI (n := 0) (by omega) (by omega)) (vp_in_nI (n := 1) (by omega) (by omega)) (vp_in_nI (n := 2) (by omega) (by omega)) (vp_in_nI (n := 3) (by omega) (by omega)) (vp_in_nI (n := 4) (by omega) (by omega)) (vp_in_nI (n := 5) (by omega) (by omega)) ?_
  refine z_retV P_tell_d45 rfl ?_
  exact ⟨rfl, rfl⟩

set_option maxRecDepth 100000 in
set_option maxHeartbeats 4000000 in
theorem x_offIf0_10 {g : zG} {d : Nat} {F : zF} {i : Nat} {b dd h : Int32} {m1 : Nat → Nat → Int32} {m2 : Nat → Nat → Int64} (hd : 4 ≤ d) (hi : i < 12) (ho : oX F (m1, m2, zR10)) (hsz : m1 10 4 = 0) (hL : flaw F = noLaw) : zM g d F_offIf [.ref 2, .int (nI i), .int b, .int dd, .int h] (m1, m2, zR10) (fun r μ' => r = some (.int (ofI F i b dd h)) ∧ zq nS (m1, m2, zR10) μ') := by
  refine zM_of (by decide +kernel) rfl rfl (Nat.le_of_ble_eq_true rfl) rfl ?_
  have hv12 : vp_in (nI i) 12 := vp_in_nI hi (by omega)
  have ei : (nI i).toNatClampNeg = i := nI_clamp (by omega)
  refine zb F_offIf_s0 rfl ?_
  refine z_ne F_offIf_d7 (tgt := 27) rfl (fun h7 => absurd hsz h7) (fun h7 => ?_)
  refine zb F_offIf_s10 rfl ?_
  refine z_cne F_offIf_d12 (tgt := 19) rfl (fun h12 => ?_) (fun h12 => ?_)
  · refine zb1 F_offIf_s19 rfl hv12 ?_
    refine z_ret F_offIf_d26 rfl ?_
    refine ⟨?_, zq.rf⟩
    unfold ofI
    rw [hL]
    unfold noLaw
    first
      | (rw [zB_f h12, if_pos rfl, ho.e57, ei]; done)
      | (rw [zB_t h12, if_neg (by decide)]; done)
  · refine zb F_offIf_s15 rfl ?_
    refine z_ret F_offIf_d26 rfl ?_
    refine ⟨?_, zq.rf⟩
    unfold ofI
    rw [hL]
    unfold noLaw
    first
      | (rw [zB_f h12, if_pos rfl, ho.e57, ei]; done)
      | (rw [zB_t h12, if_neg (by decide)]; done)

set_option maxRecDepth 100000 in
set_option maxHeartbeats 4000000 in
theorem x_offIf1_10 {g : zG} {d : Nat} {F : zF} {i : Nat} {b dd h : Int32} {m1 : Nat → Nat → Int32} {m2 : Nat → Nat → Int64} (hd : 4 ≤ d) (hi : i < 12) (ho : oX F (m1, m2, zR10)) (hsz : ¬ m1 10 4 = 0) {e : qD} (hL : flaw F = lawOf e) (hval : ∀ (k : Int32) (dd' : Int32), zM g (d - 1) P_value [.ref 10] (tell6 (m1, m2, zR10) 88 (fwt F i) k dd' h b (fby F i)) (fun r μ' => r = some (.int (e (fun j => zget [fwt F i, k, dd', h, b, fby F i] j 0))) ∧ zq nS (m1, m2, zR10) μ')) : zM g d F_offIf [.ref 2, .int (nI i), .int b, .int dd, .int h] (m1, m2, zR10) (fun r μ' => r = some (.int (ofI F i b dd h)) ∧ zq nS (m1, m2, zR10) μ') := by
  refine zM_of (by decide +kernel) rfl rfl (Nat.le_of_ble_eq_true rfl) rfl ?_
  have hv12 : vp_in (nI i) 12 := vp_in_nI hi (by omega)
  have ei : (nI i).toNatClampNeg = i := nI_clamp (by omega)
  refine zb F_offIf_s0 rfl ?_
  refine z_ne F_offIf_d7 (tgt := 27) rfl (fun h7 => ?_) (fun h7 => absurd h7 hsz)
  refine zb F_offIf_s27 rfl ?_
  refine z_cne F_offIf_d29 (tgt := 36) rfl (fun h29 => ?_) (fun h29 => ?_)
  · refine zb F_offIf_s36 rfl ?_
    refine zcallN F_offIf_d37 k4_74 (by omega) (x_bit _) rfl rfl (Nat.le_of_ble_eq_true rfl) ?_
    rintro _ μx ⟨rfl, hx⟩
    rw [hx]
    clear hx μx
    refine zb1 F_offIf_s40 rfl hv12 ?_
    refine zmax F_offIf_d56 k4_78 (by omega) (Nat.le_of_ble_eq_true rfl) ?_
    refine zb1 F_offIf_s59 rfl hv12 ?_
    rw [ho.e57, ho.e58, ei]
    refine zcallV F_offIf_d68 k4_84 (by omega) (x_tell_10 _ _ _ _ _ _) rfl rfl rfl (Nat.le_of_ble_eq_true rfl) ?_
    rintro _ μx ⟨rfl, hx⟩
    rw [hx]
    clear hx μx
    refine zb F_offIf_s71 rfl ?_
    refine zcallV F_offIf_d79 k4_88 (by omega) (hval _ _) rfl rfl rfl (Nat.le_of_ble_eq_true rfl) ?_
    rintro _ μ1 ⟨rfl, hz1⟩
    refine zmin F_offIf_d82 k4_92 (by omega) (Nat.le_of_ble_eq_true rfl) ?_
    refine zmax F_offIf_d85 k4_78 (by omega) (Nat.le_of_ble_eq_true rfl) ?_
    refine z_ret F_offIf_d88 rfl ?_
    refine ⟨?_, hz1⟩
    unfold ofI
    rw [hL]
    refine congrArg (fun z => some (Value.int z)) ?_
    refine (clamp_is _).trans ?_
    unfold lawOf
    refine congrArg (fun z => qclamp (e (fun i => zget [fwt F _, z, _, h, b, fby F _] i 0))) ?_
    first
      | exact zB_cong (iff_of_true (by decide) h29)
      | exact zB_cong (iff_of_false (by decide) h29)
  · refine zb F_offIf_s32 rfl ?_
    refine zcallN F_offIf_d37 k4_74 (by omega) (x_bit _) rfl rfl (Nat.le_of_ble_eq_true rfl) ?_
    rintro _ μx ⟨rfl, hx⟩
    rw [hx]
    clear hx μx
    refine zb1 F_offIf_s40 rfl hv12 ?_
    refine zmax F_offIf_d56 k4_78 (by omega) (Nat.le_of_ble_eq_true rfl) ?_
    refine zb1 F_offIf_s59 rfl hv12 ?_
    rw [ho.e57, ho.e58, ei]
    refine zcallV F_offIf_d68 k4_84 (by omega) (x_tell_10 _ _ _ _ _ _) rfl rfl rfl (Nat.le_of_ble_eq_true rfl) ?_
    rintro _ μx ⟨rfl, hx⟩
    rw [hx]
    clear hx μx
    refine zb F_offIf_s71 rfl ?_
    refine zcallV F_offIf_d79 k4_88 (by omega) (hval _ _) rfl rfl rfl (Nat.le_of_ble_eq_true rfl) ?_
    rintro _ μ1 ⟨rfl, hz1⟩
    refine zmin F_offIf_d82 k4_92 (by omega) (Nat.le_of_ble_eq_true rfl) ?_
    refine zmax F_offIf_d85 k4_78 (by omega) (Nat.le_of_ble_eq_true rfl) ?_
    refine z_ret F_offIf_d88 rfl ?_
    refine ⟨?_, hz1⟩
    unfold ofI
    rw [hL]
    refine congrArg (fun z => some (Value.int z)) ?_
    refine (clamp_is _).trans ?_
    unfold lawOf
    refine congrArg (fun z => qclamp (e (fun i => zget [fwt F _, z, _, h, b, fby F _] i 0))) ?_
    first
      | exact zB_cong (iff_of_true (by decide) h29)
      | exact zB_cong (iff_of_false (by decide) h29)

set_option maxRecDepth 100000 in
set_option maxHeartbeats 4000000 in
theorem x_tell_11 {g : zG} {d : Nat} {μ : zMem} (w k dd h b p : Int32) : zM g d P_tell [.ref 11, .int w, .int k, .int dd, .int h, .int b, .int p] μ (fun r μ' => r = none ∧ μ' = tell6 μ 92 w k dd h b p) := by
  refine zM_of (by decide +kernel) rfl rfl (Nat.le_of_ble_eq_true rfl) rfl ?_
  refine zb6 P_tell_s0 rfl (vp_in_nI (n := 0) (by omega) (by omega)) (vp_in_nI (n := 1) (by omega) (by omega)) (vp_in_nI (n := 2) (by omega) (by omega)) (vp_in_nI (n := 3) (by omega) (by omega)) (vp_in_nI (n := 4) (by omega) (by omega)) (vp_in_nI (n := 5) (by omega) (by omega)) ?_
  refine z_retV P_tell_d45 rfl ?_
  exact ⟨rfl, rfl⟩

set_option maxRecDepth 100000 in
set_option maxHeartbeats 4000000 in
theorem x_offIf0_11 {g : zG} {d : Nat} {F : zF} {i : Nat} {b dd h : Int32} {m1 : Nat → Nat → Int32} {m2 : Nat → Nat → Int64} (hd : 4 ≤ d) (hi : i < 12) (ho : oX F (m1, m2, zR11)) (hsz : m1 11 4 = 0) (hL : flaw F = noLaw) : zM g d F_offIf [.ref 2, .int (nI i), .int b, .int dd, .int h] (m1, m2, zR11) (fun r μ' => r = some (.int (ofI F i b dd h)) ∧ zq nS (m1, m2, zR11) μ') := by
  refine zM_of (by decide +kernel) rfl rfl (Nat.le_of_ble_eq_true rfl) rfl ?_
  have hv12 : vp_in (nI i) 12 := vp_in_nI hi (by omega)
  have ei : (nI i).toNatClampNeg = i := nI_clamp (by omega)
  refine zb F_offIf_s0 rfl ?_
  refine z_ne F_offIf_d7 (tgt := 27) rfl (fun h7 => absurd hsz h7) (fun h7 => ?_)
  refine zb F_offIf_s10 rfl ?_
  refine z_cne F_offIf_d12 (tgt := 19) rfl (fun h12 => ?_) (fun h12 => ?_)
  · refine zb1 F_offIf_s19 rfl hv12 ?_
    refine z_ret F_offIf_d26 rfl ?_
    refine ⟨?_, zq.rf⟩
    unfold ofI
    rw [hL]
    unfold noLaw
    first
      | (rw [zB_f h12, if_pos rfl, ho.e57, ei]; done)
      | (rw [zB_t h12, if_neg (by decide)]; done)
  · refine zb F_offIf_s15 rfl ?_
    refine z_ret F_offIf_d26 rfl ?_
    refine ⟨?_, zq.rf⟩
    unfold ofI
    rw [hL]
    unfold noLaw
    first
      | (rw [zB_f h12, if_pos rfl, ho.e57, ei]; done)
      | (rw [zB_t h12, if_neg (by decide)]; done)

set_option maxRecDepth 100000 in
set_option maxHeartbeats 4000000 in
theorem x_offIf1_11 {g : zG} {d : Nat} {F : zF} {i : Nat} {b dd h : Int32} {m1 : Nat → Nat → Int32} {m2 : Nat → Nat → Int64} (hd : 4 ≤ d) (hi : i < 12) (ho : oX F (m1, m2, zR11)) (hsz : ¬ m1 11 4 = 0) {e : qD} (hL : flaw F = lawOf e) (hval : ∀ (k : Int32) (dd' : Int32), zM g (d - 1) P_value [.ref 11] (tell6 (m1, m2, zR11) 92 (fwt F i) k dd' h b (fby F i)) (fun r μ' => r = some (.int (e (fun j => zget [fwt F i, k, dd', h, b, fby F i] j 0))) ∧ zq nS (m1, m2, zR11) μ')) : zM g d F_offIf [.ref 2, .int (nI i), .int b, .int dd, .int h] (m1, m2, zR11) (fun r μ' => r = some (.int (ofI F i b dd h)) ∧ zq nS (m1, m2, zR11) μ') := by
  refine zM_of (by decide +kernel) rfl rfl (Nat.le_of_ble_eq_true rfl) rfl ?_
  have hv12 : vp_in (nI i) 12 := vp_in_nI hi (by omega)
  have ei : (nI i).toNatClampNeg = i := nI_clamp (by omega)
  refine zb F_offIf_s0 rfl ?_
  refine z_ne F_offIf_d7 (tgt := 27) rfl (fun h7 => ?_) (fun h7 => absurd h7 hsz)
  refine zb F_offIf_s27 rfl ?_
  refine z_cne F_offIf_d29 (tgt := 36) rfl (fun h29 => ?_) (fun h29 => ?_)
  · refine zb F_offIf_s36 rfl ?_
    refine zcallN F_offIf_d37 k4_74 (by omega) (x_bit _) rfl rfl (Nat.le_of_ble_eq_true rfl) ?_
    rintro _ μx ⟨rfl, hx⟩
    rw [hx]
    clear hx μx
    refine zb1 F_offIf_s40 rfl hv12 ?_
    refine zmax F_offIf_d56 k4_78 (by omega) (Nat.le_of_ble_eq_true rfl) ?_
    refine zb1 F_offIf_s59 rfl hv12 ?_
    rw [ho.e57, ho.e58, ei]
    refine zcallV F_offIf_d68 k4_84 (by omega) (x_tell_11 _ _ _ _ _ _) rfl rfl rfl (Nat.le_of_ble_eq_true rfl) ?_
    rintro _ μx ⟨rfl, hx⟩
    rw [hx]
    clear hx μx
    refine zb F_offIf_s71 rfl ?_
    refine zcallV F_offIf_d79 k4_88 (by omega) (hval _ _) rfl rfl rfl (Nat.le_of_ble_eq_true rfl) ?_
    rintro _ μ1 ⟨rfl, hz1⟩
    refine zmin F_offIf_d82 k4_92 (by omega) (Nat.le_of_ble_eq_true rfl) ?_
    refine zmax F_offIf_d85 k4_78 (by omega) (Nat.le_of_ble_eq_true rfl) ?_
    refine z_ret F_offIf_d88 rfl ?_
    refine ⟨?_, hz1⟩
    unfold ofI
    rw [hL]
    refine congrArg (fun z => some (Value.int z)) ?_
    refine (clamp_is _).trans ?_
    unfold lawOf
    refine congrArg (fun z => qclamp (e (fun i => zget [fwt F _, z, _, h, b, fby F _] i 0))) ?_
    first
      | exact zB_cong (iff_of_true (by decide) h29)
      | exact zB_cong (iff_of_false (by decide) h29)
  · refine zb F_offIf_s32 rfl ?_
    refine zcallN F_offIf_d37 k4_74 (by omega) (x_bit _) rfl rfl (Nat.le_of_ble_eq_true rfl) ?_
    rintro _ μx ⟨rfl, hx⟩
    rw [hx]
    clear hx μx
    refine zb1 F_offIf_s40 rfl hv12 ?_
    refine zmax F_offIf_d56 k4_78 (by omega) (Nat.le_of_ble_eq_true rfl) ?_
    refine zb1 F_offIf_s59 rfl hv12 ?_
    rw [ho.e57, ho.e58, ei]
    refine zcallV F_offIf_d68 k4_84 (by omega) (x_tell_11 _ _ _ _ _ _) rfl rfl rfl (Nat.le_of_ble_eq_true rfl) ?_
    rintro _ μx ⟨rfl, hx⟩
    rw [hx]
    clear hx μx
    refine zb F_offIf_s71 rfl ?_
    refine zcallV F_offIf_d79 k4_88 (by omega) (hval _ _) rfl rfl rfl (Nat.le_of_ble_eq_true rfl) ?_
    rintro _ μ1 ⟨rfl, hz1⟩
    refine zmin F_offIf_d82 k4_92 (by omega) (Nat.le_of_ble_eq_true rfl) ?_
    refine zmax F_offIf_d85 k4_78 (by omega) (Nat.le_of_ble_eq_true rfl) ?_
    refine z_ret F_offIf_d88 rfl ?_
    refine ⟨?_, hz1⟩
    unfold ofI
    rw [hL]
    refine congrArg (fun z => some (Value.int z)) ?_
    refine (clamp_is _).trans ?_
    unfold lawOf
    refine congrArg (fun z => qclamp (e (fun i => zget [fwt F _, z, _, h, b, fby F _] i 0))) ?_
    first
      | exact zB_cong (iff_of_true (by decide) h29)
      | exact zB_cong (iff_of_false (by decide) h29)

theorem x_offIf {g : zG} {d : Nat} {F : zF} {i : Nat} {b dd h : Int32} {μ : zMem} (hd : 4 ≤ d) (hi : i < 12) (ho : oX F μ) : zM g d F_offIf [.ref 2, .int (nI i), .int b, .int dd, .int h] μ (fun r μ' => r = some (.int (ofI F i b dd h)) ∧ zq nS μ μ') := by
  obtain ⟨m1, m2, R⟩ := μ
  rcases ho.2.2 with ⟨hR, hp⟩ | ⟨hR, hp⟩
  · have hR : R = zR10 := hR
    subst hR
    rcases hp with ⟨hs, hL⟩ | ⟨T, n, c, e, hn, hq, hL, hs, h0, hc, hr⟩
    · exact x_offIf0_10 hd hi ho hs hL
    · refine x_offIf1_10 hd hi ho (fun z => ?_) hL (fun k dd' => ?_)
      · have hs2 : m1 10 4 = nI c.length := hs
        rw [z] at hs2
        exact absurd hs2.symm (nI_ne0 h0 (by omega))
      · refine (x_value_10 (μ := tell6 (m1, m2, zR10) 88 (fwt F i) k dd' h b (fby F i)) (ν := fun j => zget [fwt F i, k, dd', h, b, fby F i] j 0) (by omega) hq (fun j hj => ?_) hc (fun j hj => tell6_at j hj) hs).mono (fun v μ1 hv => ⟨hv.1, (tell6_q (fun _ => rfl)).tr (hv.2.mono vS_nS)⟩)
        rw [Nat.zero_add]
        exact hr j hj
  · have hR : R = zR11 := hR
    subst hR
    rcases hp with ⟨hs, hL⟩ | ⟨T, n, c, e, hn, hq, hL, hs, h0, hc, hr⟩
    · exact x_offIf0_11 hd hi ho hs hL
    · refine x_offIf1_11 hd hi ho (fun z => ?_) hL (fun k dd' => ?_)
      · have hs2 : m1 11 4 = nI c.length := hs
        rw [z] at hs2
        exact absurd hs2.symm (nI_ne0 h0 (by omega))
      · refine (x_value_11 (μ := tell6 (m1, m2, zR11) 92 (fwt F i) k dd' h b (fby F i)) (ν := fun j => zget [fwt F i, k, dd', h, b, fby F i] j 0) (by omega) hq (fun j hj => ?_) hc (fun j hj => tell6_at j hj) hs).mono (fun v μ1 hv => ⟨hv.1, (tell6_q (fun _ => rfl)).tr (hv.2.mono vS_nS)⟩)
        rw [Nat.zero_add]
        exact hr j hj
theorem ofI_giv1 (F : zF) (v : Nat) (b dd h : Int32) : ofI F v b (-1) h = giv F v b 1 dd h := by
  unfold ofI giv
  rw [zB_t rfl, if_pos (by decide), if_neg (by decide)]
theorem ofI_giv0 (F : zF) (v : Nat) (b dd h : Int32) (h0 : 0 ≤ dd) : ofI F v b dd h = giv F v b 0 dd h := by
  unfold ofI giv
  rw [zB_f (fun z => by rw [z] at h0; exact absurd h0 (by decide)), if_neg (Int32.not_lt.mpr h0), if_pos rfl]
theorem ofI_pu {F : zF} (hF : okF F) {v : Nat} (hv : v < fV F) (b day h : Int32) : ofI F v b (dbr F v day) h = pu F v b day h := by
  unfold dbr pu
  by_cases hk : kept F v day
  · rw [if_pos hk, zB_t hk]
    exact ofI_giv1 F v b _ h
  · rw [if_neg hk, zB_f hk]
    refine ofI_giv0 F v b _ h ?_
    have h1 := Int32.le_iff_toInt_le.mp (hF.2.1 v hv).2.2.2.1.1
    have h2 := Int32.le_iff_toInt_le.mp (Int32.not_lt.mp (fun z => hk (Or.inl z)))
    have h3 := day.toInt_lt
    have h4 := (fbr F v).toInt_lt
    rw [show (0 : Int32).toInt = 0 from rfl] at h1
    rw [Int32.le_iff_toInt_le, Int32.toInt_sub, show (0 : Int32).toInt = 0 from rfl, zbm (by omega) (by omega)]
    omega

set_option maxRecDepth 100000 in
set_option maxHeartbeats 4000000 in
theorem x_offByVow {g : zG} {d : Nat} {F : zF} {μ : zMem} {i : Nat} {day h : Int32} (hF : okF F) (hd : 5 ≤ d) (hi : i < fV F) (ho : oX F μ) : zM g d F_offByVow [.ref 2, .int (nI i), .int day, .int h] μ (fun r μ' => r = some (.int (pu F i (fbell F i) day h)) ∧ zq sX μ μ') := by
  refine zM_of (by decide +kernel) rfl rfl (Nat.le_of_ble_eq_true rfl) rfl ?_
  have h12 := ho.v12
  have hz : zq sX μ μ := zq.rf
  have ei : (nI i).toNatClampNeg = i := nI_clamp (by omega)
  have hvi : vp_in (nI i) 12 := vp_in_nI (by omega) (by omega)
  refine zb1 F_offByVow_s0 rfl hvi ?_
  rw [ho.e56, ei]
  refine zcallV F_offByVow_d11 k4_95 (by omega) (x_daysBroken _ (by omega) (by omega) ho) rfl rfl rfl (Nat.le_of_ble_eq_true rfl) ?_
  rintro _ μx ⟨rfl, hx⟩
  rw [hx]
  clear hx μx
  refine zb F_offByVow_s14 rfl ?_
  refine zcallV F_offByVow_d15 k4_98 (by omega) (x_offIf (by omega) (by omega) ho) rfl rfl rfl (Nat.le_of_ble_eq_true rfl) ?_
  rintro _ μ1 ⟨rfl, hz1⟩
  replace hz := hz.tr (hz1.mono nS_sX)
  replace ho := ho.q (hz1.mono nS_sX)
  clear hz1
  refine z_ret F_offByVow_d18 rfl ?_
  exact ⟨by rw [ofI_pu hF hi], hz⟩

set_option maxRecDepth 100000 in
set_option maxHeartbeats 4000000 in
theorem w_F_offOf {g : zG} {d : Nat} {F : zF} {μ0 : zMem} {b day h : Int32} (hF : okF F) (hd : 5 ≤ d) : ∀ (j i : Nat) (acc : Int32) (μ : zMem), i + j = fV F → oX F μ → zq sX μ0 μ → (acc = zsum (offT F b day h) i) → zW g F_offOf d 6 [some (.ref 2), some (.int b), some (.int day), some (.int h), some (.int acc), some (.int (nI i))] [] μ (fun r μ' => r = some (.int (offs F b day h)) ∧ zq sX μ0 μ') := by
  intro j
  induction j with
  | zero =>
    intro i acc μ hi ho hz hv0
    have hbd := ho.v
    have h12 := ho.v12
    have h6 := ho.b6
    have hi : fV F = i := by omega
    subst hi
    refine zb F_offOf_s6 rfl ?_
    refine z_cge F_offOf_d12 (tgt := 52) rfl (fun h12 => ?_) (fun h12 => absurd (show μ.1 2 8 ≤ nI (fV F) by first | exact Int32.le_refl _ | (rw [hbd]; exact Int32.le_refl _)) h12)
    refine zb F_offOf_s52 rfl ?_
    refine z_ret F_offOf_d54 rfl ?_
    exact ⟨by rw [hv0]; rfl, hz⟩
  | succ j ih =>
    intro i acc μ hi ho hz hv0
    have hbd := ho.v
    have h12 := ho.v12
    have h6 := ho.b6
    have hilt : i < fV F := by omega
    have ei : (nI i).toNatClampNeg = i := nI_clamp (by omega)
    have hvi : vp_in (nI i) 12 := vp_in_nI (by omega) (by omega)
    refine zb F_offOf_s6 rfl ?_
    refine z_cge F_offOf_d12 (tgt := 52) rfl (fun h12 => absurd h12 (show ¬ μ.1 2 8 ≤ nI i by first | exact nI_ge hilt (by omega) | (rw [hbd]; exact nI_ge hilt (by omega)))) (fun h12 => ?_)
    refine zb1 F_offOf_s15 rfl hvi ?_
    refine z_cne F_offOf_d23 (tgt := 46) rfl (fun h23 => ?_) (fun h23 => ?_)
    · (try rw [ho.e56, ei] at h23)
      refine zb F_offOf_s46 rfl ?_
      rw [nI_1]
      refine ih (i + 1) _ _ (by omega) ho hz ?_
      rw [zsum_s, ← hv0]
      unfold offT
      first
        | rw [if_pos h23, ofI_pu hF hilt]
        | rw [if_neg h23, Int32.add_zero]
    · rw [ho.e56, ei] at h23
      refine zb F_offOf_s26 rfl ?_
      refine zcallV F_offOf_d36 k4_95 (by omega) (x_daysBroken _ (by omega) (by omega) ho) rfl rfl rfl (Nat.le_of_ble_eq_true rfl) ?_
      rintro _ μx ⟨rfl, hx⟩
      rw [hx]
      clear hx μx
      refine zb F_offOf_s39 rfl ?_
      refine zcallV F_offOf_d40 k4_98 (by omega) (x_offIf (by omega) (by omega) ho) rfl rfl rfl (Nat.le_of_ble_eq_true rfl) ?_
      rintro _ μ1 ⟨rfl, hz1⟩
      replace hz := hz.tr (hz1.mono nS_sX)
      replace ho := ho.q (hz1.mono nS_sX)
      clear hz1
      refine zb F_offOf_s43 rfl ?_
      rw [nI_1]
      refine ih (i + 1) _ _ (by omega) ho hz ?_
      rw [zsum_s, ← hv0]
      unfold offT
      first
        | rw [if_pos h23, ofI_pu hF hilt]
        | rw [if_neg h23, Int32.add_zero]

set_option maxRecDepth 100000 in
set_option maxHeartbeats 4000000 in
theorem x_offOf {g : zG} {d : Nat} {F : zF} {μ : zMem} {b day h : Int32} (hF : okF F) (hd : 5 ≤ d) (ho : oX F μ) : zM g d F_offOf [.ref 2, .int b, .int day, .int h] μ (fun r μ' => r = some (.int (offs F b day h)) ∧ zq sX μ μ') := by
  refine zM_of (by decide +kernel) rfl rfl (Nat.le_of_ble_eq_true rfl) rfl ?_
  refine zb F_offOf_s0 rfl ?_
  exact w_F_offOf hF hd (fV F) 0 0 μ (by omega) ho zq.rf rfl
