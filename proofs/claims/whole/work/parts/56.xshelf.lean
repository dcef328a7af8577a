/-! the class: its shelves -/
abbrev bE (c : Nat) (μ : zMem) : Prop := μ.1 c 1 = -1 ∧ μ.1 c 2 = -1
abbrev bR (c : Nat) (μ : zMem) : Prop := ¬ μ.1 c 2 = -1
abbrev bP (c : Nat) (i n : Int32) (μ : zMem) : Prop := 0 ≤ i ∧ 0 ≤ n ∧ i ≤ μ.1 c 3 ∧ n ≤ μ.1 c 3 - i
def clr (c : Nat) (μ : zMem) : zMem := zpI (zpI (zpI μ c 1 (-1)) c 2 (-1)) c 3 0

set_option maxRecDepth 100000 in
set_option maxHeartbeats 4000000 in
theorem x_shelf_0 {g : zG} {d : Nat} {μ : zMem} (hd : 1 ≤ d) : zM g d X_shelfAt [.ref 1, .int (nI 0)] μ (fun r μ' => r = some (.ref 13) ∧ μ' = μ) := by
  refine zM_of (by decide +kernel) rfl rfl (Nat.le_of_ble_eq_true rfl) rfl ?_
  refine zb X_shelfAt_s0 rfl ?_
  refine zcallS X_shelfAt_d2 k10_170 (by omega) (x_isWithin _ _) rfl rfl (Nat.le_of_ble_eq_true rfl) ?_
  rintro _ μx ⟨rfl, hx⟩
  rw [hx]
  clear hx μx
  refine z_eq X_shelfAt_d5 (tgt := 17) rfl (fun h5 => absurd h5 (by decide)) (fun h5 => ?_)
  refine zb1 X_shelfAt_s8 rfl (vp_in_nI (n := 0) (by omega) (by omega)) ?_
  refine z_retA X_shelfAt_d18 rfl (by first | exact Or.inl ⟨_, rfl⟩ | exact Or.inr ⟨_, rfl⟩) ?_
  exact ⟨rfl, rfl⟩

set_option maxRecDepth 100000 in
set_option maxHeartbeats 4000000 in
theorem x_isEmpty_0 {g : zG} {d : Nat} {μ : zMem} : zM g d S_isEmpty [.ref 13] μ (fun r μ' => r = some (.int (zB (bE 13 μ))) ∧ μ' = μ) := by
  refine zM_of (by decide +kernel) rfl rfl (Nat.le_of_ble_eq_true rfl) rfl ?_
  refine zb S_isEmpty_s0 rfl ?_
  refine z_cne S_isEmpty_d5 (tgt := 20) rfl (fun h5 => ?_) (fun h5 => ?_)
  · refine zb S_isEmpty_s20 rfl ?_
    refine z_retZ S_isEmpty_d21 rfl (by first | exact Or.inl rfl | exact Or.inr rfl) ?_
    first
      | exact ⟨by rw [zB_t (show bE 13 μ from And.intro h5 h13)], rfl⟩
      | exact ⟨by rw [zB_f (show ¬ bE 13 μ from fun z => h5 z.1)], rfl⟩
      | exact ⟨by rw [zB_f (show ¬ bE 13 μ from fun z => h13 z.2)], rfl⟩
  · refine zb S_isEmpty_s8 rfl ?_
    refine z_cne S_isEmpty_d13 (tgt := 20) rfl (fun h13 => ?_) (fun h13 => ?_)
    · refine zb S_isEmpty_s20 rfl ?_
      refine z_retZ S_isEmpty_d21 rfl (by first | exact Or.inl rfl | exact Or.inr rfl) ?_
      first
        | exact ⟨by rw [zB_t (show bE 13 μ from And.intro h5 h13)], rfl⟩
        | exact ⟨by rw [zB_f (show ¬ bE 13 μ from fun z => h5 z.1)], rfl⟩
        | exact ⟨by rw [zB_f (show ¬ bE 13 μ from fun z => h13 z.2)], rfl⟩
    · refine zb S_isEmpty_s16 rfl ?_
      refine z_retZ S_isEmpty_d21 rfl (by first | exact Or.inl rfl | exact Or.inr rfl) ?_
      first
        | exact ⟨by rw [zB_t (show bE 13 μ from And.intro h5 h13)], rfl⟩
        | exact ⟨by rw [zB_f (show ¬ bE 13 μ from fun z => h5 z.1)], rfl⟩
        | exact ⟨by rw [zB_f (show ¬ bE 13 μ from fun z => h13 z.2)], rfl⟩

set_option maxRecDepth 100000 in
set_option maxHeartbeats 4000000 in
theorem x_isRow_0 {g : zG} {d : Nat} {μ : zMem} : zM g d S_isRow [.ref 13] μ (fun r μ' => r = some (.int (zB (bR 13 μ))) ∧ μ' = μ) := by
  refine zM_of (by decide +kernel) rfl rfl (Nat.le_of_ble_eq_true rfl) rfl ?_
  refine zb S_isRow_s0 rfl ?_
  refine z_ceq S_isRow_d5 (tgt := 12) rfl (fun h5 => ?_) (fun h5 => ?_)
  · refine zb S_isRow_s12 rfl ?_
    refine z_retZ S_isRow_d13 rfl (by first | exact Or.inl rfl | exact Or.inr rfl) ?_
    first
      | exact ⟨by rw [zB_t (show bR 13 μ from h5)], rfl⟩
      | exact ⟨by rw [zB_f (show ¬ bR 13 μ from fun z => z h5)], rfl⟩
  · refine zb S_isRow_s8 rfl ?_
    refine z_retZ S_isRow_d13 rfl (by first | exact Or.inl rfl | exact Or.inr rfl) ?_
    first
      | exact ⟨by rw [zB_t (show bR 13 μ from h5)], rfl⟩
      | exact ⟨by rw [zB_f (show ¬ bR 13 μ from fun z => z h5)], rfl⟩

set_option maxRecDepth 100000 in
set_option maxHeartbeats 4000000 in
theorem x_isRowOf_0 {g : zG} {d : Nat} {μ : zMem} (p : Int32) (hd : 1 ≤ d) : zM g d S_isRowOf [.ref 13, .int p] μ (fun r μ' => r = some (.int (zB (bR 13 μ ∧ μ.1 13 2 = p))) ∧ μ' = μ) := by
  refine zM_of (by decide +kernel) rfl rfl (Nat.le_of_ble_eq_true rfl) rfl ?_
  refine zb S_isRowOf_s0 rfl ?_
  refine zcallV S_isRowOf_d1 k8_22 (by omega) (x_isRow_0) rfl rfl rfl (Nat.le_of_ble_eq_true rfl) ?_
  rintro _ μx ⟨rfl, hx⟩
  rw [hx]
  clear hx μx
  refine z_eq S_isRowOf_d4 (tgt := 19) rfl (fun h4 => ?_) (fun h4 => ?_)
  · refine zb S_isRowOf_s19 rfl ?_
    refine z_retZ S_isRowOf_d20 rfl (by first | exact Or.inl rfl | exact Or.inr rfl) ?_
    first
      | exact ⟨by rw [zB_t (And.intro (zB_ne0.mp h4) h12)], rfl⟩
      | exact ⟨by rw [zB_f (fun z => h12 z.2)], rfl⟩
      | exact ⟨by rw [zB_f (fun z => (zB_eq0.mp h4) z.1)], rfl⟩
  · refine zb S_isRowOf_s7 rfl ?_
    refine z_cne S_isRowOf_d12 (tgt := 19) rfl (fun h12 => ?_) (fun h12 => ?_)
    · refine zb S_isRowOf_s19 rfl ?_
      refine z_retZ S_isRowOf_d20 rfl (by first | exact Or.inl rfl | exact Or.inr rfl) ?_
      first
        | exact ⟨by rw [zB_t (And.intro (zB_ne0.mp h4) h12)], rfl⟩
        | exact ⟨by rw [zB_f (fun z => h12 z.2)], rfl⟩
        | exact ⟨by rw [zB_f (fun z => (zB_eq0.mp h4) z.1)], rfl⟩
    · refine zb S_isRowOf_s15 rfl ?_
      refine z_retZ S_isRowOf_d20 rfl (by first | exact Or.inl rfl | exact Or.inr rfl) ?_
      first
        | exact ⟨by rw [zB_t (And.intro (zB_ne0.mp h4) h12)], rfl⟩
        | exact ⟨by rw [zB_f (fun z => h12 z.2)], rfl⟩
        | exact ⟨by rw [zB_f (fun z => (zB_eq0.mp h4) z.1)], rfl⟩

set_option maxRecDepth 100000 in
set_option maxHeartbeats 4000000 in
theorem x_hasPlaces_0 {g : zG} {d : Nat} {μ : zMem} (i n : Int32) : zM g d S_hasPlaces [.ref 13, .int i, .int n] μ (fun r μ' => r = some (.int (zB (bP 13 i n μ))) ∧ μ' = μ) := by
  refine zM_of (by decide +kernel) rfl rfl (Nat.le_of_ble_eq_true rfl) rfl ?_
  refine zb S_hasPlaces_s0 rfl ?_
  refine z_lt S_hasPlaces_d1 (tgt := 30) rfl (fun h1 => ?_) (fun h1 => ?_)
  · refine zb S_hasPlaces_s30 rfl ?_
    refine z_retZ S_hasPlaces_d31 rfl (by first | exact Or.inl rfl | exact Or.inr rfl) ?_
    first
      | exact ⟨by rw [zB_t (show bP 13 i n μ from And.intro (Int32.not_lt.mp h1) (And.intro (Int32.not_lt.mp h5) (And.intro (Int32.not_lt.mp h13) (Int32.not_lt.mp h23))))], rfl⟩
      | exact ⟨by rw [zB_f (show ¬ bP 13 i n μ from fun z => absurd z.2.2.2 (Int32.not_le.mpr h23))], rfl⟩
      | exact ⟨by rw [zB_f (show ¬ bP 13 i n μ from fun z => absurd z.2.2.1 (Int32.not_le.mpr h13))], rfl⟩
      | exact ⟨by rw [zB_f (show ¬ bP 13 i n μ from fun z => absurd z.2.1 (Int32.not_le.mpr h5))], rfl⟩
      | exact ⟨by rw [zB_f (show ¬ bP 13 i n μ from fun z => absurd z.1 (Int32.not_le.mpr h1))], rfl⟩
  · refine zb S_hasPlaces_s4 rfl ?_
    refine z_lt S_hasPlaces_d5 (tgt := 30) rfl (fun h5 => ?_) (fun h5 => ?_)
    · refine zb S_hasPlaces_s30 rfl ?_
      refine z_retZ S_hasPlaces_d31 rfl (by first | exact Or.inl rfl | exact Or.inr rfl) ?_
      first
        | exact ⟨by rw [zB_t (show bP 13 i n μ from And.intro (Int32.not_lt.mp h1) (And.intro (Int32.not_lt.mp h5) (And.intro (Int32.not_lt.mp h13) (Int32.not_lt.mp h23))))], rfl⟩
        | exact ⟨by rw [zB_f (show ¬ bP 13 i n μ from fun z => absurd z.2.2.2 (Int32.not_le.mpr h23))], rfl⟩
        | exact ⟨by rw [zB_f (show ¬ bP 13 i n μ from fun z => absurd z.2.2.1 (Int32.not_le.mpr h13))], rfl⟩
        | exact ⟨by rw [zB_f (show ¬ bP 13 i n μ from fun z => absurd z.2.1 (Int32.not_le.mpr h5))], rfl⟩
        | exact ⟨by rw [zB_f (show ¬ bP 13 i n μ from fun z => absurd z.1 (Int32.not_le.mpr h1))], rfl⟩
    · refine zb S_hasPlaces_s8 rfl ?_
      refine z_cgt S_hasPlaces_d13 (tgt := 30) rfl (fun h13 => ?_) (fun h13 => ?_)
      · refine zb S_hasPlaces_s30 rfl ?_
        refine z_retZ S_hasPlaces_d31 rfl (by first | exact Or.inl rfl | exact Or.inr rfl) ?_
        first
          | exact ⟨by rw [zB_t (show bP 13 i n μ from And.intro (Int32.not_lt.mp h1) (And.intro (Int32.not_lt.mp h5) (And.intro (Int32.not_lt.mp h13) (Int32.not_lt.mp h23))))], rfl⟩
          | exact ⟨by rw [zB_f (show ¬ bP 13 i n μ from fun z => absurd z.2.2.2 (Int32.not_le.mpr h23))], rfl⟩
          | exact ⟨by rw [zB_f (show ¬ bP 13 i n μ from fun z => absurd z.2.2.1 (Int32.not_le.mpr h13))], rfl⟩
          | exact ⟨by rw [zB_f (show ¬ bP 13 i n μ from fun z => absurd z.2.1 (Int32.not_le.mpr h5))], rfl⟩
          | exact ⟨by rw [zB_f (show ¬ bP 13 i n μ from fun z => absurd z.1 (Int32.not_le.mpr h1))], rfl⟩
      · refine zb S_hasPlaces_s16 rfl ?_
        refine z_cgt S_hasPlaces_d23 (tgt := 30) rfl (fun h23 => ?_) (fun h23 => ?_)
        · refine zb S_hasPlaces_s30 rfl ?_
          refine z_retZ S_hasPlaces_d31 rfl (by first | exact Or.inl rfl | exact Or.inr rfl) ?_
          first
            | exact ⟨by rw [zB_t (show bP 13 i n μ from And.intro (Int32.not_lt.mp h1) (And.intro (Int32.not_lt.mp h5) (And.intro (Int32.not_lt.mp h13) (Int32.not_lt.mp h23))))], rfl⟩
            | exact ⟨by rw [zB_f (show ¬ bP 13 i n μ from fun z => absurd z.2.2.2 (Int32.not_le.mpr h23))], rfl⟩
            | exact ⟨by rw [zB_f (show ¬ bP 13 i n μ from fun z => absurd z.2.2.1 (Int32.not_le.mpr h13))], rfl⟩
            | exact ⟨by rw [zB_f (show ¬ bP 13 i n μ from fun z => absurd z.2.1 (Int32.not_le.mpr h5))], rfl⟩
            | exact ⟨by rw [zB_f (show ¬ bP 13 i n μ from fun z => absurd z.1 (Int32.not_le.mpr h1))], rfl⟩
        · refine zb S_hasPlaces_s26 rfl ?_
          refine z_retZ S_hasPlaces_d31 rfl (by first | exact Or.inl rfl | exact Or.inr rfl) ?_
          first
            | exact ⟨by rw [zB_t (show bP 13 i n μ from And.intro (Int32.not_lt.mp h1) (And.intro (Int32.not_lt.mp h5) (And.intro (Int32.not_lt.mp h13) (Int32.not_lt.mp h23))))], rfl⟩
            | exact ⟨by rw [zB_f (show ¬ bP 13 i n μ from fun z => absurd z.2.2.2 (Int32.not_le.mpr h23))], rfl⟩
            | exact ⟨by rw [zB_f (show ¬ bP 13 i n μ from fun z => absurd z.2.2.1 (Int32.not_le.mpr h13))], rfl⟩
            | exact ⟨by rw [zB_f (show ¬ bP 13 i n μ from fun z => absurd z.2.1 (Int32.not_le.mpr h5))], rfl⟩
            | exact ⟨by rw [zB_f (show ¬ bP 13 i n μ from fun z => absurd z.1 (Int32.not_le.mpr h1))], rfl⟩

set_option maxRecDepth 100000 in
set_option maxHeartbeats 4000000 in
theorem x_refAt_0 {g : zG} {d : Nat} {μ : zMem} (i : Int32) (hd : 1 ≤ d) : zM g d S_refusalAt [.ref 13, .int i] μ (fun r μ' => r = some (.int (if bE 13 μ then -11 else if ¬ bR 13 μ then -12 else if bP 13 i 1 μ then 0 else -13)) ∧ μ' = μ) := by
  refine zM_of (by decide +kernel) rfl rfl (Nat.le_of_ble_eq_true rfl) rfl ?_
  refine zb S_refusalAt_s0 rfl ?_
  refine zcallV S_refusalAt_d1 k8_29 (by omega) (x_isEmpty_0) rfl rfl rfl (Nat.le_of_ble_eq_true rfl) ?_
  rintro _ μx ⟨rfl, hx⟩
  rw [hx]
  clear hx μx
  refine z_eq S_refusalAt_d4 (tgt := 10) rfl (fun h4 => ?_) (fun h4 => ?_)
  · refine zb S_refusalAt_s10 rfl ?_
    refine zcallV S_refusalAt_d11 k8_22 (by omega) (x_isRow_0) rfl rfl rfl (Nat.le_of_ble_eq_true rfl) ?_
    rintro _ μx ⟨rfl, hx⟩
    rw [hx]
    clear hx μx
    refine z_ne S_refusalAt_d14 (tgt := 20) rfl (fun h14 => ?_) (fun h14 => ?_)
    · refine zb S_refusalAt_s20 rfl ?_
      refine zcallV S_refusalAt_d23 k8_36 (by omega) (x_hasPlaces_0 _ _) rfl rfl rfl (Nat.le_of_ble_eq_true rfl) ?_
      rintro _ μx ⟨rfl, hx⟩
      rw [hx]
      clear hx μx
      refine z_eq S_refusalAt_d26 (tgt := 33) rfl (fun h26 => ?_) (fun h26 => ?_)
      · refine zb S_refusalAt_s33 rfl ?_
        refine z_ret S_refusalAt_d35 rfl ?_
        refine ⟨congrArg (fun z => some (Value.int z)) ?_, rfl⟩
        first
          | rw [if_pos (zB_ne0.mp h4)]
          | rw [if_neg (zB_eq0.mp h4), if_pos (zB_eq0.mp h14)]
          | rw [if_neg (zB_eq0.mp h4), if_neg (fun z => z (zB_ne0.mp h14)), if_pos (zB_ne0.mp h26)]
          | rw [if_neg (zB_eq0.mp h4), if_neg (fun z => z (zB_ne0.mp h14)), if_neg (zB_eq0.mp h26)]
      · refine zb S_refusalAt_s29 rfl ?_
        refine z_ret S_refusalAt_d35 rfl ?_
        refine ⟨congrArg (fun z => some (Value.int z)) ?_, rfl⟩
        first
          | rw [if_pos (zB_ne0.mp h4)]
          | rw [if_neg (zB_eq0.mp h4), if_pos (zB_eq0.mp h14)]
          | rw [if_neg (zB_eq0.mp h4), if_neg (fun z => z (zB_ne0.mp h14)), if_pos (zB_ne0.mp h26)]
          | rw [if_neg (zB_eq0.mp h4), if_neg (fun z => z (zB_ne0.mp h14)), if_neg (zB_eq0.mp h26)]
    · refine zb S_refusalAt_s17 rfl ?_
      refine z_ret S_refusalAt_d19 rfl ?_
      refine ⟨congrArg (fun z => some (Value.int z)) ?_, rfl⟩
      first
        | rw [if_pos (zB_ne0.mp h4)]
        | rw [if_neg (zB_eq0.mp h4), if_pos (zB_eq0.mp h14)]
        | rw [if_neg (zB_eq0.mp h4), if_neg (fun z => z (zB_ne0.mp h14)), if_pos (zB_ne0.mp h26)]
        | rw [if_neg (zB_eq0.mp h4), if_neg (fun z => z (zB_ne0.mp h14)), if_neg (zB_eq0.mp h26)]
  · refine zb S_refusalAt_s7 rfl ?_
    refine z_ret S_refusalAt_d9 rfl ?_
    refine ⟨congrArg (fun z => some (Value.int z)) ?_, rfl⟩
    first
      | rw [if_pos (zB_ne0.mp h4)]
      | rw [if_neg (zB_eq0.mp h4), if_pos (zB_eq0.mp h14)]
      | rw [if_neg (zB_eq0.mp h4), if_neg (fun z => z (zB_ne0.mp h14)), if_pos (zB_ne0.mp h26)]
      | rw [if_neg (zB_eq0.mp h4), if_neg (fun z => z (zB_ne0.mp h14)), if_neg (zB_eq0.mp h26)]

set_option maxRecDepth 100000 in
set_option maxHeartbeats 4000000 in
theorem x_clear_0 {g : zG} {d : Nat} {μ : zMem} : zM g d S_clear [.ref 13] μ (fun r μ' => r = none ∧ μ' = clr 13 μ) := by
  refine zM_of (by decide +kernel) rfl rfl (Nat.le_of_ble_eq_true rfl) rfl ?_
  refine zb S_clear_s0 rfl ?_
  refine z_retV S_clear_d15 rfl ?_
  exact ⟨rfl, rfl⟩

set_option maxRecDepth 100000 in
set_option maxHeartbeats 4000000 in
theorem x_hold_0 {g : zG} {d : Nat} {μ : zMem} (b : Int32) (hd : 1 ≤ d) : zM g d S_hold [.ref 13, .int b] μ (fun r μ' => r = none ∧ μ' = zpI (clr 13 μ) 13 1 b) := by
  refine zM_of (by decide +kernel) rfl rfl (Nat.le_of_ble_eq_true rfl) rfl ?_
  refine zb S_hold_s0 rfl ?_
  refine zcallV S_hold_d1 k8_40 (by omega) (x_clear_0) rfl rfl rfl (Nat.le_of_ble_eq_true rfl) ?_
  rintro _ μx ⟨rfl, hx⟩
  rw [hx]
  clear hx μx
  refine zb S_hold_s4 rfl ?_
  refine z_retV S_hold_d9 rfl ?_
  exact ⟨rfl, rfl⟩

set_option maxRecDepth 100000 in
set_option maxHeartbeats 4000000 in
theorem w_fillL_0 {g : zG} {d : Nat} {x : Int64} {μ0 : zMem} : ∀ (j i : Nat) (μ : zMem), i + j = 60 → (μ.1 = μ0.1 ∧ μ.2.2 = μ0.2.2 ∧ (∀ c, ¬ c = 19 → μ.2.1 c = μ0.2.1 c) ∧ ∀ k, k < i → μ.2.1 19 k = x) → zW g J_fillAJ d 6 [some (.ref 19), some (.long x), none, some (.int (nI i)), some (.int 60)] [] μ (fun r μ' => r = none ∧ μ'.1 = μ0.1 ∧ μ'.2.2 = μ0.2.2 ∧ (∀ c, ¬ c = 19 → μ'.2.1 c = μ0.2.1 c) ∧ ∀ k, k < 60 → μ'.2.1 19 k = x) := by
  intro j
  induction j with
  | zero =>
    intro i  μ hi  hv0
    have hi : 60 = i := by omega
    subst hi
    refine zb J_fillAJ_s6 rfl ?_
    refine z_cge J_fillAJ_d9 (tgt := 22) rfl (fun h9 => ?_) (fun h9 => absurd (show 60 ≤ nI (60) by first | exact Int32.le_refl _ | (rw [hbd]; exact Int32.le_refl _)) h9)
    refine z_retV J_fillAJ_d22 rfl ?_
    exact ⟨rfl, hv0⟩
  | succ j ih =>
    intro i  μ hi  hv0
    have hilt : i < 60 := by omega
    have ei : (nI i).toNatClampNeg = i := nI_clamp (by omega)
    refine zb J_fillAJ_s6 rfl ?_
    refine z_cge J_fillAJ_d9 (tgt := 22) rfl (fun h9 => absurd h9 (show ¬ 60 ≤ nI i by first | exact nI_ge (b := 60) hilt (by omega) | (rw [hbd]; exact nI_ge hilt (by omega)))) (fun h9 => ?_)
    refine zb1 J_fillAJ_s12 rfl (vp_in_nI hilt (by omega)) ?_
    rw [nI_1, ei]
    refine ih (i + 1) _ (by omega) ⟨hv0.1, hv0.2.1, fun c hc => ?_, fun k hk => ?_⟩
    · rw [zpL_ne hc]
      exact hv0.2.2.1 c hc
    · rw [zpL_at]
      by_cases y : k = i
      · rw [if_pos y]
      · rw [if_neg y]
        exact hv0.2.2.2 k (by omega)

set_option maxRecDepth 100000 in
set_option maxHeartbeats 4000000 in
theorem x_fillL_0 {g : zG} {d : Nat} {μ : zMem} (x : Int64) : zM g d J_fillAJ [.ref 19, .long x] μ (fun r μ' => r = none ∧ μ'.1 = μ.1 ∧ μ'.2.2 = μ.2.2 ∧ (∀ c, ¬ c = 19 → μ'.2.1 c = μ.2.1 c) ∧ ∀ k, k < 60 → μ'.2.1 19 k = x) := by
  refine zM_of (by decide +kernel) rfl rfl (Nat.le_of_ble_eq_true rfl) rfl ?_
  refine zb J_fillAJ_s0 rfl ?_
  exact w_fillL_0 (μ0 := μ) 60 0 μ (by omega) ⟨rfl, rfl, fun _ _ => rfl, fun k hk => by omega⟩

set_option maxRecDepth 100000 in
set_option maxHeartbeats 4000000 in
theorem x_lay_0 {g : zG} {d : Nat} {μ : zMem} (p n : Int32) (hd : 1 ≤ d) : zM g d S_lay [.ref 13, .int p, .int n] μ (fun r μ' => r = none ∧ μ'.1 = (zpI (zpI (clr 13 μ) 13 2 p) 13 3 n).1 ∧ μ'.2.2 = μ.2.2 ∧ (∀ c, ¬ c = 19 → μ'.2.1 c = μ.2.1 c) ∧ ∀ k, k < 60 → μ'.2.1 19 k = 0) := by
  refine zM_of (by decide +kernel) rfl rfl (Nat.le_of_ble_eq_true rfl) rfl ?_
  refine zb S_lay_s0 rfl ?_
  refine zcallV S_lay_d1 k8_40 (by omega) (x_clear_0) rfl rfl rfl (Nat.le_of_ble_eq_true rfl) ?_
  rintro _ μx ⟨rfl, hx⟩
  rw [hx]
  clear hx μx
  refine zb S_lay_s4 rfl ?_
  refine zcallS S_lay_d19 k8_43 (by omega) (x_fillL_0 _) rfl rfl (Nat.le_of_ble_eq_true rfl) ?_
  rintro _ μ1 ⟨rfl, a1, a2, a3, a4⟩
  refine z_retV S_lay_d22 rfl ?_
  exact ⟨rfl, a1, a2, a3, a4⟩

set_option maxRecDepth 100000 in
set_option maxHeartbeats 4000000 in
theorem x_shelf_1 {g : zG} {d : Nat} {μ : zMem} (hd : 1 ≤ d) : zM g d X_shelfAt [.ref 1, .int (nI 1)] μ (fun r μ' => r = some (.ref 14) ∧ μ' = μ) := by
  refine zM_of (by decide +kernel) rfl rfl (Nat.le_of_ble_eq_true rfl) rfl ?_
  refine zb X_shelfAt_s0 rfl ?_
  refine zcallS X_shelfAt_d2 k10_170 (by omega) (x_isWithin _ _) rfl rfl (Nat.le_of_ble_eq_true rfl) ?_
  rintro _ μx ⟨rfl, hx⟩
  rw [hx]
  clear hx μx
  refine z_eq X_shelfAt_d5 (tgt := 17) rfl (fun h5 => absurd h5 (by decide)) (fun h5 => ?_)
  refine zb1 X_shelfAt_s8 rfl (vp_in_nI (n := 1) (by omega) (by omega)) ?_
  refine z_retA X_shelfAt_d18 rfl (by first | exact Or.inl ⟨_, rfl⟩ | exact Or.inr ⟨_, rfl⟩) ?_
  exact ⟨rfl, rfl⟩

set_option maxRecDepth 100000 in
set_option maxHeartbeats 4000000 in
theorem x_isEmpty_1 {g : zG} {d : Nat} {μ : zMem} : zM g d S_isEmpty [.ref 14] μ (fun r μ' => r = some (.int (zB (bE 14 μ))) ∧ μ' = μ) := by
  refine zM_of (by decide +kernel) rfl rfl (Nat.le_of_ble_eq_true rfl) rfl ?_
  refine zb S_isEmpty_s0 rfl ?_
  refine z_cne S_isEmpty_d5 (tgt := 20) rfl (fun h5 => ?_) (fun h5 => ?_)
  · refine zb S_isEmpty_s20 rfl ?_
    refine z_retZ S_isEmpty_d21 rfl (by first | exact Or.inl rfl | exact Or.inr rfl) ?_
    first
      | exact ⟨by rw [zB_t (show bE 14 μ from And.intro h5 h13)], rfl⟩
      | exact ⟨by rw [zB_f (show ¬ bE 14 μ from fun z => h5 z.1)], rfl⟩
      | exact ⟨by rw [zB_f (show ¬ bE 14 μ from fun z => h13 z.2)], rfl⟩
  · refine zb S_isEmpty_s8 rfl ?_
    refine z_cne S_isEmpty_d13 (tgt := 20) rfl (fun h13 => ?_) (fun h13 => ?_)
    · refine zb S_isEmpty_s20 rfl ?_
      refine z_retZ S_isEmpty_d21 rfl (by first | exact Or.inl rfl | exact Or.inr rfl) ?_
      first
        | exact ⟨by rw [zB_t (show bE 14 μ from And.intro h5 h13)], rfl⟩
        | exact ⟨by rw [zB_f (show ¬ bE 14 μ from fun z => h5 z.1)], rfl⟩
        | exact ⟨by rw [zB_f (show ¬ bE 14 μ from fun z => h13 z.2)], rfl⟩
    · refine zb S_isEmpty_s16 rfl ?_
      refine z_retZ S_isEmpty_d21 rfl (by first | exact Or.inl rfl | exact Or.inr rfl) ?_
      first
        | exact ⟨by rw [zB_t (show bE 14 μ from And.intro h5 h13)], rfl⟩
        | exact ⟨by rw [zB_f (show ¬ bE 14 μ from fun z => h5 z.1)], rfl⟩
        | exact ⟨by rw [zB_f (show ¬ bE 14 μ from fun z => h13 z.2)], rfl⟩

set_option maxRecDepth 100000 in
set_option maxHeartbeats 4000000 in
theorem x_isRow_1 {g : zG} {d : Nat} {μ : zMem} : zM g d S_isRow [.ref 14] μ (fun r μ' => r = some (.int (zB (bR 14 μ))) ∧ μ' = μ) := by
  refine zM_of (by decide +kernel) rfl rfl (Nat.le_of_ble_eq_true rfl) rfl ?_
  refine zb S_isRow_s0 rfl ?_
  refine z_ceq S_isRow_d5 (tgt := 12) rfl (fun h5 => ?_) (fun h5 => ?_)
  · refine zb S_isRow_s12 rfl ?_
    refine z_retZ S_isRow_d13 rfl (by first | exact Or.inl rfl | exact Or.inr rfl) ?_
    first
      | exact ⟨by rw [zB_t (show bR 14 μ from h5)], rfl⟩
      | exact ⟨by rw [zB_f (show ¬ bR 14 μ from fun z => z h5)], rfl⟩
  · refine zb S_isRow_s8 rfl ?_
    refine z_retZ S_isRow_d13 rfl (by first | exact Or.inl rfl | exact Or.inr rfl) ?_
    first
      | exact ⟨by rw [zB_t (show bR 14 μ from h5)], rfl⟩
      | exact ⟨by rw [zB_f (show ¬ bR 14 μ from fun z => z h5)], rfl⟩

set_option maxRecDepth 100000 in
set_option maxHeartbeats 4000000 in
theorem x_isRowOf_1 {g : zG} {d : Nat} {μ : zMem} (p : Int32) (hd : 1 ≤ d) : zM g d S_isRowOf [.ref 14, .int p] μ (fun r μ' => r = some (.int (zB (bR 14 μ ∧ μ.1 14 2 = p))) ∧ μ' = μ) := by
  refine zM_of (by decide +kernel) rfl rfl (Nat.le_of_ble_eq_true rfl) rfl ?_
  refine zb S_isRowOf_s0 rfl ?_
  refine zcallV S_isRowOf_d1 k8_22 (by omega) (x_isRow_1) rfl rfl rfl (Nat.le_of_ble_eq_true rfl) ?_
  rintro _ μx ⟨rfl, hx⟩
  rw [hx]
  clear hx μx
  refine z_eq S_isRowOf_d4 (tgt := 19) rfl (fun h4 => ?_) (fun h4 => ?_)
  · refine zb S_isRowOf_s19 rfl ?_
    refine z_retZ S_isRowOf_d20 rfl (by first | exact Or.inl rfl | exact Or.inr rfl) ?_
    first
      | exact ⟨by rw [zB_t (And.intro (zB_ne0.mp h4) h12)], rfl⟩
      | exact ⟨by rw [zB_f (fun z => h12 z.2)], rfl⟩
      | exact ⟨by rw [zB_f (fun z => (zB_eq0.mp h4) z.1)], rfl⟩
  · refine zb S_isRowOf_s7 rfl ?_
    refine z_cne S_isRowOf_d12 (tgt := 19) rfl (fun h12 => ?_) (fun h12 => ?_)
    · refine zb S_isRowOf_s19 rfl ?_
      refine z_retZ S_isRowOf_d20 rfl (by first | exact Or.inl rfl | exact Or.inr rfl) ?_
      first
        | exact ⟨by rw [zB_t (And.intro (zB_ne0.mp h4) h12)], rfl⟩
        | exact ⟨by rw [zB_f (fun z => h12 z.2)], rfl⟩
        | exact ⟨by rw [zB_f (fun z => (zB_eq0.mp h4) z.1)], rfl⟩
    · refine zb S_isRowOf_s15 rfl ?_
      refine z_retZ S_isRowOf_d20 rfl (by first | exact Or.inl rfl | exact Or.inr rfl) ?_
      first
        | exact ⟨by rw [zB_t (And.intro (zB_ne0.mp h4) h12)], rfl⟩
        | exact ⟨by rw [zB_f (fun z => h12 z.2)], rfl⟩
        | exact ⟨by rw [zB_f (fun z => (zB_eq0.mp h4) z.1)], rfl⟩

set_option maxRecDepth 100000 in
set_option maxHeartbeats 4000000 in
theorem x_hasPlaces_1 {g : zG} {d : Nat} {μ : zMem} (i n : Int32) : zM g d S_hasPlaces [.ref 14, .int i, .int n] μ (fun r μ' => r = some (.int (zB (bP 14 i n μ))) ∧ μ' = μ) := by
  refine zM_of (by decide +kernel) rfl rfl (Nat.le_of_ble_eq_true rfl) rfl ?_
  refine zb S_hasPlaces_s0 rfl ?_
  refine z_lt S_hasPlaces_d1 (tgt := 30) rfl (fun h1 => ?_) (fun h1 => ?_)
  · refine zb S_hasPlaces_s30 rfl ?_
    refine z_retZ S_hasPlaces_d31 rfl (by first | exact Or.inl rfl | exact Or.inr rfl) ?_
    first
      | exact ⟨by rw [zB_t (show bP 14 i n μ from And.intro (Int32.not_lt.mp h1) (And.intro (Int32.not_lt.mp h5) (And.intro (Int32.not_lt.mp h13) (Int32.not_lt.mp h23))))], rfl⟩
      | exact ⟨by rw [zB_f (show ¬ bP 14 i n μ from fun z => absurd z.2.2.2 (Int32.not_le.mpr h23))], rfl⟩
      | exact ⟨by rw [zB_f (show ¬ bP 14 i n μ from fun z => absurd z.2.2.1 (Int32.not_le.mpr h13))], rfl⟩
      | exact ⟨by rw [zB_f (show ¬ bP 14 i n μ from fun z => absurd z.2.1 (Int32.not_le.mpr h5))], rfl⟩
      | exact ⟨by rw [zB_f (show ¬ bP 14 i n μ from fun z => absurd z.1 (Int32.not_le.mpr h1))], rfl⟩
  · refine zb S_hasPlaces_s4 rfl ?_
    refine z_lt S_hasPlaces_d5 (tgt := 30) rfl (fun h5 => ?_) (fun h5 => ?_)
    · refine zb S_hasPlaces_s30 rfl ?_
      refine z_retZ S_hasPlaces_d31 rfl (by first | exact Or.inl rfl | exact Or.inr rfl) ?_
      first
        | exact ⟨by rw [zB_t (show bP 14 i n μ from And.intro (Int32.not_lt.mp h1) (And.intro (Int32.not_lt.mp h5) (And.intro (Int32.not_lt.mp h13) (Int32.not_lt.mp h23))))], rfl⟩
        | exact ⟨by rw [zB_f (show ¬ bP 14 i n μ from fun z => absurd z.2.2.2 (Int32.not_le.mpr h23))], rfl⟩
        | exact ⟨by rw [zB_f (show ¬ bP 14 i n μ from fun z => absurd z.2.2.1 (Int32.not_le.mpr h13))], rfl⟩
        | exact ⟨by rw [zB_f (show ¬ bP 14 i n μ from fun z => absurd z.2.1 (Int32.not_le.mpr h5))], rfl⟩
        | exact ⟨by rw [zB_f (show ¬ bP 14 i n μ from fun z => absurd z.1 (Int32.not_le.mpr h1))], rfl⟩
    · refine zb S_hasPlaces_s8 rfl ?_
      refine z_cgt S_hasPlaces_d13 (tgt := 30) rfl (fun h13 => ?_) (fun h13 => ?_)
      · refine zb S_hasPlaces_s30 rfl ?_
        refine z_retZ S_hasPlaces_d31 rfl (by first | exact Or.inl rfl | exact Or.inr rfl) ?_
        first
          | exact ⟨by rw [zB_t (show bP 14 i n μ from And.intro (Int32.not_lt.mp h1) (And.intro (Int32.not_lt.mp h5) (And.intro (Int32.not_lt.mp h13) (Int32.not_lt.mp h23))))], rfl⟩
          | exact ⟨by rw [zB_f (show ¬ bP 14 i n μ from fun z => absurd z.2.2.2 (Int32.not_le.mpr h23))], rfl⟩
          | exact ⟨by rw [zB_f (show ¬ bP 14 i n μ from fun z => absurd z.2.2.1 (Int32.not_le.mpr h13))], rfl⟩
          | exact ⟨by rw [zB_f (show ¬ bP 14 i n μ from fun z => absurd z.2.1 (Int32.not_le.mpr h5))], rfl⟩
          | exact ⟨by rw [zB_f (show ¬ bP 14 i n μ from fun z => absurd z.1 (Int32.not_le.mpr h1))], rfl⟩
      · refine zb S_hasPlaces_s16 rfl ?_
        refine z_cgt S_hasPlaces_d23 (tgt := 30) rfl (fun h23 => ?_) (fun h23 => ?_)
        · refine zb S_hasPlaces_s30 rfl ?_
          refine z_retZ S_hasPlaces_d31 rfl (by first | exact Or.inl rfl | exact Or.inr rfl) ?_
          first
            | exact ⟨by rw [zB_t (show bP 14 i n μ from And.intro (Int32.not_lt.mp h1) (And.intro (Int32.not_lt.mp h5) (And.intro (Int32.not_lt.mp h13) (Int32.not_lt.mp h23))))], rfl⟩
            | exact ⟨by rw [zB_f (show ¬ bP 14 i n μ from fun z => absurd z.2.2.2 (Int32.not_le.mpr h23))], rfl⟩
            | exact ⟨by rw [zB_f (show ¬ bP 14 i n μ from fun z => absurd z.2.2.1 (Int32.not_le.mpr h13))], rfl⟩
            | exact ⟨by rw [zB_f (show ¬ bP 14 i n μ from fun z => absurd z.2.1 (Int32.not_le.mpr h5))], rfl⟩
            | exact ⟨by rw [zB_f (show ¬ bP 14 i n μ from fun z => absurd z.1 (Int32.not_le.mpr h1))], rfl⟩
        · refine zb S_hasPlaces_s26 rfl ?_
          refine z_retZ S_hasPlaces_d31 rfl (by first | exact Or.inl rfl | exact Or.inr rfl) ?_
          first
            | exact ⟨by rw [zB_t (show bP 14 i n μ from And.intro (Int32.not_lt.mp h1) (And.intro (Int32.not_lt.mp h5) (And.intro (Int32.not_lt.mp h13) (Int32.not_lt.mp h23))))], rfl⟩
            | exact ⟨by rw [zB_f (show ¬ bP 14 i n μ from fun z => absurd z.2.2.2 (Int32.not_le.mpr h23))], rfl⟩
            | exact ⟨by rw [zB_f (show ¬ bP 14 i n μ from fun z => absurd z.2.2.1 (Int32.not_le.mpr h13))], rfl⟩
            | exact ⟨by rw [zB_f (show ¬ bP 14 i n μ from fun z => absurd z.2.1 (Int32.not_le.mpr h5))], rfl⟩
            | exact ⟨by rw [zB_f (show ¬ bP 14 i n μ from fun z => absurd z.1 (Int32.not_le.mpr h1))], rfl⟩

set_option maxRecDepth 100000 in
set_option maxHeartbeats 4000000 in
theorem x_refAt_1 {g : zG} {d : Nat} {μ : zMem} (i : Int32) (hd : 1 ≤ d) : zM g d S_refusalAt [.ref 14, .int i] μ (fun r μ' => r = some (.int (if bE 14 μ then -11 else if ¬ bR 14 μ then -12 else if bP 14 i 1 μ then 0 else -13)) ∧ μ' = μ) := by
  refine zM_of (by decide +kernel) rfl rfl (Nat.le_of_ble_eq_true rfl) rfl ?_
  refine zb S_refusalAt_s0 rfl ?_
  refine zcallV S_refusalAt_d1 k8_29 (by omega) (x_isEmpty_1) rfl rfl rfl (Nat.le_of_ble_eq_true rfl) ?_
  rintro _ μx ⟨rfl, hx⟩
  rw [hx]
  clear hx μx
  refine z_eq S_refusalAt_d4 (tgt := 10) rfl (fun h4 => ?_) (fun h4 => ?_)
  · refine zb S_refusalAt_s10 rfl ?_
    refine zcallV S_refusalAt_d11 k8_22 (by omega) (x_isRow_1) rfl rfl rfl (Nat.le_of_ble_eq_true rfl) ?_
    rintro _ μx ⟨rfl, hx⟩
    rw [hx]
    clear hx μx
    refine z_ne S_refusalAt_d14 (tgt := 20) rfl (fun h14 => ?_) (fun h14 => ?_)
    · refine zb S_refusalAt_s20 rfl ?_
      refine zcallV S_refusalAt_d23 k8_36 (by omega) (x_hasPlaces_1 _ _) rfl rfl rfl (Nat.le_of_ble_eq_true rfl) ?_
      rintro _ μx ⟨rfl, hx⟩
      rw [hx]
      clear hx μx
      refine z_eq S_refusalAt_d26 (tgt := 33) rfl (fun h26 => ?_) (fun h26 => ?_)
      · refine zb S_refusalAt_s33 rfl ?_
        refine z_ret S_refusalAt_d35 rfl ?_
        refine ⟨congrArg (fun z => some (Value.int z)) ?_, rfl⟩
        first
          | rw [if_pos (zB_ne0.mp h4)]
          | rw [if_neg (zB_eq0.mp h4), if_pos (zB_eq0.mp h14)]
          | rw [if_neg (zB_eq0.mp h4), if_neg (fun z => z (zB_ne0.mp h14)), if_pos (zB_ne0.mp h26)]
          | rw [if_neg (zB_eq0.mp h4), if_neg (fun z => z (zB_ne0.mp h14)), if_neg (zB_eq0.mp h26)]
      · refine zb S_refusalAt_s29 rfl ?_
        refine z_ret S_refusalAt_d35 rfl ?_
        refine ⟨congrArg (fun z => some (Value.int z)) ?_, rfl⟩
        first
          | rw [if_pos (zB_ne0.mp h4)]
          | rw [if_neg (zB_eq0.mp h4), if_pos (zB_eq0.mp h14)]
          | rw [if_neg (zB_eq0.mp h4), if_neg (fun z => z (zB_ne0.mp h14)), if_pos (zB_ne0.mp h26)]
          | rw [if_neg (zB_eq0.mp h4), if_neg (fun z => z (zB_ne0.mp h14)), if_neg (zB_eq0.mp h26)]
    · refine zb S_refusalAt_s17 rfl ?_
      refine z_ret S_refusalAt_d19 rfl ?_
      refine ⟨congrArg (fun z => some (Value.int z)) ?_, rfl⟩
      first
        | rw [if_pos (zB_ne0.mp h4)]
        | rw [if_neg (zB_eq0.mp h4), if_pos (zB_eq0.mp h14)]
        | rw [if_neg (zB_eq0.mp h4), if_neg (fun z => z (zB_ne0.mp h14)), if_pos (zB_ne0.mp h26)]
        | rw [if_neg (zB_eq0.mp h4), if_neg (fun z => z (zB_ne0.mp h14)), if_neg (zB_eq0.mp h26)]
  · refine zb S_refusalAt_s7 rfl ?_
    refine z_ret S_refusalAt_d9 rfl ?_
    refine ⟨congrArg (fun z => some (Value.int z)) ?_, rfl⟩
    first
      | rw [if_pos (zB_ne0.mp h4)]
      | rw [if_neg (zB_eq0.mp h4), if_pos (zB_eq0.mp h14)]
      | rw [if_neg (zB_eq0.mp h4), if_neg (fun z => z (zB_ne0.mp h14)), if_pos (zB_ne0.mp h26)]
      | rw [if_neg (zB_eq0.mp h4), if_neg (fun z => z (zB_ne0.mp h14)), if_neg (zB_eq0.mp h26)]

set_option maxRecDepth 100000 in
set_option maxHeartbeats 4000000 in
theorem x_clear_1 {g : zG} {d : Nat} {μ : zMem} : zM g d S_clear [.ref 14] μ (fun r μ' => r = none ∧ μ' = clr 14 μ) := by
  refine zM_of (by decide +kernel) rfl rfl (Nat.le_of_ble_eq_true rfl) rfl ?_
  refine zb S_clear_s0 rfl ?_
  refine z_retV S_clear_d15 rfl ?_
  exact ⟨rfl, rfl⟩

set_option maxRecDepth 100000 in
set_option maxHeartbeats 4000000 in
theorem x_hold_1 {g : zG} {d : Nat} {μ : zMem} (b : Int32) (hd : 1 ≤ d) : zM g d S_hold [.ref 14, .int b] μ (fun r μ' => r = none ∧ μ' = zpI (clr 14 μ) 14 1 b) := by
  refine zM_of (by decide +kernel) rfl rfl (Nat.le_of_ble_eq_true rfl) rfl ?_
  refine zb S_hold_s0 rfl ?_
  refine zcallV S_hold_d1 k8_40 (by omega) (x_clear_1) rfl rfl rfl (Nat.le_of_ble_eq_true rfl) ?_
  rintro _ μx ⟨rfl, hx⟩
  rw [hx]
  clear hx μx
  refine zb S_hold_s4 rfl ?_
  refine z_retV S_hold_d9 rfl ?_
  exact ⟨rfl, rfl⟩

set_option maxRecDepth 100000 in
set_option maxHeartbeats 4000000 in
theorem w_fillL_1 {g : zG} {d : Nat} {x : Int64} {μ0 : zMem} : ∀ (j i : Nat) (μ : zMem), i + j = 60 → (μ.1 = μ0.1 ∧ μ.2.2 = μ0.2.2 ∧ (∀ c, ¬ c = 20 → μ.2.1 c = μ0.2.1 c) ∧ ∀ k, k < i → μ.2.1 20 k = x) → zW g J_fillAJ d 6 [some (.ref 20), some (.long x), none, some (.int (nI i)), some (.int 60)] [] μ (fun r μ' => r = none ∧ μ'.1 = μ0.1 ∧ μ'.2.2 = μ0.2.2 ∧ (∀ c, ¬ c = 20 → μ'.2.1 c = μ0.2.1 c) ∧ ∀ k, k < 60 → μ'.2.1 20 k = x) := by
  intro j
  induction j with
  | zero =>
    intro i  μ hi  hv0
    have hi : 60 = i := by omega
    subst hi
    refine zb J_fillAJ_s6 rfl ?_
    refine z_cge J_fillAJ_d9 (tgt := 22) rfl (fun h9 => ?_) (fun h9 => absurd (show 60 ≤ nI (60) by first | exact Int32.le_refl _ | (rw [hbd]; exact Int32.le_refl _)) h9)
    refine z_retV J_fillAJ_d22 rfl ?_
    exact ⟨rfl, hv0⟩
  | succ j ih =>
    intro i  μ hi  hv0
    have hilt : i < 60 := by omega
    have ei : (nI i).toNatClampNeg = i := nI_clamp (by omega)
    refine zb J_fillAJ_s6 rfl ?_
    refine z_cge J_fillAJ_d9 (tgt := 22) rfl (fun h9 => absurd h9 (show ¬ 60 ≤ nI i by first | exact nI_ge (b := 60) hilt (by omega) | (rw [hbd]; exact nI_ge hilt (by omega)))) (fun h9 => ?_)
    refine zb1 J_fillAJ_s12 rfl (vp_in_nI hilt (by omega)) ?_
    rw [nI_1, ei]
    refine ih (i + 1) _ (by omega) ⟨hv0.1, hv0.2.1, fun c hc => ?_, fun k hk => ?_⟩
    · rw [zpL_ne hc]
      exact hv0.2.2.1 c hc
    · rw [zpL_at]
      by_cases y : k = i
      · rw [if_pos y]
      · rw [if_neg y]
        exact hv0.2.2.2 k (by omega)

set_option maxRecDepth 100000 in
set_option maxHeartbeats 4000000 in
theorem x_fillL_1 {g : zG} {d : Nat} {μ : zMem} (x : Int64) : zM g d J_fillAJ [.ref 20, .long x] μ (fun r μ' => r = none ∧ μ'.1 = μ.1 ∧ μ'.2.2 = μ.2.2 ∧ (∀ c, ¬ c = 20 → μ'.2.1 c = μ.2.1 c) ∧ ∀ k, k < 60 → μ'.2.1 20 k = x) := by
  refine zM_of (by decide +kernel) rfl rfl (Nat.le_of_ble_eq_true rfl) rfl ?_
  refine zb J_fillAJ_s0 rfl ?_
  exact w_fillL_1 (μ0 := μ) 60 0 μ (by omega) ⟨rfl, rfl, fun _ _ => rfl, fun k hk => by omega⟩

set_option maxRecDepth 100000 in
set_option maxHeartbeats 4000000 in
theorem x_lay_1 {g : zG} {d : Nat} {μ : zMem} (p n : Int32) (hd : 1 ≤ d) : zM g d S_lay [.ref 14, .int p, .int n] μ (fun r μ' => r = none ∧ μ'.1 = (zpI (zpI (clr 14 μ) 14 2 p) 14 3 n).1 ∧ μ'.2.2 = μ.2.2 ∧ (∀ c, ¬ c = 20 → μ'.2.1 c = μ.2.1 c) ∧ ∀ k, k < 60 → μ'.2.1 20 k = 0) := by
  refine zM_of (by decide +kernel) rfl rfl (Nat.le_of_ble_eq_true rfl) rfl ?_
  refine zb S_lay_s0 rfl ?_
  refine zcallV S_lay_d1 k8_40 (by omega) (x_clear_1) rfl rfl rfl (Nat.le_of_ble_eq_true rfl) ?_
  rintro _ μx ⟨rfl, hx⟩
  rw [hx]
  clear hx μx
  refine zb S_lay_s4 rfl ?_
  refine zcallS S_lay_d19 k8_43 (by omega) (x_fillL_1 _) rfl rfl (Nat.le_of_ble_eq_true rfl) ?_
  rintro _ μ1 ⟨rfl, a1, a2, a3, a4⟩
  refine z_retV S_lay_d22 rfl ?_
  exact ⟨rfl, a1, a2, a3, a4⟩

set_option maxRecDepth 100000 in
set_option maxHeartbeats 4000000 in
theorem x_shelf_2 {g : zG} {d : Nat} {μ : zMem} (hd : 1 ≤ d) : zM g d X_shelfAt [.ref 1, .int (nI 2)] μ (fun r μ' => r = some (.ref 15) ∧ μ' = μ) := by
  refine zM_of (by decide +kernel) rfl rfl (Nat.le_of_ble_eq_true rfl) rfl ?_
  refine zb X_shelfAt_s0 rfl ?_
  refine zcallS X_shelfAt_d2 k10_170 (by omega) (x_isWithin _ _) rfl rfl (Nat.le_of_ble_eq_true rfl) ?_
  rintro _ μx ⟨rfl, hx⟩
  rw [hx]
  clear hx μx
  refine z_eq X_shelfAt_d5 (tgt := 17) rfl (fun h5 => absurd h5 (by decide)) (fun h5 => ?_)
  refine zb1 X_shelfAt_s8 rfl (vp_in_nI (n := 2) (by omega) (by omega)) ?_
  refine z_retA X_shelfAt_d18 rfl (by first | exact Or.inl ⟨_, rfl⟩ | exact Or.inr ⟨_, rfl⟩) ?_
  exact ⟨rfl, rfl⟩

set_option maxRecDepth 100000 in
set_option maxHeartbeats 4000000 in
theorem x_isEmpty_2 {g : zG} {d : Nat} {μ : zMem} : zM g d S_isEmpty [.ref 15] μ (fun r μ' => r = some (.int (zB (bE 15 μ))) ∧ μ' = μ) := by
  refine zM_of (by decide +kernel) rfl rfl (Nat.le_of_ble_eq_true rfl) rfl ?_
  refine zb S_isEmpty_s0 rfl ?_
  refine z_cne S_isEmpty_d5 (tgt := 20) rfl (fun h5 => ?_) (fun h5 => ?_)
  · refine zb S_isEmpty_s20 rfl ?_
    refine z_retZ S_isEmpty_d21 rfl (by first | exact Or.inl rfl | exact Or.inr rfl) ?_
    first
      | exact ⟨by rw [zB_t (show bE 15 μ from And.intro h5 h13)], rfl⟩
      | exact ⟨by rw [zB_f (show ¬ bE 15 μ from fun z => h5 z.1)], rfl⟩
      | exact ⟨by rw [zB_f (show ¬ bE 15 μ from fun z => h13 z.2)], rfl⟩
  · refine zb S_isEmpty_s8 rfl ?_
    refine z_cne S_isEmpty_d13 (tgt := 20) rfl (fun h13 => ?_) (fun h13 => ?_)
    · refine zb S_isEmpty_s20 rfl ?_
      refine z_retZ S_isEmpty_d21 rfl (by first | exact Or.inl rfl | exact Or.inr rfl) ?_
      first
        | exact ⟨by rw [zB_t (show bE 15 μ from And.intro h5 h13)], rfl⟩
        | exact ⟨by rw [zB_f (show ¬ bE 15 μ from fun z => h5 z.1)], rfl⟩
        | exact ⟨by rw [zB_f (show ¬ bE 15 μ from fun z => h13 z.2)], rfl⟩
    · refine zb S_isEmpty_s16 rfl ?_
      refine z_retZ S_isEmpty_d21 rfl (by first | exact Or.inl rfl | exact Or.inr rfl) ?_
      first
        | exact ⟨by rw [zB_t (show bE 15 μ from And.intro h5 h13)], rfl⟩
        | exact ⟨by rw [zB_f (show ¬ bE 15 μ from fun z => h5 z.1)], rfl⟩
        | exact ⟨by rw [zB_f (show ¬ bE 15 μ from fun z => h13 z.2)], rfl⟩

set_option maxRecDepth 100000 in
set_option maxHeartbeats 4000000 in
theorem x_isRow_2 {g : zG} {d : Nat} {μ : zMem} : zM g d S_isRow [.ref 15] μ (fun r μ' => r = some (.int (zB (bR 15 μ))) ∧ μ' = μ) := by
  refine zM_of (by decide +kernel) rfl rfl (Nat.le_of_ble_eq_true rfl) rfl ?_
  refine zb S_isRow_s0 rfl ?_
  refine z_ceq S_isRow_d5 (tgt := 12) rfl (fun h5 => ?_) (fun h5 => ?_)
  · refine zb S_isRow_s12 rfl ?_
    refine z_retZ S_isRow_d13 rfl (by first | exact Or.inl rfl | exact Or.inr rfl) ?_
    first
      | exact ⟨by rw [zB_t (show bR 15 μ from h5)], rfl⟩
      | exact ⟨by rw [zB_f (show ¬ bR 15 μ from fun z => z h5)], rfl⟩
  · refine zb S_isRow_s8 rfl ?_
    refine z_retZ S_isRow_d13 rfl (by first | exact Or.inl rfl | exact Or.inr rfl) ?_
    first
      | exact ⟨by rw [zB_t (show bR 15 μ from h5)], rfl⟩
      | exact ⟨by rw [zB_f (show ¬ bR 15 μ from fun z => z h5)], rfl⟩

set_option maxRecDepth 100000 in
set_option maxHeartbeats 4000000 in
theorem x_isRowOf_2 {g : zG} {d : Nat} {μ : zMem} (p : Int32) (hd : 1 ≤ d) : zM g d S_isRowOf [.ref 15, .int p] μ (fun r μ' => r = some (.int (zB (bR 15 μ ∧ μ.1 15 2 = p))) ∧ μ' = μ) := by
  refine zM_of (by decide +kernel) rfl rfl (Nat.le_of_ble_eq_true rfl) rfl ?_
  refine zb S_isRowOf_s0 rfl ?_
  refine zcallV S_isRowOf_d1 k8_22 (by omega) (x_isRow_2) rfl rfl rfl (Nat.le_of_ble_eq_true rfl) ?_
  rintro _ μx ⟨rfl, hx⟩
  rw [hx]
  clear hx μx
  refine z_eq S_isRowOf_d4 (tgt := 19) rfl (fun h4 => ?_) (fun h4 => ?_)
  · refine zb S_isRowOf_s19 rfl ?_
    refine z_retZ S_isRowOf_d20 rfl (by first | exact Or.inl rfl | exact Or.inr rfl) ?_
    first
      | exact ⟨by rw [zB_t (And.intro (zB_ne0.mp h4) h12)], rfl⟩
      | exact ⟨by rw [zB_f (fun z => h12 z.2)], rfl⟩
      | exact ⟨by rw [zB_f (fun z => (zB_eq0.mp h4) z.1)], rfl⟩
  · refine zb S_isRowOf_s7 rfl ?_
    refine z_cne S_isRowOf_d12 (tgt := 19) rfl (fun h12 => ?_) (fun h12 => ?_)
    · refine zb S_isRowOf_s19 rfl ?_
      refine z_retZ S_isRowOf_d20 rfl (by first | exact Or.inl rfl | exact Or.inr rfl) ?_
      first
        | exact ⟨by rw [zB_t (And.intro (zB_ne0.mp h4) h12)], rfl⟩
        | exact ⟨by rw [zB_f (fun z => h12 z.2)], rfl⟩
        | exact ⟨by rw [zB_f (fun z => (zB_eq0.mp h4) z.1)], rfl⟩
    · refine zb S_isRowOf_s15 rfl ?_
      refine z_retZ S_isRowOf_d20 rfl (by first | exact Or.inl rfl | exact Or.inr rfl) ?_
      first
        | exact ⟨by rw [zB_t (And.intro (zB_ne0.mp h4) h12)], rfl⟩
        | exact ⟨by rw [zB_f (fun z => h12 z.2)], rfl⟩
        | exact ⟨by rw [zB_f (fun z => (zB_eq0.mp h4) z.1)], rfl⟩

set_option maxRecDepth 100000 in
set_option maxHeartbeats 4000000 in
theorem x_hasPlaces_2 {g : zG} {d : Nat} {μ : zMem} (i n : Int32) : zM g d S_hasPlaces [.ref 15, .int i, .int n] μ (fun r μ' => r = some (.int (zB (bP 15 i n μ))) ∧ μ' = μ) := by
  refine zM_of (by decide +kernel) rfl rfl (Nat.le_of_ble_eq_true rfl) rfl ?_
  refine zb S_hasPlaces_s0 rfl ?_
  refine z_lt S_hasPlaces_d1 (tgt := 30) rfl (fun h1 => ?_) (fun h1 => ?_)
  · refine zb S_hasPlaces_s30 rfl ?_
    refine z_retZ S_hasPlaces_d31 rfl (by first | exact Or.inl rfl | exact Or.inr rfl) ?_
    first
      | exact ⟨by rw [zB_t (show bP 15 i n μ from And.intro (Int32.not_lt.mp h1) (And.intro (Int32.not_lt.mp h5) (And.intro (Int32.not_lt.mp h13) (Int32.not_lt.mp h23))))], rfl⟩
      | exact ⟨by rw [zB_f (show ¬ bP 15 i n μ from fun z => absurd z.2.2.2 (Int32.not_le.mpr h23))], rfl⟩
      | exact ⟨by rw [zB_f (show ¬ bP 15 i n μ from fun z => absurd z.2.2.1 (Int32.not_le.mpr h13))], rfl⟩
      | exact ⟨by rw [zB_f (show ¬ bP 15 i n μ from fun z => absurd z.2.1 (Int32.not_le.mpr h5))], rfl⟩
      | exact ⟨by rw [zB_f (show ¬ bP 15 i n μ from fun z => absurd z.1 (Int32.not_le.mpr h1))], rfl⟩
  · refine zb S_hasPlaces_s4 rfl ?_
    refine z_lt S_hasPlaces_d5 (tgt := 30) rfl (fun h5 => ?_) (fun h5 => ?_)
    · refine zb S_hasPlaces_s30 rfl ?_
      refine z_retZ S_hasPlaces_d31 rfl (by first | exact Or.inl rfl | exact Or.inr rfl) ?_
      first
        | exact ⟨by rw [zB_t (show bP 15 i n μ from And.intro (Int32.not_lt.mp h1) (And.intro (Int32.not_lt.mp h5) (And.intro (Int32.not_lt.mp h13) (Int32.not_lt.mp h23))))], rfl⟩
        | exact ⟨by rw [zB_f (show ¬ bP 15 i n μ from fun z => absurd z.2.2.2 (Int32.not_le.mpr h23))], rfl⟩
        | exact ⟨by rw [zB_f (show ¬ bP 15 i n μ from fun z => absurd z.2.2.1 (Int32.not_le.mpr h13))], rfl⟩
        | exact ⟨by rw [zB_f (show ¬ bP 15 i n μ from fun z => absurd z.2.1 (Int32.not_le.mpr h5))], rfl⟩
        | exact ⟨by rw [zB_f (show ¬ bP 15 i n μ from fun z => absurd z.1 (Int32.not_le.mpr h1))], rfl⟩
    · refine zb S_hasPlaces_s8 rfl ?_
      refine z_cgt S_hasPlaces_d13 (tgt := 30) rfl (fun h13 => ?_) (fun h13 => ?_)
      · refine zb S_hasPlaces_s30 rfl ?_
        refine z_retZ S_hasPlaces_d31 rfl (by first | exact Or.inl rfl | exact Or.inr rfl) ?_
        first
          | exact ⟨by rw [zB_t (show bP 15 i n μ from And.intro (Int32.not_lt.mp h1) (And.intro (Int32.not_lt.mp h5) (And.intro (Int32.not_lt.mp h13) (Int32.not_lt.mp h23))))], rfl⟩
          | exact ⟨by rw [zB_f (show ¬ bP 15 i n μ from fun z => absurd z.2.2.2 (Int32.not_le.mpr h23))], rfl⟩
          | exact ⟨by rw [zB_f (show ¬ bP 15 i n μ from fun z => absurd z.2.2.1 (Int32.not_le.mpr h13))], rfl⟩
          | exact ⟨by rw [zB_f (show ¬ bP 15 i n μ from fun z => absurd z.2.1 (Int32.not_le.mpr h5))], rfl⟩
          | exact ⟨by rw [zB_f (show ¬ bP 15 i n μ from fun z => absurd z.1 (Int32.not_le.mpr h1))], rfl⟩
      · refine zb S_hasPlaces_s16 rfl ?_
        refine z_cgt S_hasPlaces_d23 (tgt := 30) rfl (fun h23 => ?_) (fun h23 => ?_)
        · refine zb S_hasPlaces_s30 rfl ?_
          refine z_retZ S_hasPlaces_d31 rfl (by first | exact Or.inl rfl | exact Or.inr rfl) ?_
          first
            | exact ⟨by rw [zB_t (show bP 15 i n μ from And.intro (Int32.not_lt.mp h1) (And.intro (Int32.not_lt.mp h5) (And.intro (Int32.not_lt.mp h13) (Int32.not_lt.mp h23))))], rfl⟩
            | exact ⟨by rw [zB_f (show ¬ bP 15 i n μ from fun z => absurd z.2.2.2 (Int32.not_le.mpr h23))], rfl⟩
            | exact ⟨by rw [zB_f (show ¬ bP 15 i n μ from fun z => absurd z.2.2.1 (Int32.not_le.mpr h13))], rfl⟩
            | exact ⟨by rw [zB_f (show ¬ bP 15 i n μ from fun z => absurd z.2.1 (Int32.not_le.mpr h5))], rfl⟩
            | exact ⟨by rw [zB_f (show ¬ bP 15 i n μ from fun z => absurd z.1 (Int32.not_le.mpr h1))], rfl⟩
        · refine zb S_hasPlaces_s26 rfl ?_
          refine z_retZ S_hasPlaces_d31 rfl (by first | exact Or.inl rfl | exact Or.inr rfl) ?_
          first
            | exact ⟨by rw [zB_t (show bP 15 i n μ from And.intro (Int32.not_lt.mp h1) (And.intro (Int32.not_lt.mp h5) (And.intro (Int32.not_lt.mp h13) (Int32.not_lt.mp h23))))], rfl⟩
            | exact ⟨by rw [zB_f (show ¬ bP 15 i n μ from fun z => absurd z.2.2.2 (Int32.not_le.mpr h23))], rfl⟩
            | exact ⟨by rw [zB_f (show ¬ bP 15 i n μ from fun z => absurd z.2.2.1 (Int32.not_le.mpr h13))], rfl⟩
            | exact ⟨by rw [zB_f (show ¬ bP 15 i n μ from fun z => absurd z.2.1 (Int32.not_le.mpr h5))], rfl⟩
            | exact ⟨by rw [zB_f (show ¬ bP 15 i n μ from fun z => absurd z.1 (Int32.not_le.mpr h1))], rfl⟩

set_option maxRecDepth 100000 in
set_option maxHeartbeats 4000000 in
theorem x_refAt_2 {g : zG} {d : Nat} {μ : zMem} (i : Int32) (hd : 1 ≤ d) : zM g d S_refusalAt [.ref 15, .int i] μ (fun r μ' => r = some (.int (if bE 15 μ then -11 else if ¬ bR 15 μ then -12 else if bP 15 i 1 μ then 0 else -13)) ∧ μ' = μ) := by
  refine zM_of (by decide +kernel) rfl rfl (Nat.le_of_ble_eq_true rfl) rfl ?_
  refine zb S_refusalAt_s0 rfl ?_
  refine zcallV S_refusalAt_d1 k8_29 (by omega) (x_isEmpty_2) rfl rfl rfl (Nat.le_of_ble_eq_true rfl) ?_
  rintro _ μx ⟨rfl, hx⟩
  rw [hx]
  clear hx μx
  refine z_eq S_refusalAt_d4 (tgt := 10) rfl (fun h4 => ?_) (fun h4 => ?_)
  · refine zb S_refusalAt_s10 rfl ?_
    refine zcallV S_refusalAt_d11 k8_22 (by omega) (x_isRow_2) rfl rfl rfl (Nat.le_of_ble_eq_true rfl) ?_
    rintro _ μx ⟨rfl, hx⟩
    rw [hx]
    clear hx μx
    refine z_ne S_refusalAt_d14 (tgt := 20) rfl (fun h14 => ?_) (fun h14 => ?_)
    · refine zb S_refusalAt_s20 rfl ?_
      refine zcallV S_refusalAt_d23 k8_36 (by omega) (x_hasPlaces_2 _ _) rfl rfl rfl (Nat.le_of_ble_eq_true rfl) ?_
      rintro _ μx ⟨rfl, hx⟩
      rw [hx]
      clear hx μx
      refine z_eq S_refusalAt_d26 (tgt := 33) rfl (fun h26 => ?_) (fun h26 => ?_)
      · refine zb S_refusalAt_s33 rfl ?_
        refine z_ret S_refusalAt_d35 rfl ?_
        refine ⟨congrArg (fun z => some (Value.int z)) ?_, rfl⟩
        first
          | rw [if_pos (zB_ne0.mp h4)]
          | rw [if_neg (zB_eq0.mp h4), if_pos (zB_eq0.mp h14)]
          | rw [if_neg (zB_eq0.mp h4), if_neg (fun z => z (zB_ne0.mp h14)), if_pos (zB_ne0.mp h26)]
          | rw [if_neg (zB_eq0.mp h4), if_neg (fun z => z (zB_ne0.mp h14)), if_neg (zB_eq0.mp h26)]
      · refine zb S_refusalAt_s29 rfl ?_
        refine z_ret S_refusalAt_d35 rfl ?_
        refine ⟨congrArg (fun z => some (Value.int z)) ?_, rfl⟩
        first
          | rw [if_pos (zB_ne0.mp h4)]
          | rw [if_neg (zB_eq0.mp h4), if_pos (zB_eq0.mp h14)]
          | rw [if_neg (zB_eq0.mp h4), if_neg (fun z => z (zB_ne0.mp h14)), if_pos (zB_ne0.mp h26)]
          | rw [if_neg (zB_eq0.mp h4), if_neg (fun z => z (zB_ne0.mp h14)), if_neg (zB_eq0.mp h26)]
    · refine zb S_refusalAt_s17 rfl ?_
      refine z_ret S_refusalAt_d19 rfl ?_
      refine ⟨congrArg (fun z => some (Value.int z)) ?_, rfl⟩
      first
        | rw [if_pos (zB_ne0.mp h4)]
        | rw [if_neg (zB_eq0.mp h4), if_pos (zB_eq0.mp h14)]
        | rw [if_neg (zB_eq0.mp h4), if_neg (fun z => z (zB_ne0.mp h14)), if_pos (zB_ne0.mp h26)]
        | rw [if_neg (zB_eq0.mp h4), if_neg (fun z => z (zB_ne0.mp h14)), if_neg (zB_eq0.mp h26)]
  · refine zb S_refusalAt_s7 rfl ?_
    refine z_ret S_refusalAt_d9 rfl ?_
    refine ⟨congrArg (fun z => some (Value.int z)) ?_, rfl⟩
    first
      | rw [if_pos (zB_ne0.mp h4)]
      | rw [if_neg (zB_eq0.mp h4), if_pos (zB_eq0.mp h14)]
      | rw [if_neg (zB_eq0.mp h4), if_neg (fun z => z (zB_ne0.mp h14)), if_pos (zB_ne0.mp h26)]
      | rw [if_neg (zB_eq0.mp h4), if_neg (fun z => z (zB_ne0.mp h14)), if_neg (zB_eq0.mp h26)]

set_option maxRecDepth 100000 in
set_option maxHeartbeats 4000000 in
theorem x_clear_2 {g : zG} {d : Nat} {μ : zMem} : zM g d S_clear [.ref 15] μ (fun r μ' => r = none ∧ μ' = clr 15 μ) := by
  refine zM_of (by decide +kernel) rfl rfl (Nat.le_of_ble_eq_true rfl) rfl ?_
  refine zb S_clear_s0 rfl ?_
  refine z_retV S_clear_d15 rfl ?_
  exact ⟨rfl, rfl⟩

set_option maxRecDepth 100000 in
set_option maxHeartbeats 4000000 in
theorem x_hold_2 {g : zG} {d : Nat} {μ : zMem} (b : Int32) (hd : 1 ≤ d) : zM g d S_hold [.ref 15, .int b] μ (fun r μ' => r = none ∧ μ' = zpI (clr 15 μ) 15 1 b) := by
  refine zM_of (by decide +kernel) rfl rfl (Nat.le_of_ble_eq_true rfl) rfl ?_
  refine zb S_hold_s0 rfl ?_
  refine zcallV S_hold_d1 k8_40 (by omega) (x_clear_2) rfl rfl rfl (Nat.le_of_ble_eq_true rfl) ?_
  rintro _ μx ⟨rfl, hx⟩
  rw [hx]
  clear hx μx
  refine zb S_hold_s4 rfl ?_
  refine z_retV S_hold_d9 rfl ?_
  exact ⟨rfl, rfl⟩

set_option maxRecDepth 100000 in
set_option maxHeartbeats 4000000 in
theorem w_fillL_2 {g : zG} {d : Nat} {x : Int64} {μ0 : zMem} : ∀ (j i : Nat) (μ : zMem), i + j = 60 → (μ.1 = μ0.1 ∧ μ.2.2 = μ0.2.2 ∧ (∀ c, ¬ c = 21 → μ.2.1 c = μ0.2.1 c) ∧ ∀ k, k < i → μ.2.1 21 k = x) → zW g J_fillAJ d 6 [some (.ref 21), some (.long x), none, some (.int (nI i)), some (.int 60)] [] μ (fun r μ' => r = none ∧ μ'.1 = μ0.1 ∧ μ'.2.2 = μ0.2.2 ∧ (∀ c, ¬ c = 21 → μ'.2.1 c = μ0.2.1 c) ∧ ∀ k, k < 60 → μ'.2.1 21 k = x) := by
  intro j
  induction j with
  | zero =>
    intro i  μ hi  hv0
    have hi : 60 = i := by omega
    subst hi
    refine zb J_fillAJ_s6 rfl ?_
    refine z_cge J_fillAJ_d9 (tgt := 22) rfl (fun h9 => ?_) (fun h9 => absurd (show 60 ≤ nI (60) by first | exact Int32.le_refl _ | (rw [hbd]; exact Int32.le_refl _)) h9)
    refine z_retV J_fillAJ_d22 rfl ?_
    exact ⟨rfl, hv0⟩
  | succ j ih =>
    intro i  μ hi  hv0
    have hilt : i < 60 := by omega
    have ei : (nI i).toNatClampNeg = i := nI_clamp (by omega)
    refine zb J_fillAJ_s6 rfl ?_
    refine z_cge J_fillAJ_d9 (tgt := 22) rfl (fun h9 => absurd h9 (show ¬ 60 ≤ nI i by first | exact nI_ge (b := 60) hilt (by omega) | (rw [hbd]; exact nI_ge hilt (by omega)))) (fun h9 => ?_)
    refine zb1 J_fillAJ_s12 rfl (vp_in_nI hilt (by omega)) ?_
    rw [nI_1, ei]
    refine ih (i + 1) _ (by omega) ⟨hv0.1, hv0.2.1, fun c hc => ?_, fun k hk => ?_⟩
    · rw [zpL_ne hc]
      exact hv0.2.2.1 c hc
    · rw [zpL_at]
      by_cases y : k = i
      · rw [if_pos y]
      · rw [if_neg y]
        exact hv0.2.2.2 k (by omega)

set_option maxRecDepth 100000 in
set_option maxHeartbeats 4000000 in
theorem x_fillL_2 {g : zG} {d : Nat} {μ : zMem} (x : Int64) : zM g d J_fillAJ [.ref 21, .long x] μ (fun r μ' => r = none ∧ μ'.1 = μ.1 ∧ μ'.2.2 = μ.2.2 ∧ (∀ c, ¬ c = 21 → μ'.2.1 c = μ.2.1 c) ∧ ∀ k, k < 60 → μ'.2.1 21 k = x) := by
  refine zM_of (by decide +kernel) rfl rfl (Nat.le_of_ble_eq_true rfl) rfl ?_
  refine zb J_fillAJ_s0 rfl ?_
  exact w_fillL_2 (μ0 := μ) 60 0 μ (by omega) ⟨rfl, rfl, fun _ _ => rfl, fun k hk => by omega⟩

set_option maxRecDepth 100000 in
set_option maxHeartbeats 4000000 in
theorem x_lay_2 {g : zG} {d : Nat} {μ : zMem} (p n : Int32) (hd : 1 ≤ d) : zM g d S_lay [.ref 15, .int p, .int n] μ (fun r μ' => r = none ∧ μ'.1 = (zpI (zpI (clr 15 μ) 15 2 p) 15 3 n).1 ∧ μ'.2.2 = μ.2.2 ∧ (∀ c, ¬ c = 21 → μ'.2.1 c = μ.2.1 c) ∧ ∀ k, k < 60 → μ'.2.1 21 k = 0) := by
  refine zM_of (by decide +kernel) rfl rfl (Nat.le_of_ble_eq_true rfl) rfl ?_
  refine zb S_lay_s0 rfl ?_
  refine zcallV S_lay_d1 k8_40 (by omega) (x_clear_2) rfl rfl rfl (Nat.le_of_ble_eq_true rfl) ?_
  rintro _ μx ⟨rfl, hx⟩
  rw [hx]
  clear hx μx
  refine zb S_lay_s4 rfl ?_
  refine zcallS S_lay_d19 k8_43 (by omega) (x_fillL_2 _) rfl rfl (Nat.le_of_ble_eq_true rfl) ?_
  rintro _ μ1 ⟨rfl, a1, a2, a3, a4⟩
  refine z_retV S_lay_d22 rfl ?_
  exact ⟨rfl, a1, a2, a3, a4⟩

set_option maxRecDepth 100000 in
set_option maxHeartbeats 4000000 in
theorem x_shelf_3 {g : zG} {d : Nat} {μ : zMem} (hd : 1 ≤ d) : zM g d X_shelfAt [.ref 1, .int (nI 3)] μ (fun r μ' => r = some (.ref 16) ∧ μ' = μ) := by
  refine zM_of (by decide +kernel) rfl rfl (Nat.le_of_ble_eq_true rfl) rfl ?_
  refine zb X_shelfAt_s0 rfl ?_
  refine zcallS X_shelfAt_d2 k10_170 (by omega) (x_isWithin _ _) rfl rfl (Nat.le_of_ble_eq_true rfl) ?_
  rintro _ μx ⟨rfl, hx⟩
  rw [hx]
  clear hx μx
  refine z_eq X_shelfAt_d5 (tgt := 17) rfl (fun h5 => absurd h5 (by decide)) (fun h5 => ?_)
  refine zb1 X_shelfAt_s8 rfl (vp_in_nI (n := 3) (by omega) (by omega)) ?_
  refine z_retA X_shelfAt_d18 rfl (by first | exact Or.inl ⟨_, rfl⟩ | exact Or.inr ⟨_, rfl⟩) ?_
  exact ⟨rfl, rfl⟩

set_option maxRecDepth 100000 in
set_option maxHeartbeats 4000000 in
theorem x_isEmpty_3 {g : zG} {d : Nat} {μ : zMem} : zM g d S_isEmpty [.ref 16] μ (fun r μ' => r = some (.int (zB (bE 16 μ))) ∧ μ' = μ) := by
  refine zM_of (by decide +kernel) rfl rfl (Nat.le_of_ble_eq_true rfl) rfl ?_
  refine zb S_isEmpty_s0 rfl ?_
  refine z_cne S_isEmpty_d5 (tgt := 20) rfl (fun h5 => ?_) (fun h5 => ?_)
  · refine zb S_isEmpty_s20 rfl ?_
    refine z_retZ S_isEmpty_d21 rfl (by first | exact Or.inl rfl | exact Or.inr rfl) ?_
    first
      | exact ⟨by rw [zB_t (show bE 16 μ from And.intro h5 h13)], rfl⟩
      | exact ⟨by rw [zB_f (show ¬ bE 16 μ from fun z => h5 z.1)], rfl⟩
      | exact ⟨by rw [zB_f (show ¬ bE 16 μ from fun z => h13 z.2)], rfl⟩
  · refine zb S_isEmpty_s8 rfl ?_
    refine z_cne S_isEmpty_d13 (tgt := 20) rfl (fun h13 => ?_) (fun h13 => ?_)
    · refine zb S_isEmpty_s20 rfl ?_
      refine z_retZ S_isEmpty_d21 rfl (by first | exact Or.inl rfl | exact Or.inr rfl) ?_
      first
        | exact ⟨by rw [zB_t (show bE 16 μ from And.intro h5 h13)], rfl⟩
        | exact ⟨by rw [zB_f (show ¬ bE 16 μ from fun z => h5 z.1)], rfl⟩
        | exact ⟨by rw [zB_f (show ¬ bE 16 μ from fun z => h13 z.2)], rfl⟩
    · refine zb S_isEmpty_s16 rfl ?_
      refine z_retZ S_isEmpty_d21 rfl (by first | exact Or.inl rfl | exact Or.inr rfl) ?_
      first
        | exact ⟨by rw [zB_t (show bE 16 μ from And.intro h5 h13)], rfl⟩
        | exact ⟨by rw [zB_f (show ¬ bE 16 μ from fun z => h5 z.1)], rfl⟩
        | exact ⟨by rw [zB_f (show ¬ bE 16 μ from fun z => h13 z.2)], rfl⟩

set_option maxRecDepth 100000 in
set_option maxHeartbeats 4000000 in
theorem x_isRow_3 {g : zG} {d : Nat} {μ : zMem} : zM g d S_isRow [.ref 16] μ (fun r μ' => r = some (.int (zB (bR 16 μ))) ∧ μ' = μ) := by
  refine zM_of (by decide +kernel) rfl rfl (Nat.le_of_ble_eq_true rfl) rfl ?_
  refine zb S_isRow_s0 rfl ?_
  refine z_ceq S_isRow_d5 (tgt := 12) rfl (fun h5 => ?_) (fun h5 => ?_)
  · refine zb S_isRow_s12 rfl ?_
    refine z_retZ S_isRow_d13 rfl (by first | exact Or.inl rfl | exact Or.inr rfl) ?_
    first
      | exact ⟨by rw [zB_t (show bR 16 μ from h5)], rfl⟩
      | exact ⟨by rw [zB_f (show ¬ bR 16 μ from fun z => z h5)], rfl⟩
  · refine zb S_isRow_s8 rfl ?_
    refine z_retZ S_isRow_d13 rfl (by first | exact Or.inl rfl | exact Or.inr rfl) ?_
    first
      | exact ⟨by rw [zB_t (show bR 16 μ from h5)], rfl⟩
      | exact ⟨by rw [zB_f (show ¬ bR 16 μ from fun z => z h5)], rfl⟩

set_option maxRecDepth 100000 in
set_option maxHeartbeats 4000000 in
theorem x_isRowOf_3 {g : zG} {d : Nat} {μ : zMem} (p : Int32) (hd : 1 ≤ d) : zM g d S_isRowOf [.ref 16, .int p] μ (fun r μ' => r = some (.int (zB (bR 16 μ ∧ μ.1 16 2 = p))) ∧ μ' = μ) := by
  refine zM_of (by decide +kernel) rfl rfl (Nat.le_of_ble_eq_true rfl) rfl ?_
  refine zb S_isRowOf_s0 rfl ?_
  refine zcallV S_isRowOf_d1 k8_22 (by omega) (x_isRow_3) rfl rfl rfl (Nat.le_of_ble_eq_true rfl) ?_
  rintro _ μx ⟨rfl, hx⟩
  rw [hx]
  clear hx μx
  refine z_eq S_isRowOf_d4 (tgt := 19) rfl (fun h4 => ?_) (fun h4 => ?_)
  · refine zb S_isRowOf_s19 rfl ?_
    refine z_retZ S_isRowOf_d20 rfl (by first | exact Or.inl rfl | exact Or.inr rfl) ?_
    first
      | exact ⟨by rw [zB_t (And.intro (zB_ne0.mp h4) h12)], rfl⟩
      | exact ⟨by rw [zB_f (fun z => h12 z.2)], rfl⟩
      | exact ⟨by rw [zB_f (fun z => (zB_eq0.mp h4) z.1)], rfl⟩
  · refine zb S_isRowOf_s7 rfl ?_
    refine z_cne S_isRowOf_d12 (tgt := 19) rfl (fun h12 => ?_) (fun h12 => ?_)
    · refine zb S_isRowOf_s19 rfl ?_
      refine z_retZ S_isRowOf_d20 rfl (by first | exact Or.inl rfl | exact Or.inr rfl) ?_
      first
        | exact ⟨by rw [zB_t (And.intro (zB_ne0.mp h4) h12)], rfl⟩
        | exact ⟨by rw [zB_f (fun z => h12 z.2)], rfl⟩
        | exact ⟨by rw [zB_f (fun z => (zB_eq0.mp h4) z.1)], rfl⟩
    · refine zb S_isRowOf_s15 rfl ?_
      refine z_retZ S_isRowOf_d20 rfl (by first | exact Or.inl rfl | exact Or.inr rfl) ?_
      first
        | exact ⟨by rw [zB_t (And.intro (zB_ne0.mp h4) h12)], rfl⟩
        | exact ⟨by rw [zB_f (fun z => h12 z.2)], rfl⟩
        | exact ⟨by rw [zB_f (fun z => (zB_eq0.mp h4) z.1)], rfl⟩

set_option maxRecDepth 100000 in
set_option maxHeartbeats 4000000 in
theorem x_hasPlaces_3 {g : zG} {d : Nat} {μ : zMem} (i n : Int32) : zM g d S_hasPlaces [.ref 16, .int i, .int n] μ (fun r μ' => r = some (.int (zB (bP 16 i n μ))) ∧ μ' = μ) := by
  refine zM_of (by decide +kernel) rfl rfl (Nat.le_of_ble_eq_true rfl) rfl ?_
  refine zb S_hasPlaces_s0 rfl ?_
  refine z_lt S_hasPlaces_d1 (tgt := 30) rfl (fun h1 => ?_) (fun h1 => ?_)
  · refine zb S_hasPlaces_s30 rfl ?_
    refine z_retZ S_hasPlaces_d31 rfl (by first | exact Or.inl rfl | exact Or.inr rfl) ?_
    first
      | exact ⟨by rw [zB_t (show bP 16 i n μ from And.intro (Int32.not_lt.mp h1) (And.intro (Int32.not_lt.mp h5) (And.intro (Int32.not_lt.mp h13) (Int32.not_lt.mp h23))))], rfl⟩
      | exact ⟨by rw [zB_f (show ¬ bP 16 i n μ from fun z => absurd z.2.2.2 (Int32.not_le.mpr h23))], rfl⟩
      | exact ⟨by rw [zB_f (show ¬ bP 16 i n μ from fun z => absurd z.2.2.1 (Int32.not_le.mpr h13))], rfl⟩
      | exact ⟨by rw [zB_f (show ¬ bP 16 i n μ from fun z => absurd z.2.1 (Int32.not_le.mpr h5))], rfl⟩
      | exact ⟨by rw [zB_f (show ¬ bP 16 i n μ from fun z => absurd z.1 (Int32.not_le.mpr h1))], rfl⟩
  · refine zb S_hasPlaces_s4 rfl ?_
    refine z_lt S_hasPlaces_d5 (tgt := 30) rfl (fun h5 => ?_) (fun h5 => ?_)
    · refine zb S_hasPlaces_s30 rfl ?_
      refine z_retZ S_hasPlaces_d31 rfl (by first | exact Or.inl rfl | exact Or.inr rfl) ?_
      first
        | exact ⟨by rw [zB_t (show bP 16 i n μ from And.intro (Int32.not_lt.mp h1) (And.intro (Int32.not_lt.mp h5) (And.intro (Int32.not_lt.mp h13) (Int32.not_lt.mp h23))))], rfl⟩
        | exact ⟨by rw [zB_f (show ¬ bP 16 i n μ from fun z => absurd z.2.2.2 (Int32.not_le.mpr h23))], rfl⟩
        | exact ⟨by rw [zB_f (show ¬ bP 16 i n μ from fun z => absurd z.2.2.1 (Int32.not_le.mpr h13))], rfl⟩
        | exact ⟨by rw [zB_f (show ¬ bP 16 i n μ from fun z => absurd z.2.1 (Int32.not_le.mpr h5))], rfl⟩
        | exact ⟨by rw [zB_f (show ¬ bP 16 i n μ from fun z => absurd z.1 (Int32.not_le.mpr h1))], rfl⟩
    · refine zb S_hasPlaces_s8 rfl ?_
      refine z_cgt S_hasPlaces_d13 (tgt := 30) rfl (fun h13 => ?_) (fun h13 => ?_)
      · refine zb S_hasPlaces_s30 rfl ?_
        refine z_retZ S_hasPlaces_d31 rfl (by first | exact Or.inl rfl | exact Or.inr rfl) ?_
        first
          | exact ⟨by rw [zB_t (show bP 16 i n μ from And.intro (Int32.not_lt.mp h1) (And.intro (Int32.not_lt.mp h5) (And.intro (Int32.not_lt.mp h13) (Int32.not_lt.mp h23))))], rfl⟩
          | exact ⟨by rw [zB_f (show ¬ bP 16 i n μ from fun z => absurd z.2.2.2 (Int32.not_le.mpr h23))], rfl⟩
          | exact ⟨by rw [zB_f (show ¬ bP 16 i n μ from fun z => absurd z.2.2.1 (Int32.not_le.mpr h13))], rfl⟩
          | exact ⟨by rw [zB_f (show ¬ bP 16 i n μ from fun z => absurd z.2.1 (Int32.not_le.mpr h5))], rfl⟩
          | exact ⟨by rw [zB_f (show ¬ bP 16 i n μ from fun z => absurd z.1 (Int32.not_le.mpr h1))], rfl⟩
      · refine zb S_hasPlaces_s16 rfl ?_
        refine z_cgt S_hasPlaces_d23 (tgt := 30) rfl (fun h23 => ?_) (fun h23 => ?_)
        · refine zb S_hasPlaces_s30 rfl ?_
          refine z_retZ S_hasPlaces_d31 rfl (by first | exact Or.inl rfl | exact Or.inr rfl) ?_
          first
            | exact ⟨by rw [zB_t (show bP 16 i n μ from And.intro (Int32.not_lt.mp h1) (And.intro (Int32.not_lt.mp h5) (And.intro (Int32.not_lt.mp h13) (Int32.not_lt.mp h23))))], rfl⟩
            | exact ⟨by rw [zB_f (show ¬ bP 16 i n μ from fun z => absurd z.2.2.2 (Int32.not_le.mpr h23))], rfl⟩
            | exact ⟨by rw [zB_f (show ¬ bP 16 i n μ from fun z => absurd z.2.2.1 (Int32.not_le.mpr h13))], rfl⟩
            | exact ⟨by rw [zB_f (show ¬ bP 16 i n μ from fun z => absurd z.2.1 (Int32.not_le.mpr h5))], rfl⟩
            | exact ⟨by rw [zB_f (show ¬ bP 16 i n μ from fun z => absurd z.1 (Int32.not_le.mpr h1))], rfl⟩
        · refine zb S_hasPlaces_s26 rfl ?_
          refine z_retZ S_hasPlaces_d31 rfl (by first | exact Or.inl rfl | exact Or.inr rfl) ?_
          first
            | exact ⟨by rw [zB_t (show bP 16 i n μ from And.intro (Int32.not_lt.mp h1) (And.intro (Int32.not_lt.mp h5) (And.intro (Int32.not_lt.mp h13) (Int32.not_lt.mp h23))))], rfl⟩
            | exact ⟨by rw [zB_f (show ¬ bP 16 i n μ from fun z => absurd z.2.2.2 (Int32.not_le.mpr h23))], rfl⟩
            | exact ⟨by rw [zB_f (show ¬ bP 16 i n μ from fun z => absurd z.2.2.1 (Int32.not_le.mpr h13))], rfl⟩
            | exact ⟨by rw [zB_f (show ¬ bP 16 i n μ from fun z => absurd z.2.1 (Int32.not_le.mpr h5))], rfl⟩
            | exact ⟨by rw [zB_f (show ¬ bP 16 i n μ from fun z => absurd z.1 (Int32.not_le.mpr h1))], rfl⟩

set_option maxRecDepth 100000 in
set_option maxHeartbeats 4000000 in
theorem x_refAt_3 {g : zG} {d : Nat} {μ : zMem} (i : Int32) (hd : 1 ≤ d) : zM g d S_refusalAt [.ref 16, .int i] μ (fun r μ' => r = some (.int (if bE 16 μ then -11 else if ¬ bR 16 μ then -12 else if bP 16 i 1 μ then 0 else -13)) ∧ μ' = μ) := by
  refine zM_of (by decide +kernel) rfl rfl (Nat.le_of_ble_eq_true rfl) rfl ?_
  refine zb S_refusalAt_s0 rfl ?_
  refine zcallV S_refusalAt_d1 k8_29 (by omega) (x_isEmpty_3) rfl rfl rfl (Nat.le_of_ble_eq_true rfl) ?_
  rintro _ μx ⟨rfl, hx⟩
  rw [hx]
  clear hx μx
  refine z_eq S_refusalAt_d4 (tgt := 10) rfl (fun h4 => ?_) (fun h4 => ?_)
  · refine zb S_refusalAt_s10 rfl ?_
    refine zcallV S_refusalAt_d11 k8_22 (by omega) (x_isRow_3) rfl rfl rfl (Nat.le_of_ble_eq_true rfl) ?_
    rintro _ μx ⟨rfl, hx⟩
    rw [hx]
    clear hx μx
    refine z_ne S_refusalAt_d14 (tgt := 20) rfl (fun h14 => ?_) (fun h14 => ?_)
    · refine zb S_refusalAt_s20 rfl ?_
      refine zcallV S_refusalAt_d23 k8_36 (by omega) (x_hasPlaces_3 _ _) rfl rfl rfl (Nat.le_of_ble_eq_true rfl) ?_
      rintro _ μx ⟨rfl, hx⟩
      rw [hx]
      clear hx μx
      refine z_eq S_refusalAt_d26 (tgt := 33) rfl (fun h26 => ?_) (fun h26 => ?_)
      · refine zb S_refusalAt_s33 rfl ?_
        refine z_ret S_refusalAt_d35 rfl ?_
        refine ⟨congrArg (fun z => some (Value.int z)) ?_, rfl⟩
        first
          | rw [if_pos (zB_ne0.mp h4)]
          | rw [if_neg (zB_eq0.mp h4), if_pos (zB_eq0.mp h14)]
          | rw [if_neg (zB_eq0.mp h4), if_neg (fun z => z (zB_ne0.mp h14)), if_pos (zB_ne0.mp h26)]
          | rw [if_neg (zB_eq0.mp h4), if_neg (fun z => z (zB_ne0.mp h14)), if_neg (zB_eq0.mp h26)]
      · refine zb S_refusalAt_s29 rfl ?_
        refine z_ret S_refusalAt_d35 rfl ?_
        refine ⟨congrArg (fun z => some (Value.int z)) ?_, rfl⟩
        first
          | rw [if_pos (zB_ne0.mp h4)]
          | rw [if_neg (zB_eq0.mp h4), if_pos (zB_eq0.mp h14)]
          | rw [if_neg (zB_eq0.mp h4), if_neg (fun z => z (zB_ne0.mp h14)), if_pos (zB_ne0.mp h26)]
          | rw [if_neg (zB_eq0.mp h4), if_neg (fun z => z (zB_ne0.mp h14)), if_neg (zB_eq0.mp h26)]
    · refine zb S_refusalAt_s17 rfl ?_
      refine z_ret S_refusalAt_d19 rfl ?_
      refine ⟨congrArg (fun z => some (Value.int z)) ?_, rfl⟩
      first
        | rw [if_pos (zB_ne0.mp h4)]
        | rw [if_neg (zB_eq0.mp h4), if_pos (zB_eq0.mp h14)]
        | rw [if_neg (zB_eq0.mp h4), if_neg (fun z => z (zB_ne0.mp h14)), if_pos (zB_ne0.mp h26)]
        | rw [if_neg (zB_eq0.mp h4), if_neg (fun z => z (zB_ne0.mp h14)), if_neg (zB_eq0.mp h26)]
  · refine zb S_refusalAt_s7 rfl ?_
    refine z_ret S_refusalAt_d9 rfl ?_
    refine ⟨congrArg (fun z => some (Value.int z)) ?_, rfl⟩
    first
      | rw [if_pos (zB_ne0.mp h4)]
      | rw [if_neg (zB_eq0.mp h4), if_pos (zB_eq0.mp h14)]
      | rw [if_neg (zB_eq0.mp h4), if_neg (fun z => z (zB_ne0.mp h14)), if_pos (zB_ne0.mp h26)]
      | rw [if_neg (zB_eq0.mp h4), if_neg (fun z => z (zB_ne0.mp h14)), if_neg (zB_eq0.mp h26)]

set_option maxRecDepth 100000 in
set_option maxHeartbeats 4000000 in
theorem x_clear_3 {g : zG} {d : Nat} {μ : zMem} : zM g d S_clear [.ref 16] μ (fun r μ' => r = none ∧ μ' = clr 16 μ) := by
  refine zM_of (by decide +kernel) rfl rfl (Nat.le_of_ble_eq_true rfl) rfl ?_
  refine zb S_clear_s0 rfl ?_
  refine z_retV S_clear_d15 rfl ?_
  exact ⟨rfl, rfl⟩

set_option maxRecDepth 100000 in
set_option maxHeartbeats 4000000 in
theorem x_hold_3 {g : zG} {d : Nat} {μ : zMem} (b : Int32) (hd : 1 ≤ d) : zM g d S_hold [.ref 16, .int b] μ (fun r μ' => r = none ∧ μ' = zpI (clr 16 μ) 16 1 b) := by
  refine zM_of (by decide +kernel) rfl rfl (Nat.le_of_ble_eq_true rfl) rfl ?_
  refine zb S_hold_s0 rfl ?_
  refine zcallV S_hold_d1 k8_40 (by omega) (x_clear_3) rfl rfl rfl (Nat.le_of_ble_eq_true rfl) ?_
  rintro _ μx ⟨rfl, hx⟩
  rw [hx]
  clear hx μx
  refine zb S_hold_s4 rfl ?_
  refine z_retV S_hold_d9 rfl ?_
  exact ⟨rfl, rfl⟩

set_option maxRecDepth 100000 in
set_option maxHeartbeats 4000000 in
theorem w_fillL_3 {g : zG} {d : Nat} {x : Int64} {μ0 : zMem} : ∀ (j i : Nat) (μ : zMem), i + j = 60 → (μ.1 = μ0.1 ∧ μ.2.2 = μ0.2.2 ∧ (∀ c, ¬ c = 22 → μ.2.1 c = μ0.2.1 c) ∧ ∀ k, k < i → μ.2.1 22 k = x) → zW g J_fillAJ d 6 [some (.ref 22), some (.long x), none, some (.int (nI i)), some (.int 60)] [] μ (fun r μ' => r = none ∧ μ'.1 = μ0.1 ∧ μ'.2.2 = μ0.2.2 ∧ (∀ c, ¬ c = 22 → μ'.2.1 c = μ0.2.1 c) ∧ ∀ k, k < 60 → μ'.2.1 22 k = x) := by
  intro j
  induction j with
  | zero =>
    intro i  μ hi  hv0
    have hi : 60 = i := by omega
    subst hi
    refine zb J_fillAJ_s6 rfl ?_
    refine z_cge J_fillAJ_d9 (tgt := 22) rfl (fun h9 => ?_) (fun h9 => absurd (show 60 ≤ nI (60) by first | exact Int32.le_refl _ | (rw [hbd]; exact Int32.le_refl _)) h9)
    refine z_retV J_fillAJ_d22 rfl ?_
    exact ⟨rfl, hv0⟩
  | succ j ih =>
    intro i  μ hi  hv0
    have hilt : i < 60 := by omega
    have ei : (nI i).toNatClampNeg = i := nI_clamp (by omega)
    refine zb J_fillAJ_s6 rfl ?_
    refine z_cge J_fillAJ_d9 (tgt := 22) rfl (fun h9 => absurd h9 (show ¬ 60 ≤ nI i by first | exact nI_ge (b := 60) hilt (by omega) | (rw [hbd]; exact nI_ge hilt (by omega)))) (fun h9 => ?_)
    refine zb1 J_fillAJ_s12 rfl (vp_in_nI hilt (by omega)) ?_
    rw [nI_1, ei]
    refine ih (i + 1) _ (by omega) ⟨hv0.1, hv0.2.1, fun c hc => ?_, fun k hk => ?_⟩
    · rw [zpL_ne hc]
      exact hv0.2.2.1 c hc
    · rw [zpL_at]
      by_cases y : k = i
      · rw [if_pos y]
      · rw [if_neg y]
        exact hv0.2.2.2 k (by omega)

set_option maxRecDepth 100000 in
set_option maxHeartbeats 4000000 in
theorem x_fillL_3 {g : zG} {d : Nat} {μ : zMem} (x : Int64) : zM g d J_fillAJ [.ref 22, .long x] μ (fun r μ' => r = none ∧ μ'.1 = μ.1 ∧ μ'.2.2 = μ.2.2 ∧ (∀ c, ¬ c = 22 → μ'.2.1 c = μ.2.1 c) ∧ ∀ k, k < 60 → μ'.2.1 22 k = x) := by
  refine zM_of (by decide +kernel) rfl rfl (Nat.le_of_ble_eq_true rfl) rfl ?_
  refine zb J_fillAJ_s0 rfl ?_
  exact w_fillL_3 (μ0 := μ) 60 0 μ (by omega) ⟨rfl, rfl, fun _ _ => rfl, fun k hk => by omega⟩

set_option maxRecDepth 100000 in
set_option maxHeartbeats 4000000 in
theorem x_lay_3 {g : zG} {d : Nat} {μ : zMem} (p n : Int32) (hd : 1 ≤ d) : zM g d S_lay [.ref 16, .int p, .int n] μ (fun r μ' => r = none ∧ μ'.1 = (zpI (zpI (clr 16 μ) 16 2 p) 16 3 n).1 ∧ μ'.2.2 = μ.2.2 ∧ (∀ c, ¬ c = 22 → μ'.2.1 c = μ.2.1 c) ∧ ∀ k, k < 60 → μ'.2.1 22 k = 0) := by
  refine zM_of (by decide +kernel) rfl rfl (Nat.le_of_ble_eq_true rfl) rfl ?_
  refine zb S_lay_s0 rfl ?_
  refine zcallV S_lay_d1 k8_40 (by omega) (x_clear_3) rfl rfl rfl (Nat.le_of_ble_eq_true rfl) ?_
  rintro _ μx ⟨rfl, hx⟩
  rw [hx]
  clear hx μx
  refine zb S_lay_s4 rfl ?_
  refine zcallS S_lay_d19 k8_43 (by omega) (x_fillL_3 _) rfl rfl (Nat.le_of_ble_eq_true rfl) ?_
  rintro _ μ1 ⟨rfl, a1, a2, a3, a4⟩
  refine z_retV S_lay_d22 rfl ?_
  exact ⟨rfl, a1, a2, a3, a4⟩

set_option maxRecDepth 100000 in
set_option maxHeartbeats 4000000 in
theorem x_shelf_4 {g : zG} {d : Nat} {μ : zMem} (hd : 1 ≤ d) : zM g d X_shelfAt [.ref 1, .int (nI 4)] μ (fun r μ' => r = some (.ref 17) ∧ μ' = μ) := by
  refine zM_of (by decide +kernel) rfl rfl (Nat.le_of_ble_eq_true rfl) rfl ?_
  refine zb X_shelfAt_s0 rfl ?_
  refine zcallS X_shelfAt_d2 k10_170 (by omega) (x_isWithin _ _) rfl rfl (Nat.le_of_ble_eq_true rfl) ?_
  rintro _ μx ⟨rfl, hx⟩
  rw [hx]
  clear hx μx
  refine z_eq X_shelfAt_d5 (tgt := 17) rfl (fun h5 => absurd h5 (by decide)) (fun h5 => ?_)
  refine zb1 X_shelfAt_s8 rfl (vp_in_nI (n := 4) (by omega) (by omega)) ?_
  refine z_retA X_shelfAt_d18 rfl (by first | exact Or.inl ⟨_, rfl⟩ | exact Or.inr ⟨_, rfl⟩) ?_
  exact ⟨rfl, rfl⟩

set_option maxRecDepth 100000 in
set_option maxHeartbeats 4000000 in
theorem x_isEmpty_4 {g : zG} {d : Nat} {μ : zMem} : zM g d S_isEmpty [.ref 17] μ (fun r μ' => r = some (.int (zB (bE 17 μ))) ∧ μ' = μ) := by
  refine zM_of (by decide +kernel) rfl rfl (Nat.le_of_ble_eq_true rfl) rfl ?_
  refine zb S_isEmpty_s0 rfl ?_
  refine z_cne S_isEmpty_d5 (tgt := 20) rfl (fun h5 => ?_) (fun h5 => ?_)
  · refine zb S_isEmpty_s20 rfl ?_
    refine z_retZ S_isEmpty_d21 rfl (by first | exact Or.inl rfl | exact Or.inr rfl) ?_
    first
      | exact ⟨by rw [zB_t (show bE 17 μ from And.intro h5 h13)], rfl⟩
      | exact ⟨by rw [zB_f (show ¬ bE 17 μ from fun z => h5 z.1)], rfl⟩
      | exact ⟨by rw [zB_f (show ¬ bE 17 μ from fun z => h13 z.2)], rfl⟩
  · refine zb S_isEmpty_s8 rfl ?_
    refine z_cne S_isEmpty_d13 (tgt := 20) rfl (fun h13 => ?_) (fun h13 => ?_)
    · refine zb S_isEmpty_s20 rfl ?_
      refine z_retZ S_isEmpty_d21 rfl (by first | exact Or.inl rfl | exact Or.inr rfl) ?_
      first
        | exact ⟨by rw [zB_t (show bE 17 μ from And.intro h5 h13)], rfl⟩
        | exact ⟨by rw [zB_f (show ¬ bE 17 μ from fun z => h5 z.1)], rfl⟩
        | exact ⟨by rw [zB_f (show ¬ bE 17 μ from fun z => h13 z.2)], rfl⟩
    · refine zb S_isEmpty_s16 rfl ?_
      refine z_retZ S_isEmpty_d21 rfl (by first | exact Or.inl rfl | exact Or.inr rfl) ?_
      first
        | exact ⟨by rw [zB_t (show bE 17 μ from And.intro h5 h13)], rfl⟩
        | exact ⟨by rw [zB_f (show ¬ bE 17 μ from fun z => h5 z.1)], rfl⟩
        | exact ⟨by rw [zB_f (show ¬ bE 17 μ from fun z => h13 z.2)], rfl⟩

set_option maxRecDepth 100000 in
set_option maxHeartbeats 4000000 in
theorem x_isRow_4 {g : zG} {d : Nat} {μ : zMem} : zM g d S_isRow [.ref 17] μ (fun r μ' => r = some (.int (zB (bR 17 μ))) ∧ μ' = μ) := by
  refine zM_of (by decide +kernel) rfl rfl (Nat.le_of_ble_eq_true rfl) rfl ?_
  refine zb S_isRow_s0 rfl ?_
  refine z_ceq S_isRow_d5 (tgt := 12) rfl (fun h5 => ?_) (fun h5 => ?_)
  · refine zb S_isRow_s12 rfl ?_
    refine z_retZ S_isRow_d13 rfl (by first | exact Or.inl rfl | exact Or.inr rfl) ?_
    first
      | exact ⟨by rw [zB_t (show bR 17 μ from h5)], rfl⟩
      | exact ⟨by rw [zB_f (show ¬ bR 17 μ from fun z => z h5)], rfl⟩
  · refine zb S_isRow_s8 rfl ?_
    refine z_retZ S_isRow_d13 rfl (by first | exact Or.inl rfl | exact Or.inr rfl) ?_
    first
      | exact ⟨by rw [zB_t (show bR 17 μ from h5)], rfl⟩
      | exact ⟨by rw [zB_f (show ¬ bR 17 μ from fun z => z h5)], rfl⟩

set_option maxRecDepth 100000 in
set_option maxHeartbeats 4000000 in
theorem x_isRowOf_4 {g : zG} {d : Nat} {μ : zMem} (p : Int32) (hd : 1 ≤ d) : zM g d S_isRowOf [.ref 17, .int p] μ (fun r μ' => r = some (.int (zB (bR 17 μ ∧ μ.1 17 2 = p))) ∧ μ' = μ) := by
  refine zM_of (by decide +kernel) rfl rfl (Nat.le_of_ble_eq_true rfl) rfl ?_
  refine zb S_isRowOf_s0 rfl ?_
  refine zcallV S_isRowOf_d1 k8_22 (by omega) (x_isRow_4) rfl rfl rfl (Nat.le_of_ble_eq_true rfl) ?_
  rintro _ μx ⟨rfl, hx⟩
  rw [hx]
  clear hx μx
  refine z_eq S_isRowOf_d4 (tgt := 19) rfl (fun h4 => ?_) (fun h4 => ?_)
  · refine zb S_isRowOf_s19 rfl ?_
    refine z_retZ S_isRowOf_d20 rfl (by first | exact Or.inl rfl | exact Or.inr rfl) ?_
    first
      | exact ⟨by rw [zB_t (And.intro (zB_ne0.mp h4) h12)], rfl⟩
      | exact ⟨by rw [zB_f (fun z => h12 z.2)], rfl⟩
      | exact ⟨by rw [zB_f (fun z => (zB_eq0.mp h4) z.1)], rfl⟩
  · refine zb S_isRowOf_s7 rfl ?_
    refine z_cne S_isRowOf_d12 (tgt := 19) rfl (fun h12 => ?_) (fun h12 => ?_)
    · refine zb S_isRowOf_s19 rfl ?_
      refine z_retZ S_isRowOf_d20 rfl (by first | exact Or.inl rfl | exact Or.inr rfl) ?_
      first
        | exact ⟨by rw [zB_t (And.intro (zB_ne0.mp h4) h12)], rfl⟩
        | exact ⟨by rw [zB_f (fun z => h12 z.2)], rfl⟩
        | exact ⟨by rw [zB_f (fun z => (zB_eq0.mp h4) z.1)], rfl⟩
    · refine zb S_isRowOf_s15 rfl ?_
      refine z_retZ S_isRowOf_d20 rfl (by first | exact Or.inl rfl | exact Or.inr rfl) ?_
      first
        | exact ⟨by rw [zB_t (And.intro (zB_ne0.mp h4) h12)], rfl⟩
        | exact ⟨by rw [zB_f (fun z => h12 z.2)], rfl⟩
        | exact ⟨by rw [zB_f (fun z => (zB_eq0.mp h4) z.1)], rfl⟩

set_option maxRecDepth 100000 in
set_option maxHeartbeats 4000000 in
theorem x_hasPlaces_4 {g : zG} {d : Nat} {μ : zMem} (i n : Int32) : zM g d S_hasPlaces [.ref 17, .int i, .int n] μ (fun r μ' => r = some (.int (zB (bP 17 i n μ))) ∧ μ' = μ) := by
  refine zM_of (by decide +kernel) rfl rfl (Nat.le_of_ble_eq_true rfl) rfl ?_
  refine zb S_hasPlaces_s0 rfl ?_
  refine z_lt S_hasPlaces_d1 (tgt := 30) rfl (fun h1 => ?_) (fun h1 => ?_)
  · refine zb S_hasPlaces_s30 rfl ?_
    refine z_retZ S_hasPlaces_d31 rfl (by first | exact Or.inl rfl | exact Or.inr rfl) ?_
    first
      | exact ⟨by rw [zB_t (show bP 17 i n μ from And.intro (Int32.not_lt.mp h1) (And.intro (Int32.not_lt.mp h5) (And.intro (Int32.not_lt.mp h13) (Int32.not_lt.mp h23))))], rfl⟩
      | exact ⟨by rw [zB_f (show ¬ bP 17 i n μ from fun z => absurd z.2.2.2 (Int32.not_le.mpr h23))], rfl⟩
      | exact ⟨by rw [zB_f (show ¬ bP 17 i n μ from fun z => absurd z.2.2.1 (Int32.not_le.mpr h13))], rfl⟩
      | exact ⟨by rw [zB_f (show ¬ bP 17 i n μ from fun z => absurd z.2.1 (Int32.not_le.mpr h5))], rfl⟩
      | exact ⟨by rw [zB_f (show ¬ bP 17 i n μ from fun z => absurd z.1 (Int32.not_le.mpr h1))], rfl⟩
  · refine zb S_hasPlaces_s4 rfl ?_
    refine z_lt S_hasPlaces_d5 (tgt := 30) rfl (fun h5 => ?_) (fun h5 => ?_)
    · refine zb S_hasPlaces_s30 rfl ?_
      refine z_retZ S_hasPlaces_d31 rfl (by first | exact Or.inl rfl | exact Or.inr rfl) ?_
      first
        | exact ⟨by rw [zB_t (show bP 17 i n μ from And.intro (Int32.not_lt.mp h1) (And.intro (Int32.not_lt.mp h5) (And.intro (Int32.not_lt.mp h13) (Int32.not_lt.mp h23))))], rfl⟩
        | exact ⟨by rw [zB_f (show ¬ bP 17 i n μ from fun z => absurd z.2.2.2 (Int32.not_le.mpr h23))], rfl⟩
        | exact ⟨by rw [zB_f (show ¬ bP 17 i n μ from fun z => absurd z.2.2.1 (Int32.not_le.mpr h13))], rfl⟩
        | exact ⟨by rw [zB_f (show ¬ bP 17 i n μ from fun z => absurd z.2.1 (Int32.not_le.mpr h5))], rfl⟩
        | exact ⟨by rw [zB_f (show ¬ bP 17 i n μ from fun z => absurd z.1 (Int32.not_le.mpr h1))], rfl⟩
    · refine zb S_hasPlaces_s8 rfl ?_
      refine z_cgt S_hasPlaces_d13 (tgt := 30) rfl (fun h13 => ?_) (fun h13 => ?_)
      · refine zb S_hasPlaces_s30 rfl ?_
        refine z_retZ S_hasPlaces_d31 rfl (by first | exact Or.inl rfl | exact Or.inr rfl) ?_
        first
          | exact ⟨by rw [zB_t (show bP 17 i n μ from And.intro (Int32.not_lt.mp h1) (And.intro (Int32.not_lt.mp h5) (And.intro (Int32.not_lt.mp h13) (Int32.not_lt.mp h23))))], rfl⟩
          | exact ⟨by rw [zB_f (show ¬ bP 17 i n μ from fun z => absurd z.2.2.2 (Int32.not_le.mpr h23))], rfl⟩
          | exact ⟨by rw [zB_f (show ¬ bP 17 i n μ from fun z => absurd z.2.2.1 (Int32.not_le.mpr h13))], rfl⟩
          | exact ⟨by rw [zB_f (show ¬ bP 17 i n μ from fun z => absurd z.2.1 (Int32.not_le.mpr h5))], rfl⟩
          | exact ⟨by rw [zB_f (show ¬ bP 17 i n μ from fun z => absurd z.1 (Int32.not_le.mpr h1))], rfl⟩
      · refine zb S_hasPlaces_s16 rfl ?_
        refine z_cgt S_hasPlaces_d23 (tgt := 30) rfl (fun h23 => ?_) (fun h23 => ?_)
        · refine zb S_hasPlaces_s30 rfl ?_
          refine z_retZ S_hasPlaces_d31 rfl (by first | exact Or.inl rfl | exact Or.inr rfl) ?_
          first
            | exact ⟨by rw [zB_t (show bP 17 i n μ from And.intro (Int32.not_lt.mp h1) (And.intro (Int32.not_lt.mp h5) (And.intro (Int32.not_lt.mp h13) (Int32.not_lt.mp h23))))], rfl⟩
            | exact ⟨by rw [zB_f (show ¬ bP 17 i n μ from fun z => absurd z.2.2.2 (Int32.not_le.mpr h23))], rfl⟩
            | exact ⟨by rw [zB_f (show ¬ bP 17 i n μ from fun z => absurd z.2.2.1 (Int32.not_le.mpr h13))], rfl⟩
            | exact ⟨by rw [zB_f (show ¬ bP 17 i n μ from fun z => absurd z.2.1 (Int32.not_le.mpr h5))], rfl⟩
            | exact ⟨by rw [zB_f (show ¬ bP 17 i n μ from fun z => absurd z.1 (Int32.not_le.mpr h1))], rfl⟩
        · refine zb S_hasPlaces_s26 rfl ?_
          refine z_retZ S_hasPlaces_d31 rfl (by first | exact Or.inl rfl | exact Or.inr rfl) ?_
          first
            | exact ⟨by rw [zB_t (show bP 17 i n μ from And.intro (Int32.not_lt.mp h1) (And.intro (Int32.not_lt.mp h5) (And.intro (Int32.not_lt.mp h13) (Int32.not_lt.mp h23))))], rfl⟩
            | exact ⟨by rw [zB_f (show ¬ bP 17 i n μ from fun z => absurd z.2.2.2 (Int32.not_le.mpr h23))], rfl⟩
            | exact ⟨by rw [zB_f (show ¬ bP 17 i n μ from fun z => absurd z.2.2.1 (Int32.not_le.mpr h13))], rfl⟩
            | exact ⟨by rw [zB_f (show ¬ bP 17 i n μ from fun z => absurd z.2.1 (Int32.not_le.mpr h5))], rfl⟩
            | exact ⟨by rw [zB_f (show ¬ bP 17 i n μ from fun z => absurd z.1 (Int32.not_le.mpr h1))], rfl⟩

set_option maxRecDepth 100000 in
set_option maxHeartbeats 4000000 in
theorem x_refAt_4 {g : zG} {d : Nat} {μ : zMem} (i : Int32) (hd : 1 ≤ d) : zM g d S_refusalAt [.ref 17, .int i] μ (fun r μ' => r = some (.int (if bE 17 μ then -11 else if ¬ bR 17 μ then -12 else if bP 17 i 1 μ then 0 else -13)) ∧ μ' = μ) := by
  refine zM_of (by decide +kernel) rfl rfl (Nat.le_of_ble_eq_true rfl) rfl ?_
  refine zb S_refusalAt_s0 rfl ?_
  refine zcallV S_refusalAt_d1 k8_29 (by omega) (x_isEmpty_4) rfl rfl rfl (Nat.le_of_ble_eq_true rfl) ?_
  rintro _ μx ⟨rfl, hx⟩
  rw [hx]
  clear hx μx
  refine z_eq S_refusalAt_d4 (tgt := 10) rfl (fun h4 => ?_) (fun h4 => ?_)
  · refine zb S_refusalAt_s10 rfl ?_
    refine zcallV S_refusalAt_d11 k8_22 (by omega) (x_isRow_4) rfl rfl rfl (Nat.le_of_ble_eq_true rfl) ?_
    rintro _ μx ⟨rfl, hx⟩
    rw [hx]
    clear hx μx
    refine z_ne S_refusalAt_d14 (tgt := 20) rfl (fun h14 => ?_) (fun h14 => ?_)
    · refine zb S_refusalAt_s20 rfl ?_
      refine zcallV S_refusalAt_d23 k8_36 (by omega) (x_hasPlaces_4 _ _) rfl rfl rfl (Nat.le_of_ble_eq_true rfl) ?_
      rintro _ μx ⟨rfl, hx⟩
      rw [hx]
      clear hx μx
      refine z_eq S_refusalAt_d26 (tgt := 33) rfl (fun h26 => ?_) (fun h26 => ?_)
      · refine zb S_refusalAt_s33 rfl ?_
        refine z_ret S_refusalAt_d35 rfl ?_
        refine ⟨congrArg (fun z => some (Value.int z)) ?_, rfl⟩
        first
          | rw [if_pos (zB_ne0.mp h4)]
          | rw [if_neg (zB_eq0.mp h4), if_pos (zB_eq0.mp h14)]
          | rw [if_neg (zB_eq0.mp h4), if_neg (fun z => z (zB_ne0.mp h14)), if_pos (zB_ne0.mp h26)]
          | rw [if_neg (zB_eq0.mp h4), if_neg (fun z => z (zB_ne0.mp h14)), if_neg (zB_eq0.mp h26)]
      · refine zb S_refusalAt_s29 rfl ?_
        refine z_ret S_refusalAt_d35 rfl ?_
        refine ⟨congrArg (fun z => some (Value.int z)) ?_, rfl⟩
        first
          | rw [if_pos (zB_ne0.mp h4)]
          | rw [if_neg (zB_eq0.mp h4), if_pos (zB_eq0.mp h14)]
          | rw [if_neg (zB_eq0.mp h4), if_neg (fun z => z (zB_ne0.mp h14)), if_pos (zB_ne0.mp h26)]
          | rw [if_neg (zB_eq0.mp h4), if_neg (fun z => z (zB_ne0.mp h14)), if_neg (zB_eq0.mp h26)]
    · refine zb S_refusalAt_s17 rfl ?_
      refine z_ret S_refusalAt_d19 rfl ?_
      refine ⟨congrArg (fun z => some (Value.int z)) ?_, rfl⟩
      first
        | rw [if_pos (zB_ne0.mp h4)]
        | rw [if_neg (zB_eq0.mp h4), if_pos (zB_eq0.mp h14)]
        | rw [if_neg (zB_eq0.mp h4), if_neg (fun z => z (zB_ne0.mp h14)), if_pos (zB_ne0.mp h26)]
        | rw [if_neg (zB_eq0.mp h4), if_neg (fun z => z (zB_ne0.mp h14)), if_neg (zB_eq0.mp h26)]
  · refine zb S_refusalAt_s7 rfl ?_
    refine z_ret S_refusalAt_d9 rfl ?_
    refine ⟨congrArg (fun z => some (Value.int z)) ?_, rfl⟩
    first
      | rw [if_pos (zB_ne0.mp h4)]
      | rw [if_neg (zB_eq0.mp h4), if_pos (zB_eq0.mp h14)]
      | rw [if_neg (zB_eq0.mp h4), if_neg (fun z => z (zB_ne0.mp h14)), if_pos (zB_ne0.mp h26)]
      | rw [if_neg (zB_eq0.mp h4), if_neg (fun z => z (zB_ne0.mp h14)), if_neg (zB_eq0.mp h26)]

set_option maxRecDepth 100000 in
set_option maxHeartbeats 4000000 in
theorem x_clear_4 {g : zG} {d : Nat} {μ : zMem} : zM g d S_clear [.ref 17] μ (fun r μ' => r = none ∧ μ' = clr 17 μ) := by
  refine zM_of (by decide +kernel) rfl rfl (Nat.le_of_ble_eq_true rfl) rfl ?_
  refine zb S_clear_s0 rfl ?_
  refine z_retV S_clear_d15 rfl ?_
  exact ⟨rfl, rfl⟩

set_option maxRecDepth 100000 in
set_option maxHeartbeats 4000000 in
theorem x_hold_4 {g : zG} {d : Nat} {μ : zMem} (b : Int32) (hd : 1 ≤ d) : zM g d S_hold [.ref 17, .int b] μ (fun r μ' => r = none ∧ μ' = zpI (clr 17 μ) 17 1 b) := by
  refine zM_of (by decide +kernel) rfl rfl (Nat.le_of_ble_eq_true rfl) rfl ?_
  refine zb S_hold_s0 rfl ?_
  refine zcallV S_hold_d1 k8_40 (by omega) (x_clear_4) rfl rfl rfl (Nat.le_of_ble_eq_true rfl) ?_
  rintro _ μx ⟨rfl, hx⟩
  rw [hx]
  clear hx μx
  refine zb S_hold_s4 rfl ?_
  refine z_retV S_hold_d9 rfl ?_
  exact ⟨rfl, rfl⟩

set_option maxRecDepth 100000 in
set_option maxHeartbeats 4000000 in
theorem w_fillL_4 {g : zG} {d : Nat} {x : Int64} {μ0 : zMem} : ∀ (j i : Nat) (μ : zMem), i + j = 60 → (μ.1 = μ0.1 ∧ μ.2.2 = μ0.2.2 ∧ (∀ c, ¬ c = 23 → μ.2.1 c = μ0.2.1 c) ∧ ∀ k, k < i → μ.2.1 23 k = x) → zW g J_fillAJ d 6 [some (.ref 23), some (.long x), none, some (.int (nI i)), some (.int 60)] [] μ (fun r μ' => r = none ∧ μ'.1 = μ0.1 ∧ μ'.2.2 = μ0.2.2 ∧ (∀ c, ¬ c = 23 → μ'.2.1 c = μ0.2.1 c) ∧ ∀ k, k < 60 → μ'.2.1 23 k = x) := by
  intro j
  induction j with
  | zero =>
    intro i  μ hi  hv0
    have hi : 60 = i := by omega
    subst hi
    refine zb J_fillAJ_s6 rfl ?_
    refine z_cge J_fillAJ_d9 (tgt := 22) rfl (fun h9 => ?_) (fun h9 => absurd (show 60 ≤ nI (60) by first | exact Int32.le_refl _ | (rw [hbd]; exact Int32.le_refl _)) h9)
    refine z_retV J_fillAJ_d22 rfl ?_
    exact ⟨rfl, hv0⟩
  | succ j ih =>
    intro i  μ hi  hv0
    have hilt : i < 60 := by omega
    have ei : (nI i).toNatClampNeg = i := nI_clamp (by omega)
    refine zb J_fillAJ_s6 rfl ?_
    refine z_cge J_fillAJ_d9 (tgt := 22) rfl (fun h9 => absurd h9 (show ¬ 60 ≤ nI i by first | exact nI_ge (b := 60) hilt (by omega) | (rw [hbd]; exact nI_ge hilt (by omega)))) (fun h9 => ?_)
    refine zb1 J_fillAJ_s12 rfl (vp_in_nI hilt (by omega)) ?_
    rw [nI_1, ei]
    refine ih (i + 1) _ (by omega) ⟨hv0.1, hv0.2.1, fun c hc => ?_, fun k hk => ?_⟩
    · rw [zpL_ne hc]
      exact hv0.2.2.1 c hc
    · rw [zpL_at]
      by_cases y : k = i
      · rw [if_pos y]
      · rw [if_neg y]
        exact hv0.2.2.2 k (by omega)

set_option maxRecDepth 100000 in
set_option maxHeartbeats 4000000 in
theorem x_fillL_4 {g : zG} {d : Nat} {μ : zMem} (x : Int64) : zM g d J_fillAJ [.ref 23, .long x] μ (fun r μ' => r = none ∧ μ'.1 = μ.1 ∧ μ'.2.2 = μ.2.2 ∧ (∀ c, ¬ c = 23 → μ'.2.1 c = μ.2.1 c) ∧ ∀ k, k < 60 → μ'.2.1 23 k = x) := by
  refine zM_of (by decide +kernel) rfl rfl (Nat.le_of_ble_eq_true rfl) rfl ?_
  refine zb J_fillAJ_s0 rfl ?_
  exact w_fillL_4 (μ0 := μ) 60 0 μ (by omega) ⟨rfl, rfl, fun _ _ => rfl, fun k hk => by omega⟩

set_option maxRecDepth 100000 in
set_option maxHeartbeats 4000000 in
theorem x_lay_4 {g : zG} {d : Nat} {μ : zMem} (p n : Int32) (hd : 1 ≤ d) : zM g d S_lay [.ref 17, .int p, .int n] μ (fun r μ' => r = none ∧ μ'.1 = (zpI (zpI (clr 17 μ) 17 2 p) 17 3 n).1 ∧ μ'.2.2 = μ.2.2 ∧ (∀ c, ¬ c = 23 → μ'.2.1 c = μ.2.1 c) ∧ ∀ k, k < 60 → μ'.2.1 23 k = 0) := by
  refine zM_of (by decide +kernel) rfl rfl (Nat.le_of_ble_eq_true rfl) rfl ?_
  refine zb S_lay_s0 rfl ?_
  refine zcallV S_lay_d1 k8_40 (by omega) (x_clear_4) rfl rfl rfl (Nat.le_of_ble_eq_true rfl) ?_
  rintro _ μx ⟨rfl, hx⟩
  rw [hx]
  clear hx μx
  refine zb S_lay_s4 rfl ?_
  refine zcallS S_lay_d19 k8_43 (by omega) (x_fillL_4 _) rfl rfl (Nat.le_of_ble_eq_true rfl) ?_
  rintro _ μ1 ⟨rfl, a1, a2, a3, a4⟩
  refine z_retV S_lay_d22 rfl ?_
  exact ⟨rfl, a1, a2, a3, a4⟩

set_option maxRecDepth 100000 in
set_option maxHeartbeats 4000000 in
theorem x_shelf_5 {g : zG} {d : Nat} {μ : zMem} (hd : 1 ≤ d) : zM g d X_shelfAt [.ref 1, .int (nI 5)] μ (fun r μ' => r = some (.ref 18) ∧ μ' = μ) := by
  refine zM_of (by decide +kernel) rfl rfl (Nat.le_of_ble_eq_true rfl) rfl ?_
  refine zb X_shelfAt_s0 rfl ?_
  refine zcallS X_shelfAt_d2 k10_170 (by omega) (x_isWithin _ _) rfl rfl (Nat.le_of_ble_eq_true rfl) ?_
  rintro _ μx ⟨rfl, hx⟩
  rw [hx]
  clear hx μx
  refine z_eq X_shelfAt_d5 (tgt := 17) rfl (fun h5 => absurd h5 (by decide)) (fun h5 => ?_)
  refine zb1 X_shelfAt_s8 rfl (vp_in_nI (n := 5) (by omega) (by omega)) ?_
  refine z_retA X_shelfAt_d18 rfl (by first | exact Or.inl ⟨_, rfl⟩ | exact Or.inr ⟨_, rfl⟩) ?_
  exact ⟨rfl, rfl⟩

set_option maxRecDepth 100000 in
set_option maxHeartbeats 4000000 in
theorem x_isEmpty_5 {g : zG} {d : Nat} {μ : zMem} : zM g d S_isEmpty [.ref 18] μ (fun r μ' => r = some (.int (zB (bE 18 μ))) ∧ μ' = μ) := by
  refine zM_of (by decide +kernel) rfl rfl (Nat.le_of_ble_eq_true rfl) rfl ?_
  refine zb S_isEmpty_s0 rfl ?_
  refine z_cne S_isEmpty_d5 (tgt := 20) rfl (fun h5 => ?_) (fun h5 => ?_)
  · refine zb S_isEmpty_s20 rfl ?_
    refine z_retZ S_isEmpty_d21 rfl (by first | exact Or.inl rfl | exact Or.inr rfl) ?_
    first
      | exact ⟨by rw [zB_t (show bE 18 μ from And.intro h5 h13)], rfl⟩
      | exact ⟨by rw [zB_f (show ¬ bE 18 μ from fun z => h5 z.1)], rfl⟩
      | exact ⟨by rw [zB_f (show ¬ bE 18 μ from fun z => h13 z.2)], rfl⟩
  · refine zb S_isEmpty_s8 rfl ?_
    refine z_cne S_isEmpty_d13 (tgt := 20) rfl (fun h13 => ?_) (fun h13 => ?_)
    · refine zb S_isEmpty_s20 rfl ?_
      refine z_retZ S_isEmpty_d21 rfl (by first | exact Or.inl rfl | exact Or.inr rfl) ?_
      first
        | exact ⟨by rw [zB_t (show bE 18 μ from And.intro h5 h13)], rfl⟩
        | exact ⟨by rw [zB_f (show ¬ bE 18 μ from fun z => h5 z.1)], rfl⟩
        | exact ⟨by rw [zB_f (show ¬ bE 18 μ from fun z => h13 z.2)], rfl⟩
    · refine zb S_isEmpty_s16 rfl ?_
      refine z_retZ S_isEmpty_d21 rfl (by first | exact Or.inl rfl | exact Or.inr rfl) ?_
      first
        | exact ⟨by rw [zB_t (show bE 18 μ from And.intro h5 h13)], rfl⟩
        | exact ⟨by rw [zB_f (show ¬ bE 18 μ from fun z => h5 z.1)], rfl⟩
        | exact ⟨by rw [zB_f (show ¬ bE 18 μ from fun z => h13 z.2)], rfl⟩

set_option maxRecDepth 100000 in
set_option maxHeartbeats 4000000 in
theorem x_isRow_5 {g : zG} {d : Nat} {μ : zMem} : zM g d S_isRow [.ref 18] μ (fun r μ' => r = some (.int (zB (bR 18 μ))) ∧ μ' = μ) := by
  refine zM_of (by decide +kernel) rfl rfl (Nat.le_of_ble_eq_true rfl) rfl ?_
  refine zb S_isRow_s0 rfl ?_
  refine z_ceq S_isRow_d5 (tgt := 12) rfl (fun h5 => ?_) (fun h5 => ?_)
  · refine zb S_isRow_s12 rfl ?_
    refine z_retZ S_isRow_d13 rfl (by first | exact Or.inl rfl | exact Or.inr rfl) ?_
    first
      | exact ⟨by rw [zB_t (show bR 18 μ from h5)], rfl⟩
      | exact ⟨by rw [zB_f (show ¬ bR 18 μ from fun z => z h5)], rfl⟩
  · refine zb S_isRow_s8 rfl ?_
    refine z_retZ S_isRow_d13 rfl (by first | exact Or.inl rfl | exact Or.inr rfl) ?_
    first
      | exact ⟨by rw [zB_t (show bR 18 μ from h5)], rfl⟩
      | exact ⟨by rw [zB_f (show ¬ bR 18 μ from fun z => z h5)], rfl⟩

set_option maxRecDepth 100000 in
set_option maxHeartbeats 4000000 in
theorem x_isRowOf_5 {g : zG} {d : Nat} {μ : zMem} (p : Int32) (hd : 1 ≤ d) : zM g d S_isRowOf [.ref 18, .int p] μ (fun r μ' => r = some (.int (zB (bR 18 μ ∧ μ.1 18 2 = p))) ∧ μ' = μ) := by
  refine zM_of (by decide +kernel) rfl rfl (Nat.le_of_ble_eq_true rfl) rfl ?_
  refine zb S_isRowOf_s0 rfl ?_
  refine zcallV S_isRowOf_d1 k8_22 (by omega) (x_isRow_5) rfl rfl rfl (Nat.le_of_ble_eq_true rfl) ?_
  rintro _ μx ⟨rfl, hx⟩
  rw [hx]
  clear hx μx
  refine z_eq S_isRowOf_d4 (tgt := 19) rfl (fun h4 => ?_) (fun h4 => ?_)
  · refine zb S_isRowOf_s19 rfl ?_
    refine z_retZ S_isRowOf_d20 rfl (by first | exact Or.inl rfl | exact Or.inr rfl) ?_
    first
      | exact ⟨by rw [zB_t (And.intro (zB_ne0.mp h4) h12)], rfl⟩
      | exact ⟨by rw [zB_f (fun z => h12 z.2)], rfl⟩
      | exact ⟨by rw [zB_f (fun z => (zB_eq0.mp h4) z.1)], rfl⟩
  · refine zb S_isRowOf_s7 rfl ?_
    refine z_cne S_isRowOf_d12 (tgt := 19) rfl (fun h12 => ?_) (fun h12 => ?_)
    · refine zb S_isRowOf_s19 rfl ?_
      refine z_retZ S_isRowOf_d20 rfl (by first | exact Or.inl rfl | exact Or.inr rfl) ?_
      first
        | exact ⟨by rw [zB_t (And.intro (zB_ne0.mp h4) h12)], rfl⟩
        | exact ⟨by rw [zB_f (fun z => h12 z.2)], rfl⟩
        | exact ⟨by rw [zB_f (fun z => (zB_eq0.mp h4) z.1)], rfl⟩
    · refine zb S_isRowOf_s15 rfl ?_
      refine z_retZ S_isRowOf_d20 rfl (by first | exact Or.inl rfl | exact Or.inr rfl) ?_
      first
        | exact ⟨by rw [zB_t (And.intro (zB_ne0.mp h4) h12)], rfl⟩
        | exact ⟨by rw [zB_f (fun z => h12 z.2)], rfl⟩
        | exact ⟨by rw [zB_f (fun z => (zB_eq0.mp h4) z.1)], rfl⟩

set_option maxRecDepth 100000 in
set_option maxHeartbeats 4000000 in
theorem x_hasPlaces_5 {g : zG} {d : Nat} {μ : zMem} (i n : Int32) : zM g d S_hasPlaces [.ref 18, .int i, .int n] μ (fun r μ' => r = some (.int (zB (bP 18 i n μ))) ∧ μ' = μ) := by
  refine zM_of (by decide +kernel) rfl rfl (Nat.le_of_ble_eq_true rfl) rfl ?_
  refine zb S_hasPlaces_s0 rfl ?_
  refine z_lt S_hasPlaces_d1 (tgt := 30) rfl (fun h1 => ?_) (fun h1 => ?_)
  · refine zb S_hasPlaces_s30 rfl ?_
    refine z_retZ S_hasPlaces_d31 rfl (by first | exact Or.inl rfl | exact Or.inr rfl) ?_
    first
      | exact ⟨by rw [zB_t (show bP 18 i n μ from And.intro (Int32.not_lt.mp h1) (And.intro (Int32.not_lt.mp h5) (And.intro (Int32.not_lt.mp h13) (Int32.not_lt.mp h23))))], rfl⟩
      | exact ⟨by rw [zB_f (show ¬ bP 18 i n μ from fun z => absurd z.2.2.2 (Int32.not_le.mpr h23))], rfl⟩
      | exact ⟨by rw [zB_f (show ¬ bP 18 i n μ from fun z => absurd z.2.2.1 (Int32.not_le.mpr h13))], rfl⟩
      | exact ⟨by rw [zB_f (show ¬ bP 18 i n μ from fun z => absurd z.2.1 (Int32.not_le.mpr h5))], rfl⟩
      | exact ⟨by rw [zB_f (show ¬ bP 18 i n μ from fun z => absurd z.1 (Int32.not_le.mpr h1))], rfl⟩
  · refine zb S_hasPlaces_s4 rfl ?_
    refine z_lt S_hasPlaces_d5 (tgt := 30) rfl (fun h5 => ?_) (fun h5 => ?_)
    · refine zb S_hasPlaces_s30 rfl ?_
      refine z_retZ S_hasPlaces_d31 rfl (by first | exact Or.inl rfl | exact Or.inr rfl) ?_
      first
        | exact ⟨by rw [zB_t (show bP 18 i n μ from And.intro (Int32.not_lt.mp h1) (And.intro (Int32.not_lt.mp h5) (And.intro (Int32.not_lt.mp h13) (Int32.not_lt.mp h23))))], rfl⟩
        | exact ⟨by rw [zB_f (show ¬ bP 18 i n μ from fun z => absurd z.2.2.2 (Int32.not_le.mpr h23))], rfl⟩
        | exact ⟨by rw [zB_f (show ¬ bP 18 i n μ from fun z => absurd z.2.2.1 (Int32.not_le.mpr h13))], rfl⟩
        | exact ⟨by rw [zB_f (show ¬ bP 18 i n μ from fun z => absurd z.2.1 (Int32.not_le.mpr h5))], rfl⟩
        | exact ⟨by rw [zB_f (show ¬ bP 18 i n μ from fun z => absurd z.1 (Int32.not_le.mpr h1))], rfl⟩
    · refine zb S_hasPlaces_s8 rfl ?_
      refine z_cgt S_hasPlaces_d13 (tgt := 30) rfl (fun h13 => ?_) (fun h13 => ?_)
      · refine zb S_hasPlaces_s30 rfl ?_
        refine z_retZ S_hasPlaces_d31 rfl (by first | exact Or.inl rfl | exact Or.inr rfl) ?_
        first
          | exact ⟨by rw [zB_t (show bP 18 i n μ from And.intro (Int32.not_lt.mp h1) (And.intro (Int32.not_lt.mp h5) (And.intro (Int32.not_lt.mp h13) (Int32.not_lt.mp h23))))], rfl⟩
          | exact ⟨by rw [zB_f (show ¬ bP 18 i n μ from fun z => absurd z.2.2.2 (Int32.not_le.mpr h23))], rfl⟩
          | exact ⟨by rw [zB_f (show ¬ bP 18 i n μ from fun z => absurd z.2.2.1 (Int32.not_le.mpr h13))], rfl⟩
          | exact ⟨by rw [zB_f (show ¬ bP 18 i n μ from fun z => absurd z.2.1 (Int32.not_le.mpr h5))], rfl⟩
          | exact ⟨by rw [zB_f (show ¬ bP 18 i n μ from fun z => absurd z.1 (Int32.not_le.mpr h1))], rfl⟩
      · refine zb S_hasPlaces_s16 rfl ?_
        refine z_cgt S_hasPlaces_d23 (tgt := 30) rfl (fun h23 => ?_) (fun h23 => ?_)
        · refine zb S_hasPlaces_s30 rfl ?_
          refine z_retZ S_hasPlaces_d31 rfl (by first | exact Or.inl rfl | exact Or.inr rfl) ?_
          first
            | exact ⟨by rw [zB_t (show bP 18 i n μ from And.intro (Int32.not_lt.mp h1) (And.intro (Int32.not_lt.mp h5) (And.intro (Int32.not_lt.mp h13) (Int32.not_lt.mp h23))))], rfl⟩
            | exact ⟨by rw [zB_f (show ¬ bP 18 i n μ from fun z => absurd z.2.2.2 (Int32.not_le.mpr h23))], rfl⟩
            | exact ⟨by rw [zB_f (show ¬ bP 18 i n μ from fun z => absurd z.2.2.1 (Int32.not_le.mpr h13))], rfl⟩
            | exact ⟨by rw [zB_f (show ¬ bP 18 i n μ from fun z => absurd z.2.1 (Int32.not_le.mpr h5))], rfl⟩
            | exact ⟨by rw [zB_f (show ¬ bP 18 i n μ from fun z => absurd z.1 (Int32.not_le.mpr h1))], rfl⟩
        · refine zb S_hasPlaces_s26 rfl ?_
          refine z_retZ S_hasPlaces_d31 rfl (by first | exact Or.inl rfl | exact Or.inr rfl) ?_
          first
            | exact ⟨by rw [zB_t (show bP 18 i n μ from And.intro (Int32.not_lt.mp h1) (And.intro (Int32.not_lt.mp h5) (And.intro (Int32.not_lt.mp h13) (Int32.not_lt.mp h23))))], rfl⟩
            | exact ⟨by rw [zB_f (show ¬ bP 18 i n μ from fun z => absurd z.2.2.2 (Int32.not_le.mpr h23))], rfl⟩
            | exact ⟨by rw [zB_f (show ¬ bP 18 i n μ from fun z => absurd z.2.2.1 (Int32.not_le.mpr h13))], rfl⟩
            | exact ⟨by rw [zB_f (show ¬ bP 18 i n μ from fun z => absurd z.2.1 (Int32.not_le.mpr h5))], rfl⟩
            | exact ⟨by rw [zB_f (show ¬ bP 18 i n μ from fun z => absurd z.1 (Int32.not_le.mpr h1))], rfl⟩

set_option maxRecDepth 100000 in
set_option maxHeartbeats 4000000 in
theorem x_refAt_5 {g : zG} {d : Nat} {μ : zMem} (i : Int32) (hd : 1 ≤ d) : zM g d S_refusalAt [.ref 18, .int i] μ (fun r μ' => r = some (.int (if bE 18 μ then -11 else if ¬ bR 18 μ then -12 else if bP 18 i 1 μ then 0 else -13)) ∧ μ' = μ) := by
  refine zM_of (by decide +kernel) rfl rfl (Nat.le_of_ble_eq_true rfl) rfl ?_
  refine zb S_refusalAt_s0 rfl ?_
  refine zcallV S_refusalAt_d1 k8_29 (by omega) (x_isEmpty_5) rfl rfl rfl (Nat.le_of_ble_eq_true rfl) ?_
  rintro _ μx ⟨rfl, hx⟩
  rw [hx]
  clear hx μx
  refine z_eq S_refusalAt_d4 (tgt := 10) rfl (fun h4 => ?_) (fun h4 => ?_)
  · refine zb S_refusalAt_s10 rfl ?_
    refine zcallV S_refusalAt_d11 k8_22 (by omega) (x_isRow_5) rfl rfl rfl (Nat.le_of_ble_eq_true rfl) ?_
    rintro _ μx ⟨rfl, hx⟩
    rw [hx]
    clear hx μx
    refine z_ne S_refusalAt_d14 (tgt := 20) rfl (fun h14 => ?_) (fun h14 => ?_)
    · refine zb S_refusalAt_s20 rfl ?_
      refine zcallV S_refusalAt_d23 k8_36 (by omega) (x_hasPlaces_5 _ _) rfl rfl rfl (Nat.le_of_ble_eq_true rfl) ?_
      rintro _ μx ⟨rfl, hx⟩
      rw [hx]
      clear hx μx
      refine z_eq S_refusalAt_d26 (tgt := 33) rfl (fun h26 => ?_) (fun h26 => ?_)
      · refine zb S_refusalAt_s33 rfl ?_
        refine z_ret S_refusalAt_d35 rfl ?_
        refine ⟨congrArg (fun z => some (Value.int z)) ?_, rfl⟩
        first
          | rw [if_pos (zB_ne0.mp h4)]
          | rw [if_neg (zB_eq0.mp h4), if_pos (zB_eq0.mp h14)]
          | rw [if_neg (zB_eq0.mp h4), if_neg (fun z => z (zB_ne0.mp h14)), if_pos (zB_ne0.mp h26)]
          | rw [if_neg (zB_eq0.mp h4), if_neg (fun z => z (zB_ne0.mp h14)), if_neg (zB_eq0.mp h26)]
      · refine zb S_refusalAt_s29 rfl ?_
        refine z_ret S_refusalAt_d35 rfl ?_
        refine ⟨congrArg (fun z => some (Value.int z)) ?_, rfl⟩
        first
          | rw [if_pos (zB_ne0.mp h4)]
          | rw [if_neg (zB_eq0.mp h4), if_pos (zB_eq0.mp h14)]
          | rw [if_neg (zB_eq0.mp h4), if_neg (fun z => z (zB_ne0.mp h14)), if_pos (zB_ne0.mp h26)]
          | rw [if_neg (zB_eq0.mp h4), if_neg (fun z => z (zB_ne0.mp h14)), if_neg (zB_eq0.mp h26)]
    · refine zb S_refusalAt_s17 rfl ?_
      refine z_ret S_refusalAt_d19 rfl ?_
      refine ⟨congrArg (fun z => some (Value.int z)) ?_, rfl⟩
      first
        | rw [if_pos (zB_ne0.mp h4)]
        | rw [if_neg (zB_eq0.mp h4), if_pos (zB_eq0.mp h14)]
        | rw [if_neg (zB_eq0.mp h4), if_neg (fun z => z (zB_ne0.mp h14)), if_pos (zB_ne0.mp h26)]
        | rw [if_neg (zB_eq0.mp h4), if_neg (fun z => z (zB_ne0.mp h14)), if_neg (zB_eq0.mp h26)]
  · refine zb S_refusalAt_s7 rfl ?_
    refine z_ret S_refusalAt_d9 rfl ?_
    refine ⟨congrArg (fun z => some (Value.int z)) ?_, rfl⟩
    first
      | rw [if_pos (zB_ne0.mp h4)]
      | rw [if_neg (zB_eq0.mp h4), if_pos (zB_eq0.mp h14)]
      | rw [if_neg (zB_eq0.mp h4), if_neg (fun z => z (zB_ne0.mp h14)), if_pos (zB_ne0.mp h26)]
      | rw [if_neg (zB_eq0.mp h4), if_neg (fun z => z (zB_ne0.mp h14)), if_neg (zB_eq0.mp h26)]

set_option maxRecDepth 100000 in
set_option maxHeartbeats 4000000 in
theorem x_clear_5 {g : zG} {d : Nat} {μ : zMem} : zM g d S_clear [.ref 18] μ (fun r μ' => r = none ∧ μ' = clr 18 μ) := by
  refine zM_of (by decide +kernel) rfl rfl (Nat.le_of_ble_eq_true rfl) rfl ?_
  refine zb S_clear_s0 rfl ?_
  refine z_retV S_clear_d15 rfl ?_
  exact ⟨rfl, rfl⟩

set_option maxRecDepth 100000 in
set_option maxHeartbeats 4000000 in
theorem x_hold_5 {g : zG} {d : Nat} {μ : zMem} (b : Int32) (hd : 1 ≤ d) : zM g d S_hold [.ref 18, .int b] μ (fun r μ' => r = none ∧ μ' = zpI (clr 18 μ) 18 1 b) := by
  refine zM_of (by decide +kernel) rfl rfl (Nat.le_of_ble_eq_true rfl) rfl ?_
  refine zb S_hold_s0 rfl ?_
  refine zcallV S_hold_d1 k8_40 (by omega) (x_clear_5) rfl rfl rfl (Nat.le_of_ble_eq_true rfl) ?_
  rintro _ μx ⟨rfl, hx⟩
  rw [hx]
  clear hx μx
  refine zb S_hold_s4 rfl ?_
  refine z_retV S_hold_d9 rfl ?_
  exact ⟨rfl, rfl⟩

set_option maxRecDepth 100000 in
set_option maxHeartbeats 4000000 in
theorem w_fillL_5 {g : zG} {d : Nat} {x : Int64} {μ0 : zMem} : ∀ (j i : Nat) (μ : zMem), i + j = 60 → (μ.1 = μ0.1 ∧ μ.2.2 = μ0.2.2 ∧ (∀ c, ¬ c = 24 → μ.2.1 c = μ0.2.1 c) ∧ ∀ k, k < i → μ.2.1 24 k = x) → zW g J_fillAJ d 6 [some (.ref 24), some (.long x), none, some (.int (nI i)), some (.int 60)] [] μ (fun r μ' => r = none ∧ μ'.1 = μ0.1 ∧ μ'.2.2 = μ0.2.2 ∧ (∀ c, ¬ c = 24 → μ'.2.1 c = μ0.2.1 c) ∧ ∀ k, k < 60 → μ'.2.1 24 k = x) := by
  intro j
  induction j with
  | zero =>
    intro i  μ hi  hv0
    have hi : 60 = i := by omega
    subst hi
    refine zb J_fillAJ_s6 rfl ?_
    refine z_cge J_fillAJ_d9 (tgt := 22) rfl (fun h9 => ?_) (fun h9 => absurd (show 60 ≤ nI (60) by first | exact Int32.le_refl _ | (rw [hbd]; exact Int32.le_refl _)) h9)
    refine z_retV J_fillAJ_d22 rfl ?_
    exact ⟨rfl, hv0⟩
  | succ j ih =>
    intro i  μ hi  hv0
    have hilt : i < 60 := by omega
    have ei : (nI i).toNatClampNeg = i := nI_clamp (by omega)
    refine zb J_fillAJ_s6 rfl ?_
    refine z_cge J_fillAJ_d9 (tgt := 22) rfl (fun h9 => absurd h9 (show ¬ 60 ≤ nI i by first | exact nI_ge (b := 60) hilt (by omega) | (rw [hbd]; exact nI_ge hilt (by omega)))) (fun h9 => ?_)
    refine zb1 J_fillAJ_s12 rfl (vp_in_nI hilt (by omega)) ?_
    rw [nI_1, ei]
    refine ih (i + 1) _ (by omega) ⟨hv0.1, hv0.2.1, fun c hc => ?_, fun k hk => ?_⟩
    · rw [zpL_ne hc]
      exact hv0.2.2.1 c hc
    · rw [zpL_at]
      by_cases y : k = i
      · rw [if_pos y]
      · rw [if_neg y]
        exact hv0.2.2.2 k (by omega)

set_option maxRecDepth 100000 in
set_option maxHeartbeats 4000000 in
theorem x_fillL_5 {g : zG} {d : Nat} {μ : zMem} (x : Int64) : zM g d J_fillAJ [.ref 24, .long x] μ (fun r μ' => r = none ∧ μ'.1 = μ.1 ∧ μ'.2.2 = μ.2.2 ∧ (∀ c, ¬ c = 24 → μ'.2.1 c = μ.2.1 c) ∧ ∀ k, k < 60 → μ'.2.1 24 k = x) := by
  refine zM_of (by decide +kernel) rfl rfl (Nat.le_of_ble_eq_true rfl) rfl ?_
  refine zb J_fillAJ_s0 rfl ?_
  exact w_fillL_5 (μ0 := μ) 60 0 μ (by omega) ⟨rfl, rfl, fun _ _ => rfl, fun k hk => by omega⟩

set_option maxRecDepth 100000 in
set_option maxHeartbeats 4000000 in
theorem x_lay_5 {g : zG} {d : Nat} {μ : zMem} (p n : Int32) (hd : 1 ≤ d) : zM g d S_lay [.ref 18, .int p, .int n] μ (fun r μ' => r = none ∧ μ'.1 = (zpI (zpI (clr 18 μ) 18 2 p) 18 3 n).1 ∧ μ'.2.2 = μ.2.2 ∧ (∀ c, ¬ c = 24 → μ'.2.1 c = μ.2.1 c) ∧ ∀ k, k < 60 → μ'.2.1 24 k = 0) := by
  refine zM_of (by decide +kernel) rfl rfl (Nat.le_of_ble_eq_true rfl) rfl ?_
  refine zb S_lay_s0 rfl ?_
  refine zcallV S_lay_d1 k8_40 (by omega) (x_clear_5) rfl rfl rfl (Nat.le_of_ble_eq_true rfl) ?_
  rintro _ μx ⟨rfl, hx⟩
  rw [hx]
  clear hx μx
  refine zb S_lay_s4 rfl ?_
  refine zcallS S_lay_d19 k8_43 (by omega) (x_fillL_5 _) rfl rfl (Nat.le_of_ble_eq_true rfl) ?_
  rintro _ μ1 ⟨rfl, a1, a2, a3, a4⟩
  refine z_retV S_lay_d22 rfl ?_
  exact ⟨rfl, a1, a2, a3, a4⟩
