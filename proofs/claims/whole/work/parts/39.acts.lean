/-! the reference: bodies and their acts -/
abbrev zT : Type := Int32 × (Nat → Int32)
def runsF (b : Int32) (t : zT) : zT := (t.1 + 1, if t.1 < 24 then fu t.2 t.1.toNatClampNeg b else t.2)
def aboI (k : Int32) : Int32 := if k = 3 then 2 else if k = 4 then 1 else if k = 5 then 3 else if k = 7 then 4 else if k = 0 then -1 else 0
def aboN (k : Nat) : Nat := if k = 3 then 2 else if k = 4 then 1 else if k = 5 then 3 else if k = 7 then 4 else 0
def rkN (k : Nat) : Nat := zget [0, 1, 1, 2, 2, 3, 1, 3] k 0
theorem rkN_lt {k : Nat} (h : k < 8) (h0 : 0 < k) : rkN (aboN k) < rkN k ∧ aboN k < 8 := by
  have : ∀ k : Fin 8, 0 < k.1 → rkN (aboN k.1) < rkN k.1 ∧ aboN k.1 < 8 := by decide
  exact this ⟨k, h⟩ h0
theorem aboI_N {k : Nat} (h : k < 8) (h0 : 0 < k) : aboI (nI k) = nI (aboN k) := by
  have : ∀ k : Fin 8, 0 < k.1 → aboI (nI k.1) = nI (aboN k.1) := by decide
  exact this ⟨k, h⟩ h0
def ringsF (n : Int32) : Nat → Nat → Int32 → zT → Int32 × zT
  | 0, _, _, t => (0, t)
  | f + 1, k, x, t => if k = 1 then ((ringsF n f (aboN k) x (runsF 20 t)).1 + 3, (ringsF n f (aboN k) x (runsF 20 t)).2) else if k = 6 then ((ringsF n f (aboN k) x (runsF 70 t)).1 * 2, (ringsF n f (aboN k) x (runsF 70 t)).2) else if 0 < k then ringsF n f (aboN k) x t else (x + n, runsF 1 t)
def doingF (n : Int32) (K : Nat) : Nat → Nat → Int32 → zT → Int32 × zT
  | 0, _, _, t => (0, t)
  | f + 1, k, x, t => if k = 3 then ((doingF n K f (aboN k) x (runsF 40 t)).1 * 3, (doingF n K f (aboN k) x (runsF 40 t)).2) else if k = 4 then ((doingF n K f (aboN k) x (runsF 50 t)).1 - (ringsF n 4 K 2 (doingF n K f (aboN k) x (runsF 50 t)).2).1, (ringsF n 4 K 2 (doingF n K f (aboN k) x (runsF 50 t)).2).2) else if 0 < k then doingF n K f (aboN k) x t else (x ^^^ n, runsF 11 t)
def hearsF (n : Int32) (K : Nat) : Nat → Nat → Int32 → zT → Int32 × zT
  | 0, _, _, t => (0, t)
  | f + 1, k, x, t => if k = 2 then (-(hearsF n K f (aboN k) x (runsF 30 t)).1, (hearsF n K f (aboN k) x (runsF 30 t)).2) else if k = 3 then hearsF n K f (aboN k) (x + 1) (runsF 41 t) else if k = 7 then ((hearsF n K f (aboN k) x (runsF 80 t)).1 + (doingF n K 4 K 2 (hearsF n K f (aboN k) x (runsF 80 t)).2).1, (doingF n K 4 K 2 (hearsF n K f (aboN k) x (runsF 80 t)).2).2) else if 0 < k then hearsF n K f (aboN k) x t else ((ringsF n 4 K x (runsF 10 t)).1 * 2, (ringsF n 4 K x (runsF 10 t)).2)
def tellsF (n : Int32) (K : Nat) : Nat → Nat → Int32 → zT → Int32 × zT
  | 0, _, _, t => (0, t)
  | f + 1, k, x, t => if k = 5 then ((tellsF n K f (aboN k) x (runsF 60 t)).1 ^^^ 5, (tellsF n K f (aboN k) x (runsF 60 t)).2) else if k = 7 then ((tellsF n K f (aboN k) x (runsF 81 t)).1 - 1, (tellsF n K f (aboN k) x (runsF 81 t)).2) else if 0 < k then tellsF n K f (aboN k) x t else ((hearsF n K 4 K x (runsF 2 t)).1 - (doingF n K 4 K 1 (hearsF n K 4 K x (runsF 2 t)).2).1, (doingF n K 4 K 1 (hearsF n K 4 K x (runsF 2 t)).2).2)
/-- ran, and what was traced -/
def aT (m : Nat) (t : zT) (μ : zMem) : Prop := μ.1 0 6 = t.1 ∧ (∀ i, i < 24 → μ.1 47 i = t.2 i) ∧ ∃ q : Nat, q ≤ m ∧ t.1 = nI q
def sT (c k : Nat) : Bool := (c == 0 && k == 6) || c == 47
theorem aT.up {m m' : Nat} {t : zT} {μ : zMem} (h : aT m t μ) (hm : m ≤ m') : aT m' t μ := by
  obtain ⟨h1, h2, q, h3, h4⟩ := h
  exact ⟨h1, h2, q, by omega, h4⟩
theorem k46 {μ μ' : zMem} (h : zq sT μ μ') : μ'.1 46 = μ.1 46 := funext fun k => h.1 46 k rfl

set_option maxRecDepth 100000 in
set_option maxHeartbeats 4000000 in
theorem o_above_0 {g : zG} {d : Nat} {μ : zMem} : zM g d M_above [.ref 0, .int (nI 0)] μ (fun r μ' => r = some (.int (aboI (nI 0))) ∧ μ' = μ) := by
  refine zM_of (by decide +kernel) rfl rfl (Nat.le_of_ble_eq_true rfl) rfl ?_
  refine zb M_above_s0 rfl ?_
  refine z_tabOut M_above_d1 (tgt := 44) (Or.inl (by decide)) rfl ?_
  refine zb M_above_s44 rfl ?_
  refine z_ne M_above_d45 (tgt := 52) rfl (fun h45 => absurd rfl h45) (fun h45 => ?_)
  refine zb M_above_s48 rfl ?_
  refine z_ret M_above_d53 rfl ?_
  exact ⟨rfl, rfl⟩

set_option maxRecDepth 100000 in
set_option maxHeartbeats 4000000 in
theorem o_above_1 {g : zG} {d : Nat} {μ : zMem} : zM g d M_above [.ref 0, .int (nI 1)] μ (fun r μ' => r = some (.int (aboI (nI 1))) ∧ μ' = μ) := by
  refine zM_of (by decide +kernel) rfl rfl (Nat.le_of_ble_eq_true rfl) rfl ?_
  refine zb M_above_s0 rfl ?_
  refine z_tabOut M_above_d1 (tgt := 44) (Or.inl (by decide)) rfl ?_
  refine zb M_above_s44 rfl ?_
  refine z_ne M_above_d45 (tgt := 52) rfl (fun h45 => ?_) (fun h45 => absurd h45 (by decide))
  refine zb M_above_s52 rfl ?_
  refine z_ret M_above_d53 rfl ?_
  exact ⟨rfl, rfl⟩

set_option maxRecDepth 100000 in
set_option maxHeartbeats 4000000 in
theorem o_above_2 {g : zG} {d : Nat} {μ : zMem} : zM g d M_above [.ref 0, .int (nI 2)] μ (fun r μ' => r = some (.int (aboI (nI 2))) ∧ μ' = μ) := by
  refine zM_of (by decide +kernel) rfl rfl (Nat.le_of_ble_eq_true rfl) rfl ?_
  refine zb M_above_s0 rfl ?_
  refine z_tabOut M_above_d1 (tgt := 44) (Or.inl (by decide)) rfl ?_
  refine zb M_above_s44 rfl ?_
  refine z_ne M_above_d45 (tgt := 52) rfl (fun h45 => ?_) (fun h45 => absurd h45 (by decide))
  refine zb M_above_s52 rfl ?_
  refine z_ret M_above_d53 rfl ?_
  exact ⟨rfl, rfl⟩

set_option maxRecDepth 100000 in
set_option maxHeartbeats 4000000 in
theorem o_above_3 {g : zG} {d : Nat} {μ : zMem} : zM g d M_above [.ref 0, .int (nI 3)] μ (fun r μ' => r = some (.int (aboI (nI 3))) ∧ μ' = μ) := by
  refine zM_of (by decide +kernel) rfl rfl (Nat.le_of_ble_eq_true rfl) rfl ?_
  refine zb M_above_s0 rfl ?_
  refine z_tabIn M_above_d1 (off := 35) (tgt := 36) (by decide) (by decide) (by decide) rfl ?_
  refine zb M_above_s36 rfl ?_
  refine z_ret M_above_d37 rfl ?_
  exact ⟨rfl, rfl⟩

set_option maxRecDepth 100000 in
set_option maxHeartbeats 4000000 in
theorem o_above_4 {g : zG} {d : Nat} {μ : zMem} : zM g d M_above [.ref 0, .int (nI 4)] μ (fun r μ' => r = some (.int (aboI (nI 4))) ∧ μ' = μ) := by
  refine zM_of (by decide +kernel) rfl rfl (Nat.le_of_ble_eq_true rfl) rfl ?_
  refine zb M_above_s0 rfl ?_
  refine z_tabIn M_above_d1 (off := 37) (tgt := 38) (by decide) (by decide) (by decide) rfl ?_
  refine zb M_above_s38 rfl ?_
  refine z_ret M_above_d39 rfl ?_
  exact ⟨rfl, rfl⟩

set_option maxRecDepth 100000 in
set_option maxHeartbeats 4000000 in
theorem o_above_5 {g : zG} {d : Nat} {μ : zMem} : zM g d M_above [.ref 0, .int (nI 5)] μ (fun r μ' => r = some (.int (aboI (nI 5))) ∧ μ' = μ) := by
  refine zM_of (by decide +kernel) rfl rfl (Nat.le_of_ble_eq_true rfl) rfl ?_
  refine zb M_above_s0 rfl ?_
  refine z_tabIn M_above_d1 (off := 39) (tgt := 40) (by decide) (by decide) (by decide) rfl ?_
  refine zb M_above_s40 rfl ?_
  refine z_ret M_above_d41 rfl ?_
  exact ⟨rfl, rfl⟩

set_option maxRecDepth 100000 in
set_option maxHeartbeats 4000000 in
theorem o_above_6 {g : zG} {d : Nat} {μ : zMem} : zM g d M_above [.ref 0, .int (nI 6)] μ (fun r μ' => r = some (.int (aboI (nI 6))) ∧ μ' = μ) := by
  refine zM_of (by decide +kernel) rfl rfl (Nat.le_of_ble_eq_true rfl) rfl ?_
  refine zb M_above_s0 rfl ?_
  refine z_tabIn M_above_d1 (off := 43) (tgt := 44) (by decide) (by decide) (by decide) rfl ?_
  refine zb M_above_s44 rfl ?_
  refine z_ne M_above_d45 (tgt := 52) rfl (fun h45 => ?_) (fun h45 => absurd h45 (by decide))
  refine zb M_above_s52 rfl ?_
  refine z_ret M_above_d53 rfl ?_
  exact ⟨rfl, rfl⟩

set_option maxRecDepth 100000 in
set_option maxHeartbeats 4000000 in
theorem o_above_7 {g : zG} {d : Nat} {μ : zMem} : zM g d M_above [.ref 0, .int (nI 7)] μ (fun r μ' => r = some (.int (aboI (nI 7))) ∧ μ' = μ) := by
  refine zM_of (by decide +kernel) rfl rfl (Nat.le_of_ble_eq_true rfl) rfl ?_
  refine zb M_above_s0 rfl ?_
  refine z_tabIn M_above_d1 (off := 41) (tgt := 42) (by decide) (by decide) (by decide) rfl ?_
  refine zb M_above_s42 rfl ?_
  refine z_ret M_above_d43 rfl ?_
  exact ⟨rfl, rfl⟩

theorem o_above {g : zG} {d : Nat} {μ : zMem} {k : Nat} (hk : k < 8) : zM g d M_above [.ref 0, .int (nI k)] μ (fun r μ' => r = some (.int (aboI (nI k))) ∧ μ' = μ) := by
  rcases (show k = 0 ∨ k = 1 ∨ k = 2 ∨ k = 3 ∨ k = 4 ∨ k = 5 ∨ k = 6 ∨ k = 7 by omega) with rfl | rfl | rfl | rfl | rfl | rfl | rfl | rfl
  · exact o_above_0
  · exact o_above_1
  · exact o_above_2
  · exact o_above_3
  · exact o_above_4
  · exact o_above_5
  · exact o_above_6
  · exact o_above_7

set_option maxRecDepth 100000 in
set_option maxHeartbeats 4000000 in
theorem o_runs {g : zG} {d m : Nat} {t : zT} {μ : zMem} (b : Int32) (hm : m < 2 ^ 20) (ht : aT m t μ) : zM g d M_runs [.ref 0, .int b] μ (fun r μ' => r = none ∧ aT (m + 1) (runsF b t) μ' ∧ zq sT μ μ') := by
  refine zM_of (by decide +kernel) rfl rfl (Nat.le_of_ble_eq_true rfl) rfl ?_
  obtain ⟨e6, e47, q, hq, et⟩ := ht
  refine zb M_runs_s0 rfl ?_
  refine z_cge M_runs_d6 (tgt := 19) rfl (fun h6 => ?_) (fun h6 => ?_)
  · refine zb M_runs_s19 rfl ?_
    refine z_retV M_runs_d29 rfl ?_
    first
      | (refine ⟨rfl, ⟨?_, fun i hi => ?_, q + 1, by omega, by show t.1 + 1 = _; rw [et, nI_1]⟩, (zq.w (m := sT) rfl).tr (zq.w rfl)⟩
         · show μ.1 0 6 + 1 = t.1 + 1
           rw [e6]
         · show _ = (if t.1 < 24 then fu t.2 t.1.toNatClampNeg b else t.2) i
           rw [if_pos hlt, ← e6]
           unfold fu
           rw [zpI_ne (by decide), zpI_at, ← e47 i hi])
      | (refine ⟨rfl, ⟨?_, fun i hi => ?_, q + 1, by omega, by show t.1 + 1 = _; rw [et, nI_1]⟩, zq.w rfl⟩
         · show μ.1 0 6 + 1 = t.1 + 1
           rw [e6]
         · show _ = (if t.1 < 24 then fu t.2 t.1.toNatClampNeg b else t.2) i
           rw [if_neg (by rw [← e6]; exact Int32.not_lt.mpr h6)]
           exact e47 i hi)
  · have hlt : t.1 < 24 := by rw [← e6]; exact Int32.not_le.mp h6
    have hv : vp_in (μ.1 0 6) 24 := by
      rw [e6, et]
      rw [et] at hlt
      exact vp_in_nI ((nI_ltI (b := 24) (by omega) (by omega)).mp hlt) (by omega)
    refine zb1 M_runs_s9 rfl hv ?_
    refine z_retV M_runs_d29 rfl ?_
    first
      | (refine ⟨rfl, ⟨?_, fun i hi => ?_, q + 1, by omega, by show t.1 + 1 = _; rw [et, nI_1]⟩, (zq.w (m := sT) rfl).tr (zq.w rfl)⟩
         · show μ.1 0 6 + 1 = t.1 + 1
           rw [e6]
         · show _ = (if t.1 < 24 then fu t.2 t.1.toNatClampNeg b else t.2) i
           rw [if_pos hlt, ← e6]
           unfold fu
           rw [zpI_ne (by decide), zpI_at, ← e47 i hi])
      | (refine ⟨rfl, ⟨?_, fun i hi => ?_, q + 1, by omega, by show t.1 + 1 = _; rw [et, nI_1]⟩, zq.w rfl⟩
         · show μ.1 0 6 + 1 = t.1 + 1
           rw [e6]
         · show _ = (if t.1 < 24 then fu t.2 t.1.toNatClampNeg b else t.2) i
           rw [if_neg (by rw [← e6]; exact Int32.not_lt.mpr h6)]
           exact e47 i hi)

set_option maxRecDepth 100000 in
set_option maxHeartbeats 4000000 in
theorem c_rings {g : zG} {n : Int32} : ∀ (f k : Nat), k < 8 → rkN k < f → f ≤ 4 → ∀ (d m : Nat) (x : Int32) (t : zT) (μ : zMem), f + 1 ≤ d → m + f < 2 ^ 20 → aT m t μ → zM g d M_rings [.ref 0, .int n, .int (nI k), .int x] μ (fun r μ' => r = some (.int (ringsF n f k x t).1) ∧ aT (m + (f)) (ringsF n f k x t).2 μ' ∧ zq sT μ μ') := by
  intro f
  induction f with
  | zero => intro k hk hr; exact absurd hr (Nat.not_lt_zero _)
  | succ f ih =>
    intro k hk hr hf d m x t μ hd hm ht
    refine zM_of (by decide +kernel) rfl rfl (Nat.le_of_ble_eq_true rfl) rfl ?_
    have hz : zq sT μ μ := zq.rf
    refine zb M_rings_s0 rfl ?_
    refine z_cne M_rings_d2 (tgt := 25) rfl (fun h2 => ?_) (fun h2 => ?_)
    · refine zb M_rings_s25 rfl ?_
      refine z_cne M_rings_d28 (tgt := 51) rfl (fun h28 => ?_) (fun h28 => ?_)
      · have n1 : ¬ k = 1 := fun z => h2 (by rw [z]; rfl)
        have n6 : ¬ k = 6 := fun z => h28 (by rw [z]; rfl)
        refine zb M_rings_s51 rfl ?_
        refine z_le M_rings_d52 (tgt := 67) rfl (fun h52 => ?_) (fun h52 => ?_)
        · have hkz : ¬ 0 < k := fun z => absurd h52 (nI_nle z (by omega))
          refine zb M_rings_s67 rfl ?_
          refine zcallV M_rings_d69 k11_361 (by omega) (o_runs _ (by omega) ht) rfl rfl rfl (Nat.le_of_ble_eq_true rfl) ?_
          rintro _ μ1 ⟨rfl, ht1, hz1⟩
          replace hz := hz.tr hz1
          replace ht := ht1
          clear ht1 hz1
          refine zb M_rings_s72 rfl ?_
          refine z_ret M_rings_d75 rfl ?_
          simp only [ringsF]
          first
            | (rw [if_pos hkc]; exact ⟨rfl, ht.up (by omega), hz⟩)
            | (rw [if_neg n1, if_pos hkc]; exact ⟨rfl, ht.up (by omega), hz⟩)
            | (rw [if_neg n1, if_neg n6, if_pos hk0]; exact ⟨rfl, ht.up (by omega), hz⟩)
            | (rw [if_neg n1, if_neg n6, if_neg hkz]; exact ⟨rfl, ht.up (by omega), hz⟩)
        · have hk0 : 0 < k := by
            rcases Nat.eq_zero_or_pos k with z | z
            · subst z; exact absurd (Int32.le_refl _) h52
            · exact z
          have hrk := rkN_lt hk hk0
          refine zb M_rings_s55 rfl ?_
          refine zcallV M_rings_d59 k11_364 (by omega) (o_above hk) rfl rfl rfl (Nat.le_of_ble_eq_true rfl) ?_
          rintro _ μx ⟨rfl, hx⟩
          rw [hx]
          clear hx μx
          rw [aboI_N hk hk0]
          refine zb M_rings_s62 rfl ?_
          refine zcallV M_rings_d63 k11_367 (by omega) (ih _ hrk.2 (by omega) (by omega) (d - 1) m _ _ _ (by omega) (by omega) ht) rfl rfl rfl (Nat.le_of_ble_eq_true rfl) ?_
          rintro _ μ1 ⟨rfl, ht1, hz1⟩
          replace hz := hz.tr hz1
          replace ht := ht1
          clear ht1 hz1
          refine z_ret M_rings_d66 rfl ?_
          simp only [ringsF]
          first
            | (rw [if_pos hkc]; exact ⟨rfl, ht.up (by omega), hz⟩)
            | (rw [if_neg n1, if_pos hkc]; exact ⟨rfl, ht.up (by omega), hz⟩)
            | (rw [if_neg n1, if_neg n6, if_pos hk0]; exact ⟨rfl, ht.up (by omega), hz⟩)
            | (rw [if_neg n1, if_neg n6, if_neg hkz]; exact ⟨rfl, ht.up (by omega), hz⟩)
      · have n1 : ¬ k = 1 := fun z => h2 (by rw [z]; rfl)
        have hkc : k = 6 := (nI_eq (b := 6) (by omega) (by omega)).mp h28
        have hk0 : 0 < k := by omega
        have hrk := rkN_lt hk hk0
        refine zb M_rings_s31 rfl ?_
        refine zcallV M_rings_d34 k11_361 (by omega) (o_runs _ (by omega) ht) rfl rfl rfl (Nat.le_of_ble_eq_true rfl) ?_
        rintro _ μ1 ⟨rfl, ht1, hz1⟩
        replace hz := hz.tr hz1
        replace ht := ht1
        clear ht1 hz1
        refine zb M_rings_s37 rfl ?_
        refine zcallV M_rings_d41 k11_364 (by omega) (o_above hk) rfl rfl rfl (Nat.le_of_ble_eq_true rfl) ?_
        rintro _ μx ⟨rfl, hx⟩
        rw [hx]
        clear hx μx
        rw [aboI_N hk hk0]
        refine zb M_rings_s44 rfl ?_
        refine zcallV M_rings_d45 k11_367 (by omega) (ih _ hrk.2 (by omega) (by omega) (d - 1) (m + 1) _ _ _ (by omega) (by omega) ht) rfl rfl rfl (Nat.le_of_ble_eq_true rfl) ?_
        rintro _ μ1 ⟨rfl, ht1, hz1⟩
        replace hz := hz.tr hz1
        replace ht := ht1
        clear ht1 hz1
        refine zb M_rings_s48 rfl ?_
        refine z_ret M_rings_d50 rfl ?_
        simp only [ringsF]
        first
          | (rw [if_pos hkc]; exact ⟨rfl, ht.up (by omega), hz⟩)
          | (rw [if_neg n1, if_pos hkc]; exact ⟨rfl, ht.up (by omega), hz⟩)
          | (rw [if_neg n1, if_neg n6, if_pos hk0]; exact ⟨rfl, ht.up (by omega), hz⟩)
          | (rw [if_neg n1, if_neg n6, if_neg hkz]; exact ⟨rfl, ht.up (by omega), hz⟩)
    · have hkc : k = 1 := (nI_eq (b := 1) (by omega) (by omega)).mp h2
      have hk0 : 0 < k := by omega
      have hrk := rkN_lt hk hk0
      refine zb M_rings_s5 rfl ?_
      refine zcallV M_rings_d8 k11_361 (by omega) (o_runs _ (by omega) ht) rfl rfl rfl (Nat.le_of_ble_eq_true rfl) ?_
      rintro _ μ1 ⟨rfl, ht1, hz1⟩
      replace hz := hz.tr hz1
      replace ht := ht1
      clear ht1 hz1
      refine zb M_rings_s11 rfl ?_
      refine zcallV M_rings_d15 k11_364 (by omega) (o_above hk) rfl rfl rfl (Nat.le_of_ble_eq_true rfl) ?_
      rintro _ μx ⟨rfl, hx⟩
      rw [hx]
      clear hx μx
      rw [aboI_N hk hk0]
      refine zb M_rings_s18 rfl ?_
      refine zcallV M_rings_d19 k11_367 (by omega) (ih _ hrk.2 (by omega) (by omega) (d - 1) (m + 1) _ _ _ (by omega) (by omega) ht) rfl rfl rfl (Nat.le_of_ble_eq_true rfl) ?_
      rintro _ μ1 ⟨rfl, ht1, hz1⟩
      replace hz := hz.tr hz1
      replace ht := ht1
      clear ht1 hz1
      refine zb M_rings_s22 rfl ?_
      refine z_ret M_rings_d24 rfl ?_
      simp only [ringsF]
      first
        | (rw [if_pos hkc]; exact ⟨rfl, ht.up (by omega), hz⟩)
        | (rw [if_neg n1, if_pos hkc]; exact ⟨rfl, ht.up (by omega), hz⟩)
        | (rw [if_neg n1, if_neg n6, if_pos hk0]; exact ⟨rfl, ht.up (by omega), hz⟩)
        | (rw [if_neg n1, if_neg n6, if_neg hkz]; exact ⟨rfl, ht.up (by omega), hz⟩)

theorem rk4 {K : Nat} (h : K < 8) : rkN K < 4 := by
  have : ∀ k : Fin 8, rkN k.1 < 4 := by decide
  exact this ⟨K, h⟩

set_option maxRecDepth 100000 in
set_option maxHeartbeats 4000000 in
theorem c_doing {g : zG} {nb K : Nat} (hnb : nb < 50) (hK8 : K < 8) : ∀ (f k : Nat), k < 8 → rkN k < f → f ≤ 4 → ∀ (d m : Nat) (x : Int32) (t : zT) (μ : zMem), f + 6 ≤ d → m + (f * 5 + 5) < 2 ^ 20 → μ.1 46 nb = nI K → aT m t μ → zM g d M_doing [.ref 0, .int (nI nb), .int (nI k), .int x] μ (fun r μ' => r = some (.int (doingF (nI nb) K f k x t).1) ∧ aT (m + f * 5) (doingF (nI nb) K f k x t).2 μ' ∧ zq sT μ μ') := by
  intro f
  induction f with
  | zero => intro k hk hr; exact absurd hr (Nat.not_lt_zero _)
  | succ f ih =>
    intro k hk hr hf d m x t μ hd hm hKk ht
    refine zM_of (by decide +kernel) rfl rfl (Nat.le_of_ble_eq_true rfl) rfl ?_
    have hz : zq sT μ μ := zq.rf
    have ek : (nI nb).toNatClampNeg = nb := nI_clamp (by omega)
    have hvn : vp_in (nI nb) 50 := vp_in_nI hnb (by omega)
    refine zb M_doing_s0 rfl ?_
    refine z_cne M_doing_d2 (tgt := 25) rfl (fun h2 => ?_) (fun h2 => ?_)
    · refine zb M_doing_s25 rfl ?_
      refine z_cne M_doing_d27 (tgt := 65) rfl (fun h27 => ?_) (fun h27 => ?_)
      · have n3 : ¬ k = 3 := fun z => h2 (by rw [z]; rfl)
        have n4 : ¬ k = 4 := fun z => h27 (by rw [z]; rfl)
        refine zb M_doing_s65 rfl ?_
        refine z_le M_doing_d66 (tgt := 81) rfl (fun h66 => ?_) (fun h66 => ?_)
        · have hkz : ¬ 0 < k := fun z => absurd h66 (nI_nle z (by omega))
          refine zb M_doing_s81 rfl ?_
          refine zcallV M_doing_d84 k11_361 (by omega) (o_runs _ (by omega) ht) rfl rfl rfl (Nat.le_of_ble_eq_true rfl) ?_
          rintro _ μ1 ⟨rfl, ht1, hz1⟩
          replace hz := hz.tr hz1
          replace ht := ht1
          clear ht1 hz1
          refine zb M_doing_s87 rfl ?_
          refine z_ret M_doing_d90 rfl ?_
          simp only [doingF]
          first
            | (rw [if_pos hkc]; exact ⟨rfl, ht.up (by omega), hz⟩)
            | (rw [if_neg n3, if_pos hkc]; exact ⟨rfl, ht.up (by omega), hz⟩)
            | (rw [if_neg n3, if_neg n4, if_pos hk0]; exact ⟨rfl, ht.up (by omega), hz⟩)
            | (rw [if_neg n3, if_neg n4, if_neg hkz]; exact ⟨rfl, ht.up (by omega), hz⟩)
        · have hk0 : 0 < k := by
            rcases Nat.eq_zero_or_pos k with z | z
            · subst z; exact absurd (Int32.le_refl _) h66
            · exact z
          have hrk := rkN_lt hk hk0
          refine zb M_doing_s69 rfl ?_
          refine zcallV M_doing_d73 k11_364 (by omega) (o_above hk) rfl rfl rfl (Nat.le_of_ble_eq_true rfl) ?_
          rintro _ μx ⟨rfl, hx⟩
          rw [hx]
          clear hx μx
          rw [aboI_N hk hk0]
          refine zb M_doing_s76 rfl ?_
          refine zcallV M_doing_d77 k11_373 (by omega) (ih _ hrk.2 (by omega) (by omega) (d - 1) m _ _ _ (by omega) (by omega) (by rw [k46 hz]; exact hKk) ht) rfl rfl rfl (Nat.le_of_ble_eq_true rfl) ?_
          rintro _ μ1 ⟨rfl, ht1, hz1⟩
          replace hz := hz.tr hz1
          replace ht := ht1
          clear ht1 hz1
          refine z_ret M_doing_d80 rfl ?_
          simp only [doingF]
          first
            | (rw [if_pos hkc]; exact ⟨rfl, ht.up (by omega), hz⟩)
            | (rw [if_neg n3, if_pos hkc]; exact ⟨rfl, ht.up (by omega), hz⟩)
            | (rw [if_neg n3, if_neg n4, if_pos hk0]; exact ⟨rfl, ht.up (by omega), hz⟩)
            | (rw [if_neg n3, if_neg n4, if_neg hkz]; exact ⟨rfl, ht.up (by omega), hz⟩)
      · have n3 : ¬ k = 3 := fun z => h2 (by rw [z]; rfl)
        have hkc : k = 4 := (nI_eq (b := 4) (by omega) (by omega)).mp h27
        have hk0 : 0 < k := by omega
        have hrk := rkN_lt hk hk0
        refine zb M_doing_s30 rfl ?_
        refine zcallV M_doing_d33 k11_361 (by omega) (o_runs _ (by omega) ht) rfl rfl rfl (Nat.le_of_ble_eq_true rfl) ?_
        rintro _ μ1 ⟨rfl, ht1, hz1⟩
        replace hz := hz.tr hz1
        replace ht := ht1
        clear ht1 hz1
        refine zb M_doing_s36 rfl ?_
        refine zcallV M_doing_d40 k11_364 (by omega) (o_above hk) rfl rfl rfl (Nat.le_of_ble_eq_true rfl) ?_
        rintro _ μx ⟨rfl, hx⟩
        rw [hx]
        clear hx μx
        rw [aboI_N hk hk0]
        refine zb M_doing_s43 rfl ?_
        refine zcallV M_doing_d44 k11_373 (by omega) (ih _ hrk.2 (by omega) (by omega) (d - 1) (m + 1) _ _ _ (by omega) (by omega) (by rw [k46 hz]; exact hKk) ht) rfl rfl rfl (Nat.le_of_ble_eq_true rfl) ?_
        rintro _ μ1 ⟨rfl, ht1, hz1⟩
        replace hz := hz.tr hz1
        replace ht := ht1
        clear ht1 hz1
        refine zb1 M_doing_s47 rfl hvn ?_
        rw [ek, k46 hz, hKk]
        refine zcallV M_doing_d60 k11_367 (by omega) (c_rings 4 K hK8 (rk4 hK8) (by omega) (d - 1) (m + 1 + f * 5) _ _ _ (by omega) (by omega) ht) rfl rfl rfl (Nat.le_of_ble_eq_true rfl) ?_
        rintro _ μ1 ⟨rfl, ht1, hz1⟩
        replace hz := hz.tr hz1
        replace ht := ht1
        clear ht1 hz1
        refine zb M_doing_s63 rfl ?_
        refine z_ret M_doing_d64 rfl ?_
        simp only [doingF]
        first
          | (rw [if_pos hkc]; exact ⟨rfl, ht.up (by omega), hz⟩)
          | (rw [if_neg n3, if_pos hkc]; exact ⟨rfl, ht.up (by omega), hz⟩)
          | (rw [if_neg n3, if_neg n4, if_pos hk0]; exact ⟨rfl, ht.up (by omega), hz⟩)
          | (rw [if_neg n3, if_neg n4, if_neg hkz]; exact ⟨rfl, ht.up (by omega), hz⟩)
    · have hkc : k = 3 := (nI_eq (b := 3) (by omega) (by omega)).mp h2
      have hk0 : 0 < k := by omega
      have hrk := rkN_lt hk hk0
      refine zb M_doing_s5 rfl ?_
      refine zcallV M_doing_d8 k11_361 (by omega) (o_runs _ (by omega) ht) rfl rfl rfl (Nat.le_of_ble_eq_true rfl) ?_
      rintro _ μ1 ⟨rfl, ht1, hz1⟩
      replace hz := hz.tr hz1
      replace ht := ht1
      clear ht1 hz1
      refine zb M_doing_s11 rfl ?_
      refine zcallV M_doing_d15 k11_364 (by omega) (o_above hk) rfl rfl rfl (Nat.le_of_ble_eq_true rfl) ?_
      rintro _ μx ⟨rfl, hx⟩
      rw [hx]
      clear hx μx
      rw [aboI_N hk hk0]
      refine zb M_doing_s18 rfl ?_
      refine zcallV M_doing_d19 k11_373 (by omega) (ih _ hrk.2 (by omega) (by omega) (d - 1) (m + 1) _ _ _ (by omega) (by omega) (by rw [k46 hz]; exact hKk) ht) rfl rfl rfl (Nat.le_of_ble_eq_true rfl) ?_
      rintro _ μ1 ⟨rfl, ht1, hz1⟩
      replace hz := hz.tr hz1
      replace ht := ht1
      clear ht1 hz1
      refine zb M_doing_s22 rfl ?_
      refine z_ret M_doing_d24 rfl ?_
      simp only [doingF]
      first
        | (rw [if_pos hkc]; exact ⟨rfl, ht.up (by omega), hz⟩)
        | (rw [if_neg n3, if_pos hkc]; exact ⟨rfl, ht.up (by omega), hz⟩)
        | (rw [if_neg n3, if_neg n4, if_pos hk0]; exact ⟨rfl, ht.up (by omega), hz⟩)
        | (rw [if_neg n3, if_neg n4, if_neg hkz]; exact ⟨rfl, ht.up (by omega), hz⟩)

set_option maxRecDepth 100000 in
set_option maxHeartbeats 4000000 in
theorem c_hears {g : zG} {nb K : Nat} (hnb : nb < 50) (hK8 : K < 8) : ∀ (f k : Nat), k < 8 → rkN k < f → f ≤ 4 → ∀ (d m : Nat) (x : Int32) (t : zT) (μ : zMem), f + 12 ≤ d → m + (f * 25 + 25) < 2 ^ 20 → μ.1 46 nb = nI K → aT m t μ → zM g d M_hears [.ref 0, .int (nI nb), .int (nI k), .int x] μ (fun r μ' => r = some (.int (hearsF (nI nb) K f k x t).1) ∧ aT (m + f * 25) (hearsF (nI nb) K f k x t).2 μ' ∧ zq sT μ μ') := by
  intro f
  induction f with
  | zero => intro k hk hr; exact absurd hr (Nat.not_lt_zero _)
  | succ f ih =>
    intro k hk hr hf d m x t μ hd hm hKk ht
    refine zM_of (by decide +kernel) rfl rfl (Nat.le_of_ble_eq_true rfl) rfl ?_
    have hz : zq sT μ μ := zq.rf
    have ek : (nI nb).toNatClampNeg = nb := nI_clamp (by omega)
    have hvn : vp_in (nI nb) 50 := vp_in_nI hnb (by omega)
    refine zb M_hears_s0 rfl ?_
    refine z_cne M_hears_d2 (tgt := 24) rfl (fun h2 => ?_) (fun h2 => ?_)
    · refine zb M_hears_s24 rfl ?_
      refine z_cne M_hears_d26 (tgt := 49) rfl (fun h26 => ?_) (fun h26 => ?_)
      · refine zb M_hears_s49 rfl ?_
        refine z_cne M_hears_d52 (tgt := 90) rfl (fun h52 => ?_) (fun h52 => ?_)
        · have n2 : ¬ k = 2 := fun z => h2 (by rw [z]; rfl)
          have n3 : ¬ k = 3 := fun z => h26 (by rw [z]; rfl)
          have n7 : ¬ k = 7 := fun z => h52 (by rw [z]; rfl)
          refine zb M_hears_s90 rfl ?_
          refine z_le M_hears_d91 (tgt := 106) rfl (fun h91 => ?_) (fun h91 => ?_)
          · have hkz : ¬ 0 < k := fun z => absurd h91 (nI_nle z (by omega))
            refine zb M_hears_s106 rfl ?_
            refine zcallV M_hears_d109 k11_361 (by omega) (o_runs _ (by omega) ht) rfl rfl rfl (Nat.le_of_ble_eq_true rfl) ?_
            rintro _ μ1 ⟨rfl, ht1, hz1⟩
            replace hz := hz.tr hz1
            replace ht := ht1
            clear ht1 hz1
            refine zb1 M_hears_s112 rfl hvn ?_
            rw [ek, k46 hz, hKk]
            refine zcallV M_hears_d121 k11_367 (by omega) (c_rings 4 K hK8 (rk4 hK8) (by omega) (d - 1) (m + 1) _ _ _ (by omega) (by omega) ht) rfl rfl rfl (Nat.le_of_ble_eq_true rfl) ?_
            rintro _ μ1 ⟨rfl, ht1, hz1⟩
            replace hz := hz.tr hz1
            replace ht := ht1
            clear ht1 hz1
            refine zb M_hears_s124 rfl ?_
            refine z_ret M_hears_d126 rfl ?_
            simp only [hearsF]
            first
              | (rw [if_pos hkc]; exact ⟨rfl, ht.up (by omega), hz⟩)
              | (rw [if_neg n2, if_pos hkc]; exact ⟨rfl, ht.up (by omega), hz⟩)
              | (rw [if_neg n2, if_neg n3, if_pos hkc]; exact ⟨rfl, ht.up (by omega), hz⟩)
              | (rw [if_neg n2, if_neg n3, if_neg n7, if_pos hk0]; exact ⟨rfl, ht.up (by omega), hz⟩)
              | (rw [if_neg n2, if_neg n3, if_neg n7, if_neg hkz]; exact ⟨rfl, ht.up (by omega), hz⟩)
          · have hk0 : 0 < k := by
              rcases Nat.eq_zero_or_pos k with z | z
              · subst z; exact absurd (Int32.le_refl _) h91
              · exact z
            have hrk := rkN_lt hk hk0
            refine zb M_hears_s94 rfl ?_
            refine zcallV M_hears_d98 k11_364 (by omega) (o_above hk) rfl rfl rfl (Nat.le_of_ble_eq_true rfl) ?_
            rintro _ μx ⟨rfl, hx⟩
            rw [hx]
            clear hx μx
            rw [aboI_N hk hk0]
            refine zb M_hears_s101 rfl ?_
            refine zcallV M_hears_d102 k11_370 (by omega) (ih _ hrk.2 (by omega) (by omega) (d - 1) m _ _ _ (by omega) (by omega) (by rw [k46 hz]; exact hKk) ht) rfl rfl rfl (Nat.le_of_ble_eq_true rfl) ?_
            rintro _ μ1 ⟨rfl, ht1, hz1⟩
            replace hz := hz.tr hz1
            replace ht := ht1
            clear ht1 hz1
            refine z_ret M_hears_d105 rfl ?_
            simp only [hearsF]
            first
              | (rw [if_pos hkc]; exact ⟨rfl, ht.up (by omega), hz⟩)
              | (rw [if_neg n2, if_pos hkc]; exact ⟨rfl, ht.up (by omega), hz⟩)
              | (rw [if_neg n2, if_neg n3, if_pos hkc]; exact ⟨rfl, ht.up (by omega), hz⟩)
              | (rw [if_neg n2, if_neg n3, if_neg n7, if_pos hk0]; exact ⟨rfl, ht.up (by omega), hz⟩)
              | (rw [if_neg n2, if_neg n3, if_neg n7, if_neg hkz]; exact ⟨rfl, ht.up (by omega), hz⟩)
        · have n2 : ¬ k = 2 := fun z => h2 (by rw [z]; rfl)
          have n3 : ¬ k = 3 := fun z => h26 (by rw [z]; rfl)
          have hkc : k = 7 := (nI_eq (b := 7) (by omega) (by omega)).mp h52
          have hk0 : 0 < k := by omega
          have hrk := rkN_lt hk hk0
          refine zb M_hears_s55 rfl ?_
          refine zcallV M_hears_d58 k11_361 (by omega) (o_runs _ (by omega) ht) rfl rfl rfl (Nat.le_of_ble_eq_true rfl) ?_
          rintro _ μ1 ⟨rfl, ht1, hz1⟩
          replace hz := hz.tr hz1
          replace ht := ht1
          clear ht1 hz1
          refine zb M_hears_s61 rfl ?_
          refine zcallV M_hears_d65 k11_364 (by omega) (o_above hk) rfl rfl rfl (Nat.le_of_ble_eq_true rfl) ?_
          rintro _ μx ⟨rfl, hx⟩
          rw [hx]
          clear hx μx
          rw [aboI_N hk hk0]
          refine zb M_hears_s68 rfl ?_
          refine zcallV M_hears_d69 k11_370 (by omega) (ih _ hrk.2 (by omega) (by omega) (d - 1) (m + 1) _ _ _ (by omega) (by omega) (by rw [k46 hz]; exact hKk) ht) rfl rfl rfl (Nat.le_of_ble_eq_true rfl) ?_
          rintro _ μ1 ⟨rfl, ht1, hz1⟩
          replace hz := hz.tr hz1
          replace ht := ht1
          clear ht1 hz1
          refine zb1 M_hears_s72 rfl hvn ?_
          rw [ek, k46 hz, hKk]
          refine zcallV M_hears_d85 k11_373 (by omega) (c_doing hnb hK8 4 K hK8 (rk4 hK8) (by omega) (d - 1) (m + 1 + f * 25) _ _ _ (by omega) (by omega) (by rw [k46 hz]; exact hKk) ht) rfl rfl rfl (Nat.le_of_ble_eq_true rfl) ?_
          rintro _ μ1 ⟨rfl, ht1, hz1⟩
          replace hz := hz.tr hz1
          replace ht := ht1
          clear ht1 hz1
          refine zb M_hears_s88 rfl ?_
          refine z_ret M_hears_d89 rfl ?_
          simp only [hearsF]
          first
            | (rw [if_pos hkc]; exact ⟨rfl, ht.up (by omega), hz⟩)
            | (rw [if_neg n2, if_pos hkc]; exact ⟨rfl, ht.up (by omega), hz⟩)
            | (rw [if_neg n2, if_neg n3, if_pos hkc]; exact ⟨rfl, ht.up (by omega), hz⟩)
            | (rw [if_neg n2, if_neg n3, if_neg n7, if_pos hk0]; exact ⟨rfl, ht.up (by omega), hz⟩)
            | (rw [if_neg n2, if_neg n3, if_neg n7, if_neg hkz]; exact ⟨rfl, ht.up (by omega), hz⟩)
      · have n2 : ¬ k = 2 := fun z => h2 (by rw [z]; rfl)
        have hkc : k = 3 := (nI_eq (b := 3) (by omega) (by omega)).mp h26
        have hk0 : 0 < k := by omega
        have hrk := rkN_lt hk hk0
        refine zb M_hears_s29 rfl ?_
        refine zcallV M_hears_d32 k11_361 (by omega) (o_runs _ (by omega) ht) rfl rfl rfl (Nat.le_of_ble_eq_true rfl) ?_
        rintro _ μ1 ⟨rfl, ht1, hz1⟩
        replace hz := hz.tr hz1
        replace ht := ht1
        clear ht1 hz1
        refine zb M_hears_s35 rfl ?_
        refine zcallV M_hears_d39 k11_364 (by omega) (o_above hk) rfl rfl rfl (Nat.le_of_ble_eq_true rfl) ?_
        rintro _ μx ⟨rfl, hx⟩
        rw [hx]
        clear hx μx
        rw [aboI_N hk hk0]
        refine zb M_hears_s42 rfl ?_
        refine zcallV M_hears_d45 k11_370 (by omega) (ih _ hrk.2 (by omega) (by omega) (d - 1) (m + 1) _ _ _ (by omega) (by omega) (by rw [k46 hz]; exact hKk) ht) rfl rfl rfl (Nat.le_of_ble_eq_true rfl) ?_
        rintro _ μ1 ⟨rfl, ht1, hz1⟩
        replace hz := hz.tr hz1
        replace ht := ht1
        clear ht1 hz1
        refine z_ret M_hears_d48 rfl ?_
        simp only [hearsF]
        first
          | (rw [if_pos hkc]; exact ⟨rfl, ht.up (by omega), hz⟩)
          | (rw [if_neg n2, if_pos hkc]; exact ⟨rfl, ht.up (by omega), hz⟩)
          | (rw [if_neg n2, if_neg n3, if_pos hkc]; exact ⟨rfl, ht.up (by omega), hz⟩)
          | (rw [if_neg n2, if_neg n3, if_neg n7, if_pos hk0]; exact ⟨rfl, ht.up (by omega), hz⟩)
          | (rw [if_neg n2, if_neg n3, if_neg n7, if_neg hkz]; exact ⟨rfl, ht.up (by omega), hz⟩)
    · have hkc : k = 2 := (nI_eq (b := 2) (by omega) (by omega)).mp h2
      have hk0 : 0 < k := by omega
      have hrk := rkN_lt hk hk0
      refine zb M_hears_s5 rfl ?_
      refine zcallV M_hears_d8 k11_361 (by omega) (o_runs _ (by omega) ht) rfl rfl rfl (Nat.le_of_ble_eq_true rfl) ?_
      rintro _ μ1 ⟨rfl, ht1, hz1⟩
      replace hz := hz.tr hz1
      replace ht := ht1
      clear ht1 hz1
      refine zb M_hears_s11 rfl ?_
      refine zcallV M_hears_d15 k11_364 (by omega) (o_above hk) rfl rfl rfl (Nat.le_of_ble_eq_true rfl) ?_
      rintro _ μx ⟨rfl, hx⟩
      rw [hx]
      clear hx μx
      rw [aboI_N hk hk0]
      refine zb M_hears_s18 rfl ?_
      refine zcallV M_hears_d19 k11_370 (by omega) (ih _ hrk.2 (by omega) (by omega) (d - 1) (m + 1) _ _ _ (by omega) (by omega) (by rw [k46 hz]; exact hKk) ht) rfl rfl rfl (Nat.le_of_ble_eq_true rfl) ?_
      rintro _ μ1 ⟨rfl, ht1, hz1⟩
      replace hz := hz.tr hz1
      replace ht := ht1
      clear ht1 hz1
      refine zb M_hears_s22 rfl ?_
      refine z_ret M_hears_d23 rfl ?_
      simp only [hearsF]
      first
        | (rw [if_pos hkc]; exact ⟨rfl, ht.up (by omega), hz⟩)
        | (rw [if_neg n2, if_pos hkc]; exact ⟨rfl, ht.up (by omega), hz⟩)
        | (rw [if_neg n2, if_neg n3, if_pos hkc]; exact ⟨rfl, ht.up (by omega), hz⟩)
        | (rw [if_neg n2, if_neg n3, if_neg n7, if_pos hk0]; exact ⟨rfl, ht.up (by omega), hz⟩)
        | (rw [if_neg n2, if_neg n3, if_neg n7, if_neg hkz]; exact ⟨rfl, ht.up (by omega), hz⟩)

set_option maxRecDepth 100000 in
set_option maxHeartbeats 4000000 in
theorem c_tells {g : zG} {nb K : Nat} (hnb : nb < 50) (hK8 : K < 8) : ∀ (f k : Nat), k < 8 → rkN k < f → f ≤ 4 → ∀ (d m : Nat) (x : Int32) (t : zT) (μ : zMem), f + 18 ≤ d → m + (f * 125 + 125) < 2 ^ 20 → μ.1 46 nb = nI K → aT m t μ → zM g d M_tells [.ref 0, .int (nI nb), .int (nI k), .int x] μ (fun r μ' => r = some (.int (tellsF (nI nb) K f k x t).1) ∧ aT (m + f * 125) (tellsF (nI nb) K f k x t).2 μ' ∧ zq sT μ μ') := by
  intro f
  induction f with
  | zero => intro k hk hr; exact absurd hr (Nat.not_lt_zero _)
  | succ f ih =>
    intro k hk hr hf d m x t μ hd hm hKk ht
    refine zM_of (by decide +kernel) rfl rfl (Nat.le_of_ble_eq_true rfl) rfl ?_
    have hz : zq sT μ μ := zq.rf
    have ek : (nI nb).toNatClampNeg = nb := nI_clamp (by omega)
    have hvn : vp_in (nI nb) 50 := vp_in_nI hnb (by omega)
    refine zb M_tells_s0 rfl ?_
    refine z_cne M_tells_d2 (tgt := 25) rfl (fun h2 => ?_) (fun h2 => ?_)
    · refine zb M_tells_s25 rfl ?_
      refine z_cne M_tells_d28 (tgt := 51) rfl (fun h28 => ?_) (fun h28 => ?_)
      · have n5 : ¬ k = 5 := fun z => h2 (by rw [z]; rfl)
        have n7 : ¬ k = 7 := fun z => h28 (by rw [z]; rfl)
        refine zb M_tells_s51 rfl ?_
        refine z_le M_tells_d52 (tgt := 67) rfl (fun h52 => ?_) (fun h52 => ?_)
        · have hkz : ¬ 0 < k := fun z => absurd h52 (nI_nle z (by omega))
          refine zb M_tells_s67 rfl ?_
          refine zcallV M_tells_d69 k11_361 (by omega) (o_runs _ (by omega) ht) rfl rfl rfl (Nat.le_of_ble_eq_true rfl) ?_
          rintro _ μ1 ⟨rfl, ht1, hz1⟩
          replace hz := hz.tr hz1
          replace ht := ht1
          clear ht1 hz1
          refine zb1 M_tells_s72 rfl hvn ?_
          rw [ek, k46 hz, hKk]
          refine zcallV M_tells_d81 k11_370 (by omega) (c_hears hnb hK8 4 K hK8 (rk4 hK8) (by omega) (d - 1) (m + 1) _ _ _ (by omega) (by omega) (by rw [k46 hz]; exact hKk) ht) rfl rfl rfl (Nat.le_of_ble_eq_true rfl) ?_
          rintro _ μ1 ⟨rfl, ht1, hz1⟩
          replace hz := hz.tr hz1
          replace ht := ht1
          clear ht1 hz1
          refine zb1 M_tells_s84 rfl hvn ?_
          rw [ek, k46 hz, hKk]
          refine zcallV M_tells_d97 k11_373 (by omega) (c_doing hnb hK8 4 K hK8 (rk4 hK8) (by omega) (d - 1) (m + 1 + 4 * 25) _ _ _ (by omega) (by omega) (by rw [k46 hz]; exact hKk) ht) rfl rfl rfl (Nat.le_of_ble_eq_true rfl) ?_
          rintro _ μ1 ⟨rfl, ht1, hz1⟩
          replace hz := hz.tr hz1
          replace ht := ht1
          clear ht1 hz1
          refine zb M_tells_s100 rfl ?_
          refine z_ret M_tells_d101 rfl ?_
          simp only [tellsF]
          first
            | (rw [if_pos hkc]; exact ⟨rfl, ht.up (by omega), hz⟩)
            | (rw [if_neg n5, if_pos hkc]; exact ⟨rfl, ht.up (by omega), hz⟩)
            | (rw [if_neg n5, if_neg n7, if_pos hk0]; exact ⟨rfl, ht.up (by omega), hz⟩)
            | (rw [if_neg n5, if_neg n7, if_neg hkz]; exact ⟨rfl, ht.up (by omega), hz⟩)
        · have hk0 : 0 < k := by
            rcases Nat.eq_zero_or_pos k with z | z
            · subst z; exact absurd (Int32.le_refl _) h52
            · exact z
          have hrk := rkN_lt hk hk0
          refine zb M_tells_s55 rfl ?_
          refine zcallV M_tells_d59 k11_364 (by omega) (o_above hk) rfl rfl rfl (Nat.le_of_ble_eq_true rfl) ?_
          rintro _ μx ⟨rfl, hx⟩
          rw [hx]
          clear hx μx
          rw [aboI_N hk hk0]
          refine zb M_tells_s62 rfl ?_
          refine zcallV M_tells_d63 k11_376 (by omega) (ih _ hrk.2 (by omega) (by omega) (d - 1) m _ _ _ (by omega) (by omega) (by rw [k46 hz]; exact hKk) ht) rfl rfl rfl (Nat.le_of_ble_eq_true rfl) ?_
          rintro _ μ1 ⟨rfl, ht1, hz1⟩
          replace hz := hz.tr hz1
          replace ht := ht1
          clear ht1 hz1
          refine z_ret M_tells_d66 rfl ?_
          simp only [tellsF]
          first
            | (rw [if_pos hkc]; exact ⟨rfl, ht.up (by omega), hz⟩)
            | (rw [if_neg n5, if_pos hkc]; exact ⟨rfl, ht.up (by omega), hz⟩)
            | (rw [if_neg n5, if_neg n7, if_pos hk0]; exact ⟨rfl, ht.up (by omega), hz⟩)
            | (rw [if_neg n5, if_neg n7, if_neg hkz]; exact ⟨rfl, ht.up (by omega), hz⟩)
      · have n5 : ¬ k = 5 := fun z => h2 (by rw [z]; rfl)
        have hkc : k = 7 := (nI_eq (b := 7) (by omega) (by omega)).mp h28
        have hk0 : 0 < k := by omega
        have hrk := rkN_lt hk hk0
        refine zb M_tells_s31 rfl ?_
        refine zcallV M_tells_d34 k11_361 (by omega) (o_runs _ (by omega) ht) rfl rfl rfl (Nat.le_of_ble_eq_true rfl) ?_
        rintro _ μ1 ⟨rfl, ht1, hz1⟩
        replace hz := hz.tr hz1
        replace ht := ht1
        clear ht1 hz1
        refine zb M_tells_s37 rfl ?_
        refine zcallV M_tells_d41 k11_364 (by omega) (o_above hk) rfl rfl rfl (Nat.le_of_ble_eq_true rfl) ?_
        rintro _ μx ⟨rfl, hx⟩
        rw [hx]
        clear hx μx
        rw [aboI_N hk hk0]
        refine zb M_tells_s44 rfl ?_
        refine zcallV M_tells_d45 k11_376 (by omega) (ih _ hrk.2 (by omega) (by omega) (d - 1) (m + 1) _ _ _ (by omega) (by omega) (by rw [k46 hz]; exact hKk) ht) rfl rfl rfl (Nat.le_of_ble_eq_true rfl) ?_
        rintro _ μ1 ⟨rfl, ht1, hz1⟩
        replace hz := hz.tr hz1
        replace ht := ht1
        clear ht1 hz1
        refine zb M_tells_s48 rfl ?_
        refine z_ret M_tells_d50 rfl ?_
        simp only [tellsF]
        first
          | (rw [if_pos hkc]; exact ⟨rfl, ht.up (by omega), hz⟩)
          | (rw [if_neg n5, if_pos hkc]; exact ⟨rfl, ht.up (by omega), hz⟩)
          | (rw [if_neg n5, if_neg n7, if_pos hk0]; exact ⟨rfl, ht.up (by omega), hz⟩)
          | (rw [if_neg n5, if_neg n7, if_neg hkz]; exact ⟨rfl, ht.up (by omega), hz⟩)
    · have hkc : k = 5 := (nI_eq (b := 5) (by omega) (by omega)).mp h2
      have hk0 : 0 < k := by omega
      have hrk := rkN_lt hk hk0
      refine zb M_tells_s5 rfl ?_
      refine zcallV M_tells_d8 k11_361 (by omega) (o_runs _ (by omega) ht) rfl rfl rfl (Nat.le_of_ble_eq_true rfl) ?_
      rintro _ μ1 ⟨rfl, ht1, hz1⟩
      replace hz := hz.tr hz1
      replace ht := ht1
      clear ht1 hz1
      refine zb M_tells_s11 rfl ?_
      refine zcallV M_tells_d15 k11_364 (by omega) (o_above hk) rfl rfl rfl (Nat.le_of_ble_eq_true rfl) ?_
      rintro _ μx ⟨rfl, hx⟩
      rw [hx]
      clear hx μx
      rw [aboI_N hk hk0]
      refine zb M_tells_s18 rfl ?_
      refine zcallV M_tells_d19 k11_376 (by omega) (ih _ hrk.2 (by omega) (by omega) (d - 1) (m + 1) _ _ _ (by omega) (by omega) (by rw [k46 hz]; exact hKk) ht) rfl rfl rfl (Nat.le_of_ble_eq_true rfl) ?_
      rintro _ μ1 ⟨rfl, ht1, hz1⟩
      replace hz := hz.tr hz1
      replace ht := ht1
      clear ht1 hz1
      refine zb M_tells_s22 rfl ?_
      refine z_ret M_tells_d24 rfl ?_
      simp only [tellsF]
      first
        | (rw [if_pos hkc]; exact ⟨rfl, ht.up (by omega), hz⟩)
        | (rw [if_neg n5, if_pos hkc]; exact ⟨rfl, ht.up (by omega), hz⟩)
        | (rw [if_neg n5, if_neg n7, if_pos hk0]; exact ⟨rfl, ht.up (by omega), hz⟩)
        | (rw [if_neg n5, if_neg n7, if_neg hkz]; exact ⟨rfl, ht.up (by omega), hz⟩)
