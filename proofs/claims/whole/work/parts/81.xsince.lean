/-! the class: since when, one vow -/
def dueF (F : zF) (b D : Nat) (h : Int32) (c : Nat → Int32) (v i : Nat) : Int32 := c i - ftone F b - offs F (nI b) (nI (D + i)) h + pu F v (fbell F v) (nI (D + i)) h
def lefF (F : zF) (b D : Nat) (h : Int32) (c : Nat → Int32) (i : Nat) : Int32 := c i - ftone F b - offs F (nI b) (nI (D + i)) h
def aftF (F : zF) (v : Nat) (h : Int32) (d : Nat) : Int32 := giv F v (fbell F v) 0 (nI d) h
def sncP (f a : Nat → Int32) (x : Int32) (D n s : Nat) : Prop := ∀ i, i < n → f i = if D + i < s then x else a (D + i - s)
def ldP (f : Nat → Int32) (x : Int32) (n k : Nat) : Prop := k ≤ n ∧ (∀ i, i < k → f i = x) ∧ (k < n → ¬ f k = x)
theorem mx_is {s D : Nat} (hs : s < 2 ^ 30) (hD : D < 2 ^ 30) : (if nI s - nI D < 0 then (0 : Int32) else nI s - nI D) = nI (s - D) := by
  by_cases q : s < D
  · rw [if_pos (pk_sneg hD q), show s - D = 0 by omega]
    rfl
  · have e := pk_sub (a := s) (b := D) (by omega)
    rw [e, if_neg (nI_pos (by omega))]
theorem mn_is {x n : Nat} (hx : x < 2 ^ 31) (hn : n < 2 ^ 31) : (if nI n < nI x then nI n else nI x) = nI (min x n) := by
  by_cases q : n < x
  · rw [if_pos (nI_lt q hx), Nat.min_eq_right (by omega)]
  · rw [if_neg (nI_nlt (by omega) hn), Nat.min_eq_left (by omega)]
theorem lst_gt {i L : Nat} (hi : i < 2 ^ 30) (hL : L < 2 ^ 30) : nI L - 1 < nI i ↔ L ≤ i := by
  rw [Int32.lt_iff_toInt_lt, nI_toInt (by omega), show (1 : Int32) = nI 1 from rfl, pk_sub_toInt (by omega) (by decide)]
  omega
theorem lst_sub {a b : Nat} : nI (a + b) - 1 = nI a + nI b - 1 := by rw [nI_add]

set_option maxRecDepth 100000 in
set_option maxHeartbeats 4000000 in
theorem w_due {g : zG} {d : Nat} {F : zF} {μ0 : zMem} {v D n b : Nat} {h : Int32} {c : Nat → Int32} (hF : okF F) (hv : v < fV F) (hn : n ≤ 60) (hl : ∀ k, k < n → μ0.1 66 k = lefF F b D h c k) (hD : D ≤ 998) (hd : 6 ≤ d) : ∀ (j i : Nat) (μ : zMem), i + j = n → oX F μ → zq (n1 67) μ0 μ → (∀ k, k < i → μ.1 67 k = dueF F b D h c v k) → zW g L_fillDue d 3 [some (.ref 5), some (.int (nI n)), some (.int (nI v)), some (.int (nI D)), some (.int h), some (.int (nI i))] [] μ (fun r μ' => r = none ∧ zq (n1 67) μ0 μ' ∧ ∀ k, k < n → μ'.1 67 k = dueF F b D h c v k) := by
  intro j
  induction j with
  | zero =>
    intro i  μ hi ho hz hv0
    have hi : n = i := by omega
    subst hi
    refine zb L_fillDue_s3 rfl ?_
    refine z_cge L_fillDue_d6 (tgt := 44) rfl (fun h6 => ?_) (fun h6 => absurd (Int32.le_refl _) h6)
    refine z_retV L_fillDue_d44 rfl ?_
    exact ⟨rfl, hz, hv0⟩
  | succ j ih =>
    intro i  μ hi ho hz hv0
    have hilt : i < n := by omega
    have ei : (nI i).toNatClampNeg = i := nI_clamp (by omega)
    have hvi : vp_in (nI i) 60 := vp_in_nI (by omega) (by omega)
    have hli : μ.1 66 i = lefF F b D h c i := by rw [hz.1 66 i rfl]; exact hl i hilt
    refine zb L_fillDue_s3 rfl ?_
    refine z_cge L_fillDue_d6 (tgt := 44) rfl (fun h6 => absurd h6 (nI_ge hilt (by omega))) (fun h6 => ?_)
    refine zb1 L_fillDue_s9 rfl hvi ?_
    rw [nI_add]
    refine zcallV L_fillDue_d33 k5_57 (by omega) (x_offByVowN hF (by omega) hv ho) rfl rfl rfl (Nat.le_of_ble_eq_true rfl) ?_
    rintro _ μ1 ⟨rfl, hz1⟩
    have hv0a : ∀ k, k < i → μ1.1 67 k = dueF F b D h c v k := fun k hk => by rw [hz1.1 67 k rfl]; exact hv0 k hk
    replace hz := hz.tr (hz1.mono nS_n1)
    replace ho := ho.q (hz1.mono nS_sX)
    refine zb1 L_fillDue_s36 rfl hvi ?_
    rw [nI_1, ei, hli]
    refine ih (i + 1) _ (by omega) (ho.q (zq.w (m := sX) rfl)) (hz.tr (zq.w rfl)) (fun k hk => ?_)
    rw [zpI_at]
    by_cases y : k = i
    · rw [if_pos y, y]
      rfl
    · rw [if_neg y]
      exact hv0a k (by omega)

set_option maxRecDepth 100000 in
set_option maxHeartbeats 4000000 in
theorem x_due {g : zG} {d : Nat} {F : zF} {μ : zMem} {v D n b : Nat} {h : Int32} {c : Nat → Int32} (hF : okF F) (hv : v < fV F) (hn : n ≤ 60) (hl : ∀ k, k < n → μ.1 66 k = lefF F b D h c k) (hD : D ≤ 998) (hd : 6 ≤ d) (ho : oX F μ) : zM g d L_fillDue [.ref 5, .int (nI n), .int (nI v), .int (nI D), .int h] μ (fun r μ' => r = none ∧ zq (n1 67) μ μ' ∧ ∀ k, k < n → μ'.1 67 k = dueF F b D h c v k) := by
  refine zM_of (by decide +kernel) rfl rfl (Nat.le_of_ble_eq_true rfl) rfl ?_
  refine zb L_fillDue_s0 rfl ?_
  exact w_due hF hv hn hl hD hd n 0 μ (by omega) ho zq.rf (fun k hk => by omega)

set_option maxRecDepth 100000 in
set_option maxHeartbeats 4000000 in
theorem w_after {g : zG} {d : Nat} {F : zF} {μ0 : zMem} {v L : Nat} {h : Int32} (hv : v < 12) (hL : L ≤ 999) (hd : 5 ≤ d) : ∀ (j i : Nat) (μ : zMem), i + j = L → oX F μ → zq (n1 68) μ0 μ → (∀ k, k < i → μ.1 68 k = aftF F v h k) → zW g L_fillAfter d 3 [some (.ref 5), some (.int (nI v)), some (.int (nI L - 1)), some (.int h), some (.int (nI i))] [] μ (fun r μ' => r = none ∧ zq (n1 68) μ0 μ' ∧ ∀ k, k < L → μ'.1 68 k = aftF F v h k) := by
  intro j
  induction j with
  | zero =>
    intro i  μ hi ho hz hv0
    have hi : L = i := by omega
    subst hi
    refine zb L_fillAfter_s3 rfl ?_
    refine z_cgt L_fillAfter_d6 (tgt := 50) rfl (fun h6 => ?_) (fun h6 => absurd ((lst_gt (by omega) (by omega)).mpr (Nat.le_refl _)) h6)
    refine z_retV L_fillAfter_d50 rfl ?_
    exact ⟨rfl, hz, hv0⟩
  | succ j ih =>
    intro i  μ hi ho hz hv0
    have hilt : i < L := by omega
    have ei : (nI i).toNatClampNeg = i := nI_clamp (by omega)
    have hvi : vp_in (nI i) 999 := vp_in_nI (by omega) (by omega)
    have hvv : vp_in (nI v) 12 := vp_in_nI (by omega) (by omega)
    have ev : (nI v).toNatClampNeg = v := nI_clamp (by omega)
    have e56 := ho.e56
    refine zb L_fillAfter_s3 rfl ?_
    refine z_cgt L_fillAfter_d6 (tgt := 50) rfl (fun h6 => absurd ((lst_gt (by omega) (by omega)).mp h6) (by omega)) (fun h6 => ?_)
    refine zb L_fillAfter_s9 rfl ?_
    refine z_cgt L_fillAfter_d14 (tgt := 50) rfl (fun h14 => absurd h14 (Int32.not_lt.mpr (nI_le (b := 998) (by omega) (by omega)))) (fun h14 => ?_)
    refine zb1 L_fillAfter_s17 rfl (by first | exact hvi | exact hvv) ?_
    refine zcallV L_fillAfter_d40 k5_53 (by omega) (x_offIf (by omega) (by omega) ho) rfl rfl rfl (Nat.le_of_ble_eq_true rfl) ?_
    rintro _ μ1 ⟨rfl, hz1⟩
    have hv0a : ∀ k, k < i → μ1.1 68 k = aftF F v h k := fun k hk => by rw [hz1.1 68 k rfl]; exact hv0 k hk
    replace hz := hz.tr (hz1.mono nS_n1)
    replace ho := ho.q (hz1.mono nS_sX)
    refine zb1 L_fillAfter_s43 rfl (by first | exact hvi | exact hvv) ?_
    rw [nI_1, ei, e56, ev, ofI_giv0 F v _ _ h (nI_pos' (by omega))]
    refine ih (i + 1) _ (by omega) (ho.q (zq.w (m := sX) rfl)) (hz.tr (zq.w rfl)) (fun k hk => ?_)
    rw [zpI_at]
    by_cases y : k = i
    · rw [if_pos y, y]
      rfl
    · rw [if_neg y]
      exact hv0a k (by omega)

set_option maxRecDepth 100000 in
set_option maxHeartbeats 4000000 in
theorem x_after {g : zG} {d : Nat} {F : zF} {μ : zMem} {v L : Nat} {h : Int32} (hv : v < 12) (hL : L ≤ 999) (hd : 5 ≤ d) (ho : oX F μ) : zM g d L_fillAfter [.ref 5, .int (nI v), .int (nI L - 1), .int h] μ (fun r μ' => r = none ∧ zq (n1 68) μ μ' ∧ ∀ k, k < L → μ'.1 68 k = aftF F v h k) := by
  refine zM_of (by decide +kernel) rfl rfl (Nat.le_of_ble_eq_true rfl) rfl ?_
  refine zb L_fillAfter_s0 rfl ?_
  exact w_after hv hL hd L 0 μ (by omega) ho zq.rf (fun k hk => by omega)

set_option maxRecDepth 100000 in
set_option maxHeartbeats 4000000 in
theorem w_lead {g : zG} {d : Nat} {n : Nat} {x : Int32} (hn : n ≤ 60) : ∀ (j i : Nat) (μ : zMem), i + j = n → (∀ k, k < i → μ.1 67 k = x) → zW g L_leadKept d 2 [some (.ref 5), some (.int (nI n)), some (.int x), some (.int (nI i))] [] μ (fun r μ' => (∃ k, r = some (.int (nI k)) ∧ ldP (μ.1 67) x n k) ∧ μ' = μ) := by
  intro j
  induction j with
  | zero =>
    intro i  μ hi  hv0
    have hi : n = i := by omega
    subst hi
    refine zb L_leadKept_s2 rfl ?_
    refine z_cge L_leadKept_d4 (tgt := 23) rfl (fun h4 => ?_) (fun h4 => absurd (Int32.le_refl _) h4)
    refine zb L_leadKept_s23 rfl ?_
    refine z_ret L_leadKept_d24 rfl ?_
    exact ⟨⟨_, rfl, Nat.le_refl _, hv0, fun z => absurd z (Nat.lt_irrefl _)⟩, rfl⟩
  | succ j ih =>
    intro i  μ hi  hv0
    have hilt : i < n := by omega
    have ei : (nI i).toNatClampNeg = i := nI_clamp (by omega)
    have hvi : vp_in (nI i) 60 := vp_in_nI (by omega) (by omega)
    refine zb L_leadKept_s2 rfl ?_
    refine z_cge L_leadKept_d4 (tgt := 23) rfl (fun h4 => absurd h4 (nI_ge hilt (by omega))) (fun h4 => ?_)
    refine zb1 L_leadKept_s7 rfl hvi ?_
    refine z_cne L_leadKept_d14 (tgt := 23) rfl (fun h14 => ?_) (fun h14 => ?_)
    · refine zb L_leadKept_s23 rfl ?_
      refine z_ret L_leadKept_d24 rfl ?_
      rw [ei] at h14
      exact ⟨⟨i, rfl, by omega, hv0, fun _ => h14⟩, rfl⟩
    · refine zb L_leadKept_s17 rfl ?_
      rw [ei] at h14
      rw [nI_1]
      refine ih (i + 1) _ (by omega) (fun k hk => ?_)
      by_cases y : k = i
      · rw [y]; exact h14
      · exact hv0 k (by omega)

set_option maxRecDepth 100000 in
set_option maxHeartbeats 4000000 in
theorem x_lead {g : zG} {d : Nat} {μ : zMem} {n : Nat} {x : Int32} (hn : n ≤ 60) : zM g d L_leadKept [.ref 5, .int (nI n), .int x] μ (fun r μ' => (∃ k, r = some (.int (nI k)) ∧ ldP (μ.1 67) x n k) ∧ μ' = μ) := by
  refine zM_of (by decide +kernel) rfl rfl (Nat.le_of_ble_eq_true rfl) rfl ?_
  refine zb L_leadKept_s0 rfl ?_
  exact w_lead hn n 0 μ (by omega) (fun k hk => by omega)

theorem snc_no {f a : Nat → Int32} {x : Int32} {D n s k : Nat} (hk : ldP f x n k) (h : k < min (s - D) n) : ¬ sncP f a x D n s := fun z => by
  have h1 := z k (by omega)
  rw [if_pos (by omega)] at h1
  exact hk.2.2 (by omega) h1
theorem snc_lo {f : Nat → Int32} {x : Int32} {D n s k : Nat} (hk : ldP f x n k) (h : ¬ k < min (s - D) n) : ∀ i, i < n → D + i < s → f i = x := fun i hi hs => hk.2.1 i (by omega)

set_option maxRecDepth 100000 in
set_option maxHeartbeats 4000000 in
theorem w_snc {g : zG} {d : Nat} {n D s k : Nat} {x : Int32} (hn : n ≤ 60) (hD : D + n ≤ 999) (hs : s ≤ 999) {y5 : Int32} : ∀ (j i : Nat) (μ : zMem), i + j = n → (min (s - D) n ≤ i) → (∀ q, q < i → μ.1 67 q = if D + q < s then x else μ.1 68 (D + q - s)) → zW g L_isSince d 26 [some (.ref 5), some (.int (nI s)), some (.int (nI D)), some (.int (nI n)), some (.int (nI k)), some (.int y5), some (.int (nI i))] [] μ (fun r μ' => (∃ w : Int32, r = some (.int w) ∧ (w = 0 ∨ w = 1) ∧ (¬ w = 0 ↔ sncP (μ.1 67) (μ.1 68) x D n s)) ∧ μ' = μ) := by
  intro j
  induction j with
  | zero =>
    intro i  μ hi  hv0 hv1
    have hi : n = i := by omega
    subst hi
    refine zb L_isSince_s26 rfl ?_
    refine z_cge L_isSince_d29 (tgt := 61) rfl (fun h29 => ?_) (fun h29 => absurd (Int32.le_refl _) h29)
    refine zb L_isSince_s61 rfl ?_
    refine z_retZ L_isSince_d62 rfl (by first | exact Or.inl rfl | exact Or.inr rfl) ?_
    exact ⟨⟨1, rfl, Or.inr rfl, ⟨fun _ => hv1, fun _ => by decide⟩⟩, rfl⟩
  | succ j ih =>
    intro i  μ hi  hv0 hv1
    have hilt : i < n := by omega
    have ei : (nI i).toNatClampNeg = i := nI_clamp (by omega)
    have hvi : vp_in (nI i) 60 := vp_in_nI (by omega) (by omega)
    have hge : s ≤ D + i := by omega
    have ex : nI D + nI i - nI s = nI (D + i - s) := by rw [nI_add, pk_sub hge]
    have hvx : vp_in (nI D + nI i - nI s) 999 := by rw [ex]; exact vp_in_nI (by omega) (by omega)
    have ecx : (nI D + nI i - nI s).toNatClampNeg = D + i - s := by rw [ex]; exact nI_clamp (by omega)
    refine zb L_isSince_s26 rfl ?_
    refine z_cge L_isSince_d29 (tgt := 61) rfl (fun h29 => absurd h29 (nI_ge hilt (by omega))) (fun h29 => ?_)
    refine zb2 L_isSince_s32 rfl (by first | exact hvi | exact hvx) (by first | exact hvi | exact hvx) ?_
    refine z_ceq L_isSince_d50 (tgt := 55) rfl (fun h50 => ?_) (fun h50 => ?_)
    · refine zb L_isSince_s55 rfl ?_
      rw [ei, ecx] at h50
      rw [nI_1]
      refine ih (i + 1) _ (by omega) (by omega) (fun q hq => ?_)
      by_cases y : q = i
      · rw [y, if_neg (by omega)]; exact h50
      · exact hv1 q (by omega)
    · refine zb L_isSince_s53 rfl ?_
      refine z_retZ L_isSince_d54 rfl (by first | exact Or.inl rfl | exact Or.inr rfl) ?_
      rw [ei, ecx] at h50
      exact ⟨⟨0, rfl, Or.inl rfl, ⟨fun z => absurd rfl z, fun z => absurd ((z i hilt).trans (if_neg (by omega))) h50⟩⟩, rfl⟩

set_option maxRecDepth 100000 in
set_option maxHeartbeats 4000000 in
theorem x_isSince {g : zG} {d : Nat} {μ : zMem} {n D s k : Nat} {x : Int32} (hd : 1 ≤ d) (hn : n ≤ 60) (hD : D + n ≤ 999) (hs : s ≤ 999) (hk : ldP (μ.1 67) x n k) : zM g d L_isSince [.ref 5, .int (nI s), .int (nI D), .int (nI n), .int (nI k)] μ (fun r μ' => (∃ w : Int32, r = some (.int w) ∧ (w = 0 ∨ w = 1) ∧ (¬ w = 0 ↔ sncP (μ.1 67) (μ.1 68) x D n s)) ∧ μ' = μ) := by
  refine zM_of (by decide +kernel) rfl rfl (Nat.le_of_ble_eq_true rfl) rfl ?_
  have hk1 := hk.1
  have hmn : min (s - D) n ≤ n := Nat.min_le_right _ _
  refine zb L_isSince_s0 rfl ?_
  refine zmax L_isSince_d4 k5_137 (by omega) (Nat.le_of_ble_eq_true rfl) ?_
  rw [mx_is (by omega) (by omega)]
  refine zb L_isSince_s7 rfl ?_
  refine zmin L_isSince_d8 k5_142 (by omega) (Nat.le_of_ble_eq_true rfl) ?_
  rw [mn_is (by omega) (by omega)]
  refine zb L_isSince_s11 rfl ?_
  refine z_cle L_isSince_d17 (tgt := 22) rfl (fun h17 => ?_) (fun h17 => ?_)
  · refine zb L_isSince_s22 rfl ?_
    have hge : ¬ k < min (s - D) n := fun z => absurd h17 (nI_ge z (by omega))
    refine w_snc hn hD hs (n - min (s - D) n) (min (s - D) n) μ (by omega) (Nat.le_refl _) (fun q hq => ?_)
    rw [if_pos (by omega)]
    exact snc_lo hk hge q (by omega) (by omega)
  · refine zb L_isSince_s20 rfl ?_
    refine z_retZ L_isSince_d21 rfl (by first | exact Or.inl rfl | exact Or.inr rfl) ?_
    have hlt : k < min (s - D) n := (nI_ltI (by omega) (by omega)).mp (Int32.not_le.mp h17)
    exact ⟨⟨0, rfl, Or.inl rfl, ⟨fun z => absurd rfl z, fun z => absurd z (snc_no hk hlt)⟩⟩, rfl⟩
