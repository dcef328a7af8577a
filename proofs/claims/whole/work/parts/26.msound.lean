/-! what is sounded: words for both, and the reference's sums -/
abbrev zF : Type := (Nat × Nat) × (Nat → Int32) × (Nat → Int32) × (Nat → Int32) × (Nat → Int32) × (Nat → Int32) × (Nat → Int32) × (Nat → Int32) × (Int32 → Int32 → Int32 → Int32 → Int32 → Int32 → Int32)
def fB (F : zF) : Nat := F.1.1
def fV (F : zF) : Nat := F.1.2
def ftone (F : zF) : Nat → Int32 := F.2.1
def ftune (F : zF) : Nat → Int32 := F.2.2.1
def fbell (F : zF) : Nat → Int32 := F.2.2.2.1
def fwt (F : zF) : Nat → Int32 := F.2.2.2.2.1
def fby (F : zF) : Nat → Int32 := F.2.2.2.2.2.1
def fbr (F : zF) : Nat → Int32 := F.2.2.2.2.2.2.1
def fag (F : zF) : Nat → Int32 := F.2.2.2.2.2.2.2.1
def flaw (F : zF) : Int32 → Int32 → Int32 → Int32 → Int32 → Int32 → Int32 := F.2.2.2.2.2.2.2.2
def fM (μ : zMem) : zF := (((μ.1 0 0).toNatClampNeg, (μ.1 0 1).toNatClampNeg), μ.1 25, μ.1 26, μ.1 27, μ.1 28, μ.1 29, μ.1 30, μ.1 31, lawM μ)
/-- the reference's counts are counts, its law is one -/
def okM (μ : zMem) : Prop := (μ.1 0 0 = nI (fB (fM μ)) ∧ fB (fM μ) ≤ 6) ∧ (μ.1 0 1 = nI (fV (fM μ)) ∧ fV (fM μ) ≤ 12) ∧ lawOK μ
def mokF (m : Nat → Nat → Bool) : Prop := (m 0 0 = false ∧ m 0 1 = false ∧ m 0 5 = false ∧ m 0 8 = false) ∧ ∀ k, m 25 k = false ∧ m 26 k = false ∧ m 27 k = false ∧ m 28 k = false ∧ m 29 k = false ∧ m 30 k = false ∧ m 31 k = false ∧ m 33 k = false
theorem zq_fM {m : Nat → Nat → Bool} {μ μ' : zMem} (hm : mokF m) (h : zq m μ μ') : fM μ' = fM μ ∧ (okM μ → okM μ') := by
  obtain ⟨⟨m0, m1, m5, m8⟩, mr⟩ := hm
  have e0 := h.1 0 0 m0
  have e1 := h.1 0 1 m1
  have e5 := h.1 0 5 m5
  have e8 := h.1 0 8 m8
  have r25 : μ'.1 25 = μ.1 25 := funext fun k => h.1 25 k (mr k).1
  have r26 : μ'.1 26 = μ.1 26 := funext fun k => h.1 26 k (mr k).2.1
  have r27 : μ'.1 27 = μ.1 27 := funext fun k => h.1 27 k (mr k).2.2.1
  have r28 : μ'.1 28 = μ.1 28 := funext fun k => h.1 28 k (mr k).2.2.2.1
  have r29 : μ'.1 29 = μ.1 29 := funext fun k => h.1 29 k (mr k).2.2.2.2.1
  have r30 : μ'.1 30 = μ.1 30 := funext fun k => h.1 30 k (mr k).2.2.2.2.2.1
  have r31 : μ'.1 31 = μ.1 31 := funext fun k => h.1 31 k (mr k).2.2.2.2.2.2.1
  have r33 : μ'.1 33 = μ.1 33 := funext fun k => h.1 33 k (mr k).2.2.2.2.2.2.2
  have el : lawM μ' = lawM μ := by unfold lawM; rw [e8, r33, e5]
  have ef : fM μ' = fM μ := by unfold fM; rw [e0, e1, r25, r26, r27, r28, r29, r30, r31, el]
  refine ⟨ef, fun ho => ?_⟩
  unfold okM lawOK
  rw [ef, e0, e1, e8, r33, e5]
  exact ho
theorem sG_ok : mokF sG := ⟨⟨rfl, rfl, rfl, rfl⟩, fun _ => ⟨rfl, rfl, rfl, rfl, rfl, rfl, rfl, rfl⟩⟩
def zsum (f : Nat → Int32) : Nat → Int32
  | 0 => 0
  | n + 1 => zsum f n + f n
theorem zsum_s (f : Nat → Int32) (n : Nat) : zsum f (n + 1) = zsum f n + f n := rfl
abbrev kept (F : zF) (v : Nat) (day : Int32) : Prop := day < fbr F v ∨ (fbr F v < fag F v ∧ fag F v ≤ day)
def giv (F : zF) (v : Nat) (b k dd h : Int32) : Int32 := flaw F (fwt F v) k (if k = 0 then dd else 0) h b (fby F v)
def pu (F : zF) (v : Nat) (b day h : Int32) : Int32 := giv F v b (zB (kept F v day)) (day - fbr F v) h
def offT (F : zF) (b day h : Int32) (v : Nat) : Int32 := if fbell F v = b then pu F v b day h else 0
def offs (F : zF) (b day h : Int32) : Int32 := zsum (offT F b day h) (fV F)
def zfind (p : Nat → Prop) [DecidablePred p] : Nat → Nat → Int32
  | _, 0 => -2
  | i, k + 1 => if p i then nI i else zfind p (i + 1) k
/-- the first of the greatest -/
def zmst (f : Nat → Int32) : Nat → Int32
  | 0 => -2
  | n + 1 => if zmst f n = -2 ∨ f (zmst f n).toNatClampNeg < f n then nI n else zmst f n
def zab (v : Int32) : Int32 := if v < 0 then -v else v

set_option maxRecDepth 100000 in
set_option maxHeartbeats 4000000 in
theorem c_M_isIn {g : zG} {d : Nat} {μ : zMem} (v lo hi : Int32) : zM g d M_isIn [.ref 0, .int v, .int lo, .int hi] μ (fun r μ' => r = some (.int (zB (lo ≤ v ∧ v ≤ hi))) ∧ μ' = μ) := by
  refine zM_of (by decide +kernel) rfl rfl (Nat.le_of_ble_eq_true rfl) rfl ?_
  refine zb M_isIn_s0 rfl ?_
  refine z_clt M_isIn_d2 (tgt := 14) rfl (fun h2 => ?_) (fun h2 => ?_)
  · refine zb M_isIn_s14 rfl ?_
    refine z_retZ M_isIn_d15 rfl (by first | exact Or.inl rfl | exact Or.inr rfl) ?_
    first | exact ⟨by rw [zB_t (by grind)], rfl⟩ | exact ⟨by rw [zB_f (by grind)], rfl⟩
  · refine zb M_isIn_s5 rfl ?_
    refine z_cgt M_isIn_d7 (tgt := 14) rfl (fun h7 => ?_) (fun h7 => ?_)
    · refine zb M_isIn_s14 rfl ?_
      refine z_retZ M_isIn_d15 rfl (by first | exact Or.inl rfl | exact Or.inr rfl) ?_
      first | exact ⟨by rw [zB_t (by grind)], rfl⟩ | exact ⟨by rw [zB_f (by grind)], rfl⟩
    · refine zb M_isIn_s10 rfl ?_
      refine z_retZ M_isIn_d15 rfl (by first | exact Or.inl rfl | exact Or.inr rfl) ?_
      first | exact ⟨by rw [zB_t (by grind)], rfl⟩ | exact ⟨by rw [zB_f (by grind)], rfl⟩

set_option maxRecDepth 100000 in
set_option maxHeartbeats 4000000 in
theorem c_M_isBell {g : zG} {d : Nat} {μ : zMem} (v : Int32) : zM g d M_isBell [.ref 0, .int v] μ (fun r μ' => r = some (.int (zB (0 ≤ v ∧ v < μ.1 0 0))) ∧ μ' = μ) := by
  refine zM_of (by decide +kernel) rfl rfl (Nat.le_of_ble_eq_true rfl) rfl ?_
  refine zb M_isBell_s0 rfl ?_
  refine z_lt M_isBell_d1 (tgt := 16) rfl (fun h1 => ?_) (fun h1 => ?_)
  · refine zb M_isBell_s16 rfl ?_
    refine z_retZ M_isBell_d17 rfl (by first | exact Or.inl rfl | exact Or.inr rfl) ?_
    first | exact ⟨by rw [zB_t (by grind)], rfl⟩ | exact ⟨by rw [zB_f (by grind)], rfl⟩
  · refine zb M_isBell_s4 rfl ?_
    refine z_cge M_isBell_d9 (tgt := 16) rfl (fun h9 => ?_) (fun h9 => ?_)
    · refine zb M_isBell_s16 rfl ?_
      refine z_retZ M_isBell_d17 rfl (by first | exact Or.inl rfl | exact Or.inr rfl) ?_
      first | exact ⟨by rw [zB_t (by grind)], rfl⟩ | exact ⟨by rw [zB_f (by grind)], rfl⟩
    · refine zb M_isBell_s12 rfl ?_
      refine z_retZ M_isBell_d17 rfl (by first | exact Or.inl rfl | exact Or.inr rfl) ?_
      first | exact ⟨by rw [zB_t (by grind)], rfl⟩ | exact ⟨by rw [zB_f (by grind)], rfl⟩

set_option maxRecDepth 100000 in
set_option maxHeartbeats 4000000 in
theorem c_M_isVow {g : zG} {d : Nat} {μ : zMem} (v : Int32) : zM g d M_isVow [.ref 0, .int v] μ (fun r μ' => r = some (.int (zB (0 ≤ v ∧ v < μ.1 0 1))) ∧ μ' = μ) := by
  refine zM_of (by decide +kernel) rfl rfl (Nat.le_of_ble_eq_true rfl) rfl ?_
  refine zb M_isVow_s0 rfl ?_
  refine z_lt M_isVow_d1 (tgt := 16) rfl (fun h1 => ?_) (fun h1 => ?_)
  · refine zb M_isVow_s16 rfl ?_
    refine z_retZ M_isVow_d17 rfl (by first | exact Or.inl rfl | exact Or.inr rfl) ?_
    first | exact ⟨by rw [zB_t (by grind)], rfl⟩ | exact ⟨by rw [zB_f (by grind)], rfl⟩
  · refine zb M_isVow_s4 rfl ?_
    refine z_cge M_isVow_d9 (tgt := 16) rfl (fun h9 => ?_) (fun h9 => ?_)
    · refine zb M_isVow_s16 rfl ?_
      refine z_retZ M_isVow_d17 rfl (by first | exact Or.inl rfl | exact Or.inr rfl) ?_
      first | exact ⟨by rw [zB_t (by grind)], rfl⟩ | exact ⟨by rw [zB_f (by grind)], rfl⟩
    · refine zb M_isVow_s12 rfl ?_
      refine z_retZ M_isVow_d17 rfl (by first | exact Or.inl rfl | exact Or.inr rfl) ?_
      first | exact ⟨by rw [zB_t (by grind)], rfl⟩ | exact ⟨by rw [zB_f (by grind)], rfl⟩

set_option maxRecDepth 100000 in
set_option maxHeartbeats 4000000 in
theorem c_M_abs {g : zG} {d : Nat} {μ : zMem} (v : Int32) : zM g d M_abs [.ref 0, .int v] μ (fun r μ' => r = some (.int (zab v)) ∧ μ' = μ) := by
  refine zM_of (by decide +kernel) rfl rfl (Nat.le_of_ble_eq_true rfl) rfl ?_
  refine zb M_abs_s0 rfl ?_
  refine z_ge M_abs_d1 (tgt := 9) rfl (fun h1 => ?_) (fun h1 => ?_)
  · refine zb M_abs_s9 rfl ?_
    refine z_ret M_abs_d10 rfl ?_
    unfold zab
    first | exact ⟨by rw [if_pos (by grind)], rfl⟩ | exact ⟨by rw [if_neg (by grind)], rfl⟩
  · refine zb M_abs_s4 rfl ?_
    refine z_ret M_abs_d10 rfl ?_
    unfold zab
    first | exact ⟨by rw [if_pos (by grind)], rfl⟩ | exact ⟨by rw [if_neg (by grind)], rfl⟩

set_option maxRecDepth 100000 in
set_option maxHeartbeats 4000000 in
theorem c_M_isTime {g : zG} {d : Nat} {μ : zMem} (v : Int32) : zM g d M_isTime [.ref 0, .int v] μ (fun r μ' => r = some (.int (zB (0 ≤ v ∧ v / 100 ≤ 998 ∧ v - v / 100 * 100 < 24))) ∧ μ' = μ) := by
  refine zM_of (by decide +kernel) rfl rfl (Nat.le_of_ble_eq_true rfl) rfl ?_
  refine zb M_isTime_s0 rfl ?_
  refine z_lt M_isTime_d1 (tgt := 27) rfl (fun h1 => ?_) (fun h1 => ?_)
  · refine zb M_isTime_s27 rfl ?_
    refine z_retZ M_isTime_d28 rfl (by first | exact Or.inl rfl | exact Or.inr rfl) ?_
    first | exact ⟨by rw [zB_t (by grind)], rfl⟩ | exact ⟨by rw [zB_f (by grind)], rfl⟩
  · refine zb1 M_isTime_s4 rfl (by first | assumption | exact vp_in_nI (by omega) (by omega) | decide) ?_
    refine z_cgt M_isTime_d11 (tgt := 27) rfl (fun h11 => ?_) (fun h11 => ?_)
    · refine zb M_isTime_s27 rfl ?_
      refine z_retZ M_isTime_d28 rfl (by first | exact Or.inl rfl | exact Or.inr rfl) ?_
      first | exact ⟨by rw [zB_t (by grind)], rfl⟩ | exact ⟨by rw [zB_f (by grind)], rfl⟩
    · refine zb1 M_isTime_s14 rfl (by first | assumption | exact vp_in_nI (by omega) (by omega) | decide) ?_
      refine z_cge M_isTime_d20 (tgt := 27) rfl (fun h20 => ?_) (fun h20 => ?_)
      · refine zb M_isTime_s27 rfl ?_
        refine z_retZ M_isTime_d28 rfl (by first | exact Or.inl rfl | exact Or.inr rfl) ?_
        first | exact ⟨by rw [zB_t (by grind)], rfl⟩ | exact ⟨by rw [zB_f (by grind)], rfl⟩
      · refine zb M_isTime_s23 rfl ?_
        refine z_retZ M_isTime_d28 rfl (by first | exact Or.inl rfl | exact Or.inr rfl) ?_
        first | exact ⟨by rw [zB_t (by grind)], rfl⟩ | exact ⟨by rw [zB_f (by grind)], rfl⟩

set_option maxRecDepth 100000 in
set_option maxHeartbeats 4000000 in
theorem c_M_isHeardTime {g : zG} {d : Nat} {μ : zMem} (v : Int32) : zM g d M_isHeardTime [.ref 0, .int v] μ (fun r μ' => r = some (.int (zB (0 ≤ v ∧ v / 100 < 24))) ∧ μ' = μ) := by
  refine zM_of (by decide +kernel) rfl rfl (Nat.le_of_ble_eq_true rfl) rfl ?_
  refine zb M_isHeardTime_s0 rfl ?_
  refine z_lt M_isHeardTime_d1 (tgt := 17) rfl (fun h1 => ?_) (fun h1 => ?_)
  · refine zb M_isHeardTime_s17 rfl ?_
    refine z_retZ M_isHeardTime_d18 rfl (by first | exact Or.inl rfl | exact Or.inr rfl) ?_
    first | exact ⟨by rw [zB_t (by grind)], rfl⟩ | exact ⟨by rw [zB_f (by grind)], rfl⟩
  · refine zb1 M_isHeardTime_s4 rfl (by first | assumption | exact vp_in_nI (by omega) (by omega) | decide) ?_
    refine z_cge M_isHeardTime_d10 (tgt := 17) rfl (fun h10 => ?_) (fun h10 => ?_)
    · refine zb M_isHeardTime_s17 rfl ?_
      refine z_retZ M_isHeardTime_d18 rfl (by first | exact Or.inl rfl | exact Or.inr rfl) ?_
      first | exact ⟨by rw [zB_t (by grind)], rfl⟩ | exact ⟨by rw [zB_f (by grind)], rfl⟩
    · refine zb M_isHeardTime_s13 rfl ?_
      refine z_retZ M_isHeardTime_d18 rfl (by first | exact Or.inl rfl | exact Or.inr rfl) ?_
      first | exact ⟨by rw [zB_t (by grind)], rfl⟩ | exact ⟨by rw [zB_f (by grind)], rfl⟩

set_option maxRecDepth 100000 in
set_option maxHeartbeats 4000000 in
theorem c_M_isKept {g : zG} {d : Nat} {μ : zMem} {i : Nat} (day : Int32) (hi : i < 12) : zM g d M_isKept [.ref 0, .int (nI i), .int day] μ (fun r μ' => r = some (.int (zB (kept (fM μ) i day))) ∧ μ' = μ) := by
  refine zM_of (by decide +kernel) rfl rfl (Nat.le_of_ble_eq_true rfl) rfl ?_
  have ei : (nI i).toNatClampNeg = i := nI_clamp (by omega)
  have hvi : vp_in (nI i) 12 := vp_in_nI hi (by omega)
  show zW _ _ _ _ _ _ _ (fun r μ' => r = some (.int (zB (day < μ.1 30 i ∨ (μ.1 30 i < μ.1 31 i ∧ μ.1 31 i ≤ day)))) ∧ μ' = μ)
  refine zb1 M_isKept_s0 rfl (by first | assumption | exact vp_in_nI (by omega) (by omega) | decide) ?_
  refine z_clt M_isKept_d7 (tgt := 35) rfl (fun h7 => ?_) (fun h7 => ?_)
  · refine zb M_isKept_s35 rfl ?_
    refine z_retZ M_isKept_d40 rfl (by first | exact Or.inl rfl | exact Or.inr rfl) ?_
    (try simp only [ei] at h7); (try simp only [ei] at h22); (try simp only [ei] at h32)
    first | exact ⟨by rw [zB_t (by grind)], rfl⟩ | exact ⟨by rw [zB_f (by grind)], rfl⟩
  · refine zb2 M_isKept_s10 rfl (by first | assumption | exact vp_in_nI (by omega) (by omega) | decide) (by first | assumption | exact vp_in_nI (by omega) (by omega) | decide) ?_
    refine z_cge M_isKept_d22 (tgt := 39) rfl (fun h22 => ?_) (fun h22 => ?_)
    · refine zb M_isKept_s39 rfl ?_
      refine z_retZ M_isKept_d40 rfl (by first | exact Or.inl rfl | exact Or.inr rfl) ?_
      (try simp only [ei] at h7); (try simp only [ei] at h22); (try simp only [ei] at h32)
      first | exact ⟨by rw [zB_t (by grind)], rfl⟩ | exact ⟨by rw [zB_f (by grind)], rfl⟩
    · refine zb1 M_isKept_s25 rfl (by first | assumption | exact vp_in_nI (by omega) (by omega) | decide) ?_
      refine z_cgt M_isKept_d32 (tgt := 39) rfl (fun h32 => ?_) (fun h32 => ?_)
      · refine zb M_isKept_s39 rfl ?_
        refine z_retZ M_isKept_d40 rfl (by first | exact Or.inl rfl | exact Or.inr rfl) ?_
        (try simp only [ei] at h7); (try simp only [ei] at h22); (try simp only [ei] at h32)
        first | exact ⟨by rw [zB_t (by grind)], rfl⟩ | exact ⟨by rw [zB_f (by grind)], rfl⟩
      · refine zb M_isKept_s35 rfl ?_
        refine z_retZ M_isKept_d40 rfl (by first | exact Or.inl rfl | exact Or.inr rfl) ?_
        (try simp only [ei] at h7); (try simp only [ei] at h22); (try simp only [ei] at h32)
        first | exact ⟨by rw [zB_t (by grind)], rfl⟩ | exact ⟨by rw [zB_f (by grind)], rfl⟩

theorem c_M_giv {g : zG} {d : Nat} {μ : zMem} {i : Nat} {b k dd h : Int32} (hd : 45 ≤ d) (hi : i < 12) (hk : k = 0 ∨ k = 1) (hL : okM μ) : zM g d M_gives [.ref 0, .int (nI i), .int b, .int k, .int dd, .int h] μ (fun v μ' => v = some (.int (giv (fM μ) i b k dd h)) ∧ zq sG μ μ') := c_M_gives hd hi hk hL.2.2

set_option maxRecDepth 100000 in
set_option maxHeartbeats 4000000 in
theorem c_M_putsOn {g : zG} {d : Nat} {μ : zMem} {i : Nat} {b day h : Int32} (hd : 46 ≤ d) (hi : i < 12) (hL : okM μ) : zM g d M_putsOn [.ref 0, .int (nI i), .int b, .int day, .int h] μ (fun v μ' => v = some (.int (pu (fM μ) i b day h)) ∧ zq sG μ μ') := by
  refine zM_of (by decide +kernel) rfl rfl (Nat.le_of_ble_eq_true rfl) rfl ?_
  have ei : (nI i).toNatClampNeg = i := nI_clamp (by omega)
  have hvi : vp_in (nI i) 12 := vp_in_nI hi (by omega)
  refine zb M_putsOn_s0 rfl ?_
  refine zcallV M_putsOn_d3 k11_164 (by omega) (c_M_isKept _ hi) rfl rfl rfl (Nat.le_of_ble_eq_true rfl) ?_
  rintro _ _ ⟨rfl, rfl⟩
  refine zb1 M_putsOn_s6 rfl (by first | assumption | exact vp_in_nI (by omega) (by omega) | decide) ?_
  rw [ei]
  refine zcallV M_putsOn_d23 k11_252 (by omega) (c_M_giv (by omega) hi (zB_01 _) hL) rfl rfl rfl (Nat.le_of_ble_eq_true rfl) ?_
  rintro _ μ1 ⟨rfl, hz⟩
  refine z_ret M_putsOn_d26 rfl ?_
  exact ⟨rfl, hz⟩

set_option maxRecDepth 100000 in
set_option maxHeartbeats 4000000 in
theorem w_M_offOf {g : zG} {d : Nat} {μ0 : zMem} (hd : 47 ≤ d) (hok0 : okM μ0) {b day h : Int32} : ∀ (j i : Nat) (acc : Int32) (μ : zMem), i + j = fV (fM μ0) → zq sG μ0 μ → acc = zsum (offT (fM μ0) b day h) i → zW g M_offOf d 6 [some (.ref 0), some (.int b), some (.int day), some (.int h), some (.int acc), some (.int (nI i))] [] μ (fun r μ' => r = some (.int (offs (fM μ0) b day h)) ∧ zq sG μ0 μ') := by
  intro j
  induction j with
  | zero =>
    intro i acc μ hi hz hv0
    have hF := (zq_fM sG_ok hz).1
    have hok := (zq_fM sG_ok hz).2 hok0
    have h6 := hok.1.2
    have h12 := hok.2.1.2
    have hbd : μ.1 0 1 = nI (fV (fM μ0)) := by rw [← hF]; exact hok.2.1.1
    rw [hF] at h6 h12
    have hi : i = fV (fM μ0) := by omega
    subst hi
    refine zb M_offOf_s6 rfl ?_
    refine z_cge M_offOf_d12 (tgt := 46) rfl (fun h12 => ?_) (fun h12 => absurd (show μ.1 0 1 ≤ nI (fV (fM μ0)) by rw [hbd]; exact Int32.le_refl _) h12)
    refine zb M_offOf_s46 rfl ?_
    refine z_ret M_offOf_d48 rfl ?_
    exact ⟨by rw [hv0]; rfl, hz⟩
  | succ j ih =>
    intro i acc μ hi hz hv0
    have hF := (zq_fM sG_ok hz).1
    have hok := (zq_fM sG_ok hz).2 hok0
    have h6 := hok.1.2
    have h12 := hok.2.1.2
    have hbd : μ.1 0 1 = nI (fV (fM μ0)) := by rw [← hF]; exact hok.2.1.1
    rw [hF] at h6 h12
    have hilt : i < fV (fM μ0) := by omega
    have ei : (nI i).toNatClampNeg = i := nI_clamp (by omega)
    have hvi : vp_in (nI i) 12 := vp_in_nI (by omega) (by omega)
    refine zb M_offOf_s6 rfl ?_
    refine z_cge M_offOf_d12 (tgt := 46) rfl (fun h12 => absurd h12 (show ¬ μ.1 0 1 ≤ nI i by rw [hbd]; exact nI_ge hilt (by omega))) (fun h12 => ?_)
    refine zb1 M_offOf_s15 rfl (by first | assumption | exact vp_in_nI (by omega) (by omega) | decide) ?_
    refine z_cne M_offOf_d23 (tgt := 40) rfl (fun h23 => ?_) (fun h23 => ?_)
    · have hbe : ¬ fbell (fM μ0) i = b := by rw [← hF]; rw [ei] at h23; exact h23
      refine zb M_offOf_s40 rfl ?_
      rw [nI_1]
      first | exact ih (i + 1) _ _ (by omega) (hz.tr hz1) (by rw [zsum_s, ← hv0]; unfold offT; rw [if_pos hbe]) | exact ih (i + 1) _ _ (by omega) hz (by rw [zsum_s, ← hv0]; unfold offT; rw [if_neg hbe, Int32.add_zero])
    · have hbe : fbell (fM μ0) i = b := by rw [← hF]; rw [ei] at h23; exact h23
      refine zb M_offOf_s26 rfl ?_
      refine zcallV M_offOf_d34 k11_259 (by omega) (c_M_putsOn (by omega) (by omega) hok) rfl rfl rfl (Nat.le_of_ble_eq_true rfl) ?_
      rintro _ μ1 ⟨rfl, hz1⟩
      rw [hF]
      refine zb M_offOf_s37 rfl ?_
      rw [nI_1]
      first | exact ih (i + 1) _ _ (by omega) (hz.tr hz1) (by rw [zsum_s, ← hv0]; unfold offT; rw [if_pos hbe]) | exact ih (i + 1) _ _ (by omega) hz (by rw [zsum_s, ← hv0]; unfold offT; rw [if_neg hbe, Int32.add_zero])

set_option maxRecDepth 100000 in
set_option maxHeartbeats 4000000 in
theorem c_M_offOf {g : zG} {d : Nat} {μ : zMem} {b day h : Int32} (hd : 47 ≤ d) (hok : okM μ) : zM g d M_offOf [.ref 0, .int b, .int day, .int h] μ (fun r μ' => r = some (.int (offs (fM μ) b day h)) ∧ zq sG μ μ') := by
  refine zM_of (by decide +kernel) rfl rfl (Nat.le_of_ble_eq_true rfl) rfl ?_
  refine zb M_offOf_s0 rfl ?_
  exact w_M_offOf hd hok (fV (fM μ)) 0 0 μ (by omega) zq.rf rfl

set_option maxRecDepth 100000 in
set_option maxHeartbeats 4000000 in
theorem w_M_manyOff {g : zG} {d : Nat} {μ0 : zMem} (hd : 48 ≤ d) (hok0 : okM μ0) {day h : Int32} : ∀ (j i : Nat) (acc : Int32) (μ : zMem), i + j = fB (fM μ0) → zq sG μ0 μ → acc = zsum (fun b => zB (¬ offs (fM μ0) (nI b) day h = 0)) i → zW g M_manyOff d 5 [some (.ref 0), some (.int day), some (.int h), some (.int acc), some (.int (nI i))] [] μ (fun r μ' => r = some (.int (zsum (fun b => zB (¬ offs (fM μ0) (nI b) day h = 0)) (fB (fM μ0)))) ∧ zq sG μ0 μ') := by
  intro j
  induction j with
  | zero =>
    intro i acc μ hi hz hv0
    have hF := (zq_fM sG_ok hz).1
    have hok := (zq_fM sG_ok hz).2 hok0
    have h6 := hok.1.2
    have h12 := hok.2.1.2
    have hbd : μ.1 0 0 = nI (fB (fM μ0)) := by rw [← hF]; exact hok.1.1
    rw [hF] at h6 h12
    have hi : i = fB (fM μ0) := by omega
    subst hi
    refine zb M_manyOff_s5 rfl ?_
    refine z_cge M_manyOff_d11 (tgt := 43) rfl (fun h11 => ?_) (fun h11 => absurd (show μ.1 0 0 ≤ nI (fB (fM μ0)) by rw [hbd]; exact Int32.le_refl _) h11)
    refine zb M_manyOff_s43 rfl ?_
    refine z_ret M_manyOff_d44 rfl ?_
    exact ⟨by rw [hv0], hz⟩
  | succ j ih =>
    intro i acc μ hi hz hv0
    have hF := (zq_fM sG_ok hz).1
    have hok := (zq_fM sG_ok hz).2 hok0
    have h6 := hok.1.2
    have h12 := hok.2.1.2
    have hbd : μ.1 0 0 = nI (fB (fM μ0)) := by rw [← hF]; exact hok.1.1
    rw [hF] at h6 h12
    have hilt : i < fB (fM μ0) := by omega
    have ei : (nI i).toNatClampNeg = i := nI_clamp (by omega)
    have hvi : vp_in (nI i) 6 := vp_in_nI (by omega) (by omega)
    refine zb M_manyOff_s5 rfl ?_
    refine z_cge M_manyOff_d11 (tgt := 43) rfl (fun h11 => absurd h11 (show ¬ μ.1 0 0 ≤ nI i by rw [hbd]; exact nI_ge hilt (by omega))) (fun h11 => ?_)
    refine zb M_manyOff_s14 rfl ?_
    refine zcallV M_manyOff_d21 k11_264 (by omega) (c_M_offOf (by omega) hok) rfl rfl rfl (Nat.le_of_ble_eq_true rfl) ?_
    rintro _ μ1 ⟨rfl, hz1⟩
    rw [hF]
    refine z_eq M_manyOff_d24 (tgt := 31) rfl (fun h24 => ?_) (fun h24 => ?_)
    · refine zb M_manyOff_s31 rfl ?_
      refine zcallV M_manyOff_d32 k11_167 (by omega) (c_M_one _) rfl rfl rfl (Nat.le_of_ble_eq_true rfl) ?_
      rintro _ _ ⟨rfl, rfl⟩
      refine zb M_manyOff_s35 rfl ?_
      rw [nI_1]
      exact ih (i + 1) _ _ (by omega) (hz.tr hz1) (by rw [zsum_s, ← hv0]; congr 1; first | exact zB_cong (iff_of_true (by decide) h24) | exact zB_cong (iff_of_false (by decide) (fun z => z h24)))
    · refine zb M_manyOff_s27 rfl ?_
      refine zcallV M_manyOff_d32 k11_167 (by omega) (c_M_one _) rfl rfl rfl (Nat.le_of_ble_eq_true rfl) ?_
      rintro _ _ ⟨rfl, rfl⟩
      refine zb M_manyOff_s35 rfl ?_
      rw [nI_1]
      exact ih (i + 1) _ _ (by omega) (hz.tr hz1) (by rw [zsum_s, ← hv0]; congr 1; first | exact zB_cong (iff_of_true (by decide) h24) | exact zB_cong (iff_of_false (by decide) (fun z => z h24)))

def manyOff (F : zF) (day h : Int32) : Int32 := zsum (fun b => zB (¬ offs F (nI b) day h = 0)) (fB F)

set_option maxRecDepth 100000 in
set_option maxHeartbeats 4000000 in
theorem c_M_manyOff {g : zG} {d : Nat} {μ : zMem} {day h : Int32} (hd : 48 ≤ d) (hok : okM μ) : zM g d M_manyOff [.ref 0, .int day, .int h] μ (fun r μ' => r = some (.int (manyOff (fM μ) day h)) ∧ zq sG μ μ') := by
  refine zM_of (by decide +kernel) rfl rfl (Nat.le_of_ble_eq_true rfl) rfl ?_
  refine zb M_manyOff_s0 rfl ?_
  exact w_M_manyOff hd hok (fB (fM μ)) 0 0 μ (by omega) zq.rf rfl

set_option maxRecDepth 100000 in
set_option maxHeartbeats 4000000 in
theorem w_M_firstOff {g : zG} {d : Nat} {μ0 : zMem} (hd : 48 ≤ d) (hok0 : okM μ0) {day h : Int32} {r0 : Int32} : ∀ (j i : Nat) (μ : zMem), i + j = fB (fM μ0) → zq sG μ0 μ → zfind (fun b => ¬ offs (fM μ0) (nI b) day h = 0) i (fB (fM μ0) - i) = r0 → zW g M_firstOff d 2 [some (.ref 0), some (.int day), some (.int h), some (.int (nI i))] [] μ (fun r μ' => r = some (.int (r0)) ∧ zq sG μ0 μ') := by
  intro j
  induction j with
  | zero =>
    intro i  μ hi hz hv0
    have hF := (zq_fM sG_ok hz).1
    have hok := (zq_fM sG_ok hz).2 hok0
    have h6 := hok.1.2
    have h12 := hok.2.1.2
    have hbd : μ.1 0 0 = nI (fB (fM μ0)) := by rw [← hF]; exact hok.1.1
    rw [hF] at h6 h12
    have hi : i = fB (fM μ0) := by omega
    subst hi
    refine zb M_firstOff_s2 rfl ?_
    refine z_cge M_firstOff_d7 (tgt := 28) rfl (fun h7 => ?_) (fun h7 => absurd (show μ.1 0 0 ≤ nI (fB (fM μ0)) by rw [hbd]; exact Int32.le_refl _) h7)
    refine zb M_firstOff_s28 rfl ?_
    refine z_ret M_firstOff_d30 rfl ?_
    exact ⟨by rw [← hv0, Nat.sub_self]; rfl, hz⟩
  | succ j ih =>
    intro i  μ hi hz hv0
    have hF := (zq_fM sG_ok hz).1
    have hok := (zq_fM sG_ok hz).2 hok0
    have h6 := hok.1.2
    have h12 := hok.2.1.2
    have hbd : μ.1 0 0 = nI (fB (fM μ0)) := by rw [← hF]; exact hok.1.1
    rw [hF] at h6 h12
    have hilt : i < fB (fM μ0) := by omega
    have ei : (nI i).toNatClampNeg = i := nI_clamp (by omega)
    have hvi : vp_in (nI i) 6 := vp_in_nI (by omega) (by omega)
    refine zb M_firstOff_s2 rfl ?_
    refine z_cge M_firstOff_d7 (tgt := 28) rfl (fun h7 => absurd h7 (show ¬ μ.1 0 0 ≤ nI i by rw [hbd]; exact nI_ge hilt (by omega))) (fun h7 => ?_)
    refine zb M_firstOff_s10 rfl ?_
    refine zcallV M_firstOff_d14 k11_264 (by omega) (c_M_offOf (by omega) hok) rfl rfl rfl (Nat.le_of_ble_eq_true rfl) ?_
    rintro _ μ1 ⟨rfl, hz1⟩
    rw [hF]
    refine z_eq M_firstOff_d17 (tgt := 22) rfl (fun h17 => ?_) (fun h17 => ?_)
    · refine zb M_firstOff_s22 rfl ?_
      rw [nI_1]
      exact ih (i + 1) _ (by omega) (hz.tr hz1) (by rw [show fB (fM μ0) - i = (fB (fM μ0) - (i + 1)) + 1 by omega, zfind, if_neg (fun z => z h17)] at hv0; exact hv0)
    · refine zb M_firstOff_s20 rfl ?_
      refine z_ret M_firstOff_d21 rfl ?_
      refine ⟨?_, hz.tr hz1⟩
      rw [← hv0, show fB (fM μ0) - i = (fB (fM μ0) - (i + 1)) + 1 by omega, zfind, if_pos h17]

set_option maxRecDepth 100000 in
set_option maxHeartbeats 4000000 in
theorem c_M_firstOff {g : zG} {d : Nat} {μ : zMem} {day h : Int32} (hd : 48 ≤ d) (hok : okM μ) : zM g d M_firstOff [.ref 0, .int day, .int h] μ (fun r μ' => r = some (.int (zfind (fun b => ¬ offs (fM μ) (nI b) day h = 0) 0 (fB (fM μ)))) ∧ zq sG μ μ') := by
  refine zM_of (by decide +kernel) rfl rfl (Nat.le_of_ble_eq_true rfl) rfl ?_
  refine zb M_firstOff_s0 rfl ?_
  exact w_M_firstOff hd hok (fB (fM μ)) 0 μ (by omega) zq.rf rfl

set_option maxRecDepth 100000 in
set_option maxHeartbeats 4000000 in
theorem w_M_manyBroken {g : zG} {d : Nat} {μ0 : zMem} (hd : 1 ≤ d) (hok0 : okM μ0) {day : Int32} : ∀ (j i : Nat) (acc : Int32) (μ : zMem), i + j = fV (fM μ0) → zq sG μ0 μ → acc = zsum (fun v => zB (¬ kept (fM μ0) v day)) i → zW g M_manyBroken d 4 [some (.ref 0), some (.int day), some (.int acc), some (.int (nI i))] [] μ (fun r μ' => r = some (.int (zsum (fun v => zB (¬ kept (fM μ0) v day)) (fV (fM μ0)))) ∧ zq sG μ0 μ') := by
  intro j
  induction j with
  | zero =>
    intro i acc μ hi hz hv0
    have hF := (zq_fM sG_ok hz).1
    have hok := (zq_fM sG_ok hz).2 hok0
    have h6 := hok.1.2
    have h12 := hok.2.1.2
    have hbd : μ.1 0 1 = nI (fV (fM μ0)) := by rw [← hF]; exact hok.2.1.1
    rw [hF] at h6 h12
    have hi : i = fV (fM μ0) := by omega
    subst hi
    refine zb M_manyBroken_s4 rfl ?_
    refine z_cge M_manyBroken_d9 (tgt := 39) rfl (fun h9 => ?_) (fun h9 => absurd (show μ.1 0 1 ≤ nI (fV (fM μ0)) by rw [hbd]; exact Int32.le_refl _) h9)
    refine zb M_manyBroken_s39 rfl ?_
    refine z_ret M_manyBroken_d40 rfl ?_
    exact ⟨by rw [hv0], hz⟩
  | succ j ih =>
    intro i acc μ hi hz hv0
    have hF := (zq_fM sG_ok hz).1
    have hok := (zq_fM sG_ok hz).2 hok0
    have h6 := hok.1.2
    have h12 := hok.2.1.2
    have hbd : μ.1 0 1 = nI (fV (fM μ0)) := by rw [← hF]; exact hok.2.1.1
    rw [hF] at h6 h12
    have hilt : i < fV (fM μ0) := by omega
    have ei : (nI i).toNatClampNeg = i := nI_clamp (by omega)
    have hvi : vp_in (nI i) 12 := vp_in_nI (by omega) (by omega)
    refine zb M_manyBroken_s4 rfl ?_
    refine z_cge M_manyBroken_d9 (tgt := 39) rfl (fun h9 => absurd h9 (show ¬ μ.1 0 1 ≤ nI i by rw [hbd]; exact nI_ge hilt (by omega))) (fun h9 => ?_)
    refine zb M_manyBroken_s12 rfl ?_
    refine zcallV M_manyBroken_d17 k11_164 (by omega) (c_M_isKept _ (by omega)) rfl rfl rfl (Nat.le_of_ble_eq_true rfl) ?_
    rintro _ _ ⟨rfl, rfl⟩
    rw [hF]
    refine z_ne M_manyBroken_d20 (tgt := 27) rfl (fun h20 => ?_) (fun h20 => ?_)
    · refine zb M_manyBroken_s27 rfl ?_
      refine zcallV M_manyBroken_d28 k11_167 (by omega) (c_M_one _) rfl rfl rfl (Nat.le_of_ble_eq_true rfl) ?_
      rintro _ _ ⟨rfl, rfl⟩
      refine zb M_manyBroken_s31 rfl ?_
      rw [nI_1]
      exact ih (i + 1) _ _ (by omega) hz (by rw [zsum_s, ← hv0]; congr 1; first | exact zB_cong (iff_of_true (by decide) (zB_eq0.mp h20)) | exact zB_cong (iff_of_false (by decide) (fun z => z (zB_ne0.mp h20))))
    · refine zb M_manyBroken_s23 rfl ?_
      refine zcallV M_manyBroken_d28 k11_167 (by omega) (c_M_one _) rfl rfl rfl (Nat.le_of_ble_eq_true rfl) ?_
      rintro _ _ ⟨rfl, rfl⟩
      refine zb M_manyBroken_s31 rfl ?_
      rw [nI_1]
      exact ih (i + 1) _ _ (by omega) hz (by rw [zsum_s, ← hv0]; congr 1; first | exact zB_cong (iff_of_true (by decide) (zB_eq0.mp h20)) | exact zB_cong (iff_of_false (by decide) (fun z => z (zB_ne0.mp h20))))

set_option maxRecDepth 100000 in
set_option maxHeartbeats 4000000 in
theorem c_M_manyBroken {g : zG} {d : Nat} {μ : zMem} {day : Int32} (hd : 1 ≤ d) (hok : okM μ) : zM g d M_manyBroken [.ref 0, .int day] μ (fun r μ' => r = some (.int (zsum (fun v => zB (¬ kept (fM μ) v day)) (fV (fM μ)))) ∧ zq sG μ μ') := by
  refine zM_of (by decide +kernel) rfl rfl (Nat.le_of_ble_eq_true rfl) rfl ?_
  refine zb M_manyBroken_s0 rfl ?_
  exact w_M_manyBroken hd hok (fV (fM μ)) 0 0 μ (by omega) zq.rf rfl
