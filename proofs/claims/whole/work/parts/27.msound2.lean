/-! the reference's sounds -/
theorem zsw_out {u : Int32} (n : Nat) (hn : n < 2 ^ 31) (h : ∀ k, k < n → ¬ u = nI k) : u.toInt < 0 ∨ (n : Int) - 1 < u.toInt := by
  rcases Int.lt_or_le u.toInt 0 with q | q
  · exact Or.inl q
  · refine Or.inr ?_
    rcases Int.lt_or_le ((n : Int) - 1) u.toInt with z | z
    · exact z
    · exfalso
      refine h u.toInt.toNat (by omega) ?_
      apply Int32.toInt_inj.mp
      rw [nI_toInt (by omega)]
      omega
theorem zix {u : Int32} {n : Nat} (h0 : 0 ≤ u) (h1 : u < nI n) (hn : n < 2 ^ 31) : ∃ i : Nat, i < n ∧ u = nI i ∧ u.toNatClampNeg = i := by
  obtain ⟨i, hi, rfl⟩ := nI_of (x := u) (Int32.not_lt.mpr h0)
  exact ⟨i, (nI_ltI hi hn).mp h1, rfl, nI_clamp hi⟩
abbrev tim (dh : Int32) : Prop := 0 ≤ dh ∧ dh / 100 ≤ 998 ∧ dh - dh / 100 * 100 < 24
abbrev hro (dh : Int32) : Int32 := dh - dh / 100 * 100
abbrev isB (F : zF) (b : Int32) : Prop := 0 ≤ b ∧ b < nI (fB F)
abbrev isV (F : zF) (v : Int32) : Prop := 0 ≤ v ∧ v < nI (fV F)
def sPuts (F : zF) (v dh : Int32) : Int32 := if isV F v ∧ tim dh then pu F v.toNatClampNeg (fbell F v.toNatClampNeg) (dh / 100) (hro dh) else -2000000000
def sPitch (F : zF) (b dh w : Int32) : Int32 := if isB F b ∧ tim dh ∧ (0 ≤ w ∧ w ≤ 1) then offs F b (dh / 100) (hro dh) + (if w = 0 then ftone F b.toNatClampNeg else 0) else -2000000000

set_option maxRecDepth 100000 in
set_option maxHeartbeats 4000000 in
theorem c_M_puts {g : zG} {d : Nat} {μ : zMem} {v dh : Int32} (hd : 47 ≤ d) (hok : okM μ) : zM g d M_puts [.ref 0, .int v, .int dh] μ (fun r μ' => r = some (.int (sPuts (fM μ) v dh)) ∧ zq sG μ μ') := by
  refine zM_of (by decide +kernel) rfl rfl (Nat.le_of_ble_eq_true rfl) rfl ?_
  have hF6 := hok.1.2
  have hF12 := hok.2.1.2
  have eb := hok.1.1
  have ev := hok.2.1.1
  refine zb M_puts_s0 rfl ?_
  refine zcallV M_puts_d2 k11_131 (by omega) (c_M_isVow _) rfl rfl rfl (Nat.le_of_ble_eq_true rfl) ?_
  rintro _ μx ⟨rfl, hx⟩
  rw [hx]
  clear hx μx
  rw [ev]
  refine z_eq M_puts_d5 (tgt := 38) rfl (fun h5 => ?_) (fun h5 => ?_)
  · refine zb M_puts_s38 rfl ?_
    refine z_ret M_puts_d41 rfl ?_
    unfold sPuts
    first | exact ⟨by rw [if_pos ⟨hv, ht⟩, ei]; rfl, hz1⟩ | exact ⟨by rw [if_neg (fun z => (zB_eq0.mp h5) z.1)], zq.rf⟩ | exact ⟨by rw [if_neg (fun z => (zB_eq0.mp h13) z.2)], zq.rf⟩
  · refine zb M_puts_s8 rfl ?_
    refine zcallV M_puts_d10 k11_256 (by omega) (c_M_isTime _) rfl rfl rfl (Nat.le_of_ble_eq_true rfl) ?_
    rintro _ μx ⟨rfl, hx⟩
    rw [hx]
    clear hx μx
    refine z_eq M_puts_d13 (tgt := 38) rfl (fun h13 => ?_) (fun h13 => ?_)
    · refine zb M_puts_s38 rfl ?_
      refine z_ret M_puts_d41 rfl ?_
      unfold sPuts
      first | exact ⟨by rw [if_pos ⟨hv, ht⟩, ei]; rfl, hz1⟩ | exact ⟨by rw [if_neg (fun z => (zB_eq0.mp h5) z.1)], zq.rf⟩ | exact ⟨by rw [if_neg (fun z => (zB_eq0.mp h13) z.2)], zq.rf⟩
    · have hv := zB_ne0.mp h5
      have ht := zB_ne0.mp h13
      obtain ⟨i, hi, rfl, ei⟩ := zix hv.1 hv.2 (by omega)
      replace hi : i < 12 := by omega
      have hvi : vp_in (nI i) 12 := vp_in_nI hi (by omega)
      refine zb3 M_puts_s16 rfl (by first | exact hvi | decide) (by first | exact hvi | decide) (by first | exact hvi | decide) ?_
      rw [ei]
      refine zcallV M_puts_d32 k11_259 (by omega) (c_M_putsOn (by omega) hi hok) rfl rfl rfl (Nat.le_of_ble_eq_true rfl) ?_
      rintro _ μ1 ⟨rfl, hz1⟩
      refine zb M_puts_s35 rfl ?_
      refine z_ret M_puts_d41 rfl ?_
      unfold sPuts
      first | exact ⟨by rw [if_pos ⟨hv, ht⟩, ei]; rfl, hz1⟩ | exact ⟨by rw [if_neg (fun z => (zB_eq0.mp h5) z.1)], zq.rf⟩ | exact ⟨by rw [if_neg (fun z => (zB_eq0.mp h13) z.2)], zq.rf⟩

set_option maxRecDepth 100000 in
set_option maxHeartbeats 4000000 in
theorem c_M_pitch {g : zG} {d : Nat} {μ : zMem} {b dh w : Int32} (hd : 48 ≤ d) (hok : okM μ) : zM g d M_pitch [.ref 0, .int b, .int dh, .int w] μ (fun r μ' => r = some (.int (sPitch (fM μ) b dh w)) ∧ zq sG μ μ') := by
  refine zM_of (by decide +kernel) rfl rfl (Nat.le_of_ble_eq_true rfl) rfl ?_
  have hF6 := hok.1.2
  have hF12 := hok.2.1.2
  have eb := hok.1.1
  have ev := hok.2.1.1
  refine zb M_pitch_s0 rfl ?_
  refine zcallV M_pitch_d2 k11_116 (by omega) (c_M_isBell _) rfl rfl rfl (Nat.le_of_ble_eq_true rfl) ?_
  rintro _ μx ⟨rfl, hx⟩
  rw [hx]
  clear hx μx
  rw [eb]
  refine z_eq M_pitch_d5 (tgt := 26) rfl (fun h5 => ?_) (fun h5 => ?_)
  · refine zb M_pitch_s26 rfl ?_
    refine z_ret M_pitch_d29 rfl ?_
    first
      | exact ⟨by unfold sPitch; rw [if_neg (fun z => (zB_eq0.mp h5) z.1)], zq.rf⟩
      | exact ⟨by unfold sPitch; rw [if_neg (fun z => (zB_eq0.mp h13) z.2.1)], zq.rf⟩
      | exact ⟨by unfold sPitch; rw [if_neg (fun z => (zB_eq0.mp h23) z.2.2)], zq.rf⟩
      | exact ⟨by rw [hsp, if_neg h44], hz1⟩
      | exact ⟨by rw [hsp, if_pos h44, ← hF]; rfl, hz1⟩
  · refine zb M_pitch_s8 rfl ?_
    refine zcallV M_pitch_d10 k11_256 (by omega) (c_M_isTime _) rfl rfl rfl (Nat.le_of_ble_eq_true rfl) ?_
    rintro _ μx ⟨rfl, hx⟩
    rw [hx]
    clear hx μx
    refine z_eq M_pitch_d13 (tgt := 26) rfl (fun h13 => ?_) (fun h13 => ?_)
    · refine zb M_pitch_s26 rfl ?_
      refine z_ret M_pitch_d29 rfl ?_
      first
        | exact ⟨by unfold sPitch; rw [if_neg (fun z => (zB_eq0.mp h5) z.1)], zq.rf⟩
        | exact ⟨by unfold sPitch; rw [if_neg (fun z => (zB_eq0.mp h13) z.2.1)], zq.rf⟩
        | exact ⟨by unfold sPitch; rw [if_neg (fun z => (zB_eq0.mp h23) z.2.2)], zq.rf⟩
        | exact ⟨by rw [hsp, if_neg h44], hz1⟩
        | exact ⟨by rw [hsp, if_pos h44, ← hF]; rfl, hz1⟩
    · refine zb M_pitch_s16 rfl ?_
      refine zcallV M_pitch_d20 k11_112 (by omega) (c_M_isIn _ _ _) rfl rfl rfl (Nat.le_of_ble_eq_true rfl) ?_
      rintro _ μx ⟨rfl, hx⟩
      rw [hx]
      clear hx μx
      refine z_ne M_pitch_d23 (tgt := 30) rfl (fun h23 => ?_) (fun h23 => ?_)
      · have hv := zB_ne0.mp h5
        have ht := zB_ne0.mp h13
        have hw := zB_ne0.mp h23
        have hbi : vp_in b 6 := by
          obtain ⟨i, hi, rfl, ei⟩ := zix hv.1 hv.2 (by omega)
          exact vp_in_nI (by omega) (by omega)
        have hsp : sPitch (fM μ) b dh w = offs (fM μ) b (dh / 100) (hro dh) + (if w = 0 then ftone (fM μ) b.toNatClampNeg else 0) := by unfold sPitch; rw [if_pos ⟨hv, ht, hw⟩]
        refine zb2 M_pitch_s30 rfl (by first | exact hbi | decide) (by first | exact hbi | decide) ?_
        refine zcallV M_pitch_d40 k11_264 (by omega) (c_M_offOf (by omega) hok) rfl rfl rfl (Nat.le_of_ble_eq_true rfl) ?_
        rintro _ μ1 ⟨rfl, hz1⟩
        have hF := (zq_fM sG_ok hz1).1
        refine zb M_pitch_s43 rfl ?_
        refine z_ne M_pitch_d44 (tgt := 56) rfl (fun h44 => ?_) (fun h44 => ?_)
        · refine zb M_pitch_s56 rfl ?_
          refine z_ret M_pitch_d58 rfl ?_
          first
            | exact ⟨by unfold sPitch; rw [if_neg (fun z => (zB_eq0.mp h5) z.1)], zq.rf⟩
            | exact ⟨by unfold sPitch; rw [if_neg (fun z => (zB_eq0.mp h13) z.2.1)], zq.rf⟩
            | exact ⟨by unfold sPitch; rw [if_neg (fun z => (zB_eq0.mp h23) z.2.2)], zq.rf⟩
            | exact ⟨by rw [hsp, if_neg h44], hz1⟩
            | exact ⟨by rw [hsp, if_pos h44, ← hF]; rfl, hz1⟩
        · refine zb1 M_pitch_s47 rfl (by first | exact hbi | decide) ?_
          refine z_ret M_pitch_d58 rfl ?_
          first
            | exact ⟨by unfold sPitch; rw [if_neg (fun z => (zB_eq0.mp h5) z.1)], zq.rf⟩
            | exact ⟨by unfold sPitch; rw [if_neg (fun z => (zB_eq0.mp h13) z.2.1)], zq.rf⟩
            | exact ⟨by unfold sPitch; rw [if_neg (fun z => (zB_eq0.mp h23) z.2.2)], zq.rf⟩
            | exact ⟨by rw [hsp, if_neg h44], hz1⟩
            | exact ⟨by rw [hsp, if_pos h44, ← hF]; rfl, hz1⟩
      · refine zb M_pitch_s26 rfl ?_
        refine z_ret M_pitch_d29 rfl ?_
        first
          | exact ⟨by unfold sPitch; rw [if_neg (fun z => (zB_eq0.mp h5) z.1)], zq.rf⟩
          | exact ⟨by unfold sPitch; rw [if_neg (fun z => (zB_eq0.mp h13) z.2.1)], zq.rf⟩
          | exact ⟨by unfold sPitch; rw [if_neg (fun z => (zB_eq0.mp h23) z.2.2)], zq.rf⟩
          | exact ⟨by rw [hsp, if_neg h44], hz1⟩
          | exact ⟨by rw [hsp, if_pos h44, ← hF]; rfl, hz1⟩

def sWorst (F : zF) (dh : Int32) : Int32 := zmst (fun v => zab (sPuts F (nI v) dh)) (fV F)
theorem zmst_or (f : Nat → Int32) : ∀ n : Nat, n < 2 ^ 31 → zmst f n = -2 ∨ ∃ i, i < n ∧ zmst f n = nI i
  | 0, _ => Or.inl rfl
  | n + 1, h => by
    simp only [zmst]
    split
    · exact Or.inr ⟨n, by omega, rfl⟩
    · rcases zmst_or f n (by omega) with q | ⟨i, h1, h2⟩
      · exact Or.inl q
      · exact Or.inr ⟨i, by omega, h2⟩

set_option maxRecDepth 100000 in
set_option maxHeartbeats 4000000 in
theorem w_M_putsMost {g : zG} {d : Nat} {μ0 : zMem} (hd : 48 ≤ d) (hok0 : okM μ0) {dh : Int32} : ∀ (j i : Nat) (acc : Int32) (μ : zMem), i + j = fV (fM μ0) → zq sG μ0 μ → acc = zmst (fun v => zab (sPuts (fM μ0) (nI v) dh)) i → zW g M_putsMost d 5 [some (.ref 0), some (.int dh), some (.int acc), some (.int (nI i))] [] μ (fun r μ' => r = some (.int (zmst (fun v => zab (sPuts (fM μ0) (nI v) dh)) (fV (fM μ0)))) ∧ zq sG μ0 μ') := by
  intro j
  induction j with
  | zero =>
    intro i acc μ hi hz hv0
    have hF := (zq_fM sG_ok hz).1
    have hok := (zq_fM sG_ok hz).2 hok0
    have h6 := hok.1.2
    have h12 := hok.2.1.2
    have hbd : μ.1 0 1 = nI (fV (fM μ0)) := by rw [← hF]; exact hok.2.1.1
    rw [hF] at h6 h12
    have hi : i = fV (fM μ0) := by omega
    subst hi
    refine zb M_putsMost_s5 rfl ?_
    refine z_cge M_putsMost_d10 (tgt := 50) rfl (fun h10 => ?_) (fun h10 => absurd (show μ.1 0 1 ≤ nI (fV (fM μ0)) by rw [hbd]; exact Int32.le_refl _) h10)
    refine zb M_putsMost_s50 rfl ?_
    refine z_ret M_putsMost_d51 rfl ?_
    exact ⟨by rw [hv0], hz⟩
  | succ j ih =>
    intro i acc μ hi hz hv0
    have hF := (zq_fM sG_ok hz).1
    have hok := (zq_fM sG_ok hz).2 hok0
    have h6 := hok.1.2
    have h12 := hok.2.1.2
    have hbd : μ.1 0 1 = nI (fV (fM μ0)) := by rw [← hF]; exact hok.2.1.1
    rw [hF] at h6 h12
    have hilt : i < fV (fM μ0) := by omega
    have ei : (nI i).toNatClampNeg = i := nI_clamp (by omega)
    have hvi : vp_in (nI i) 12 := vp_in_nI (by omega) (by omega)
    refine zb M_putsMost_s5 rfl ?_
    refine z_cge M_putsMost_d10 (tgt := 50) rfl (fun h10 => absurd h10 (show ¬ μ.1 0 1 ≤ nI i by rw [hbd]; exact nI_ge hilt (by omega))) (fun h10 => ?_)
    refine zb M_putsMost_s13 rfl ?_
    refine z_ceq M_putsMost_d16 (tgt := 42) rfl (fun h16 => ?_) (fun h16 => ?_)
    · skip
      refine zb M_putsMost_s42 rfl ?_
      rw [nI_1]
      first
        | exact ih (i + 1) _ _ (by omega) hz (by rw [zmst, ← hv0, if_pos (Or.inl h16)])
        | (rcases zmst_or (fun v => zab (sPuts (fM μ0) (nI v) dh)) i (by omega) with q | ⟨i2, q1, q2⟩
           · exact absurd (hv0.trans q) h16
           · have e2 : acc = nI i2 := hv0.trans q2
             have e3 : acc.toNatClampNeg = i2 := by rw [e2]; exact nI_clamp (by omega)
             first
               | exact ih (i + 1) _ _ (by omega) ((hz.tr hz1).tr hz2) (by rw [zmst, ← hv0, if_pos (Or.inr (by rw [e3]; (try dsimp only); rw [← e2]; exact Int32.not_le.mp h39))])
               | exact ih (i + 1) _ _ (by omega) ((hz.tr hz1).tr hz2) (by rw [zmst, ← hv0, if_neg (fun z => z.elim h16 (fun y => by rw [e3] at y; (try dsimp only at y); rw [← e2] at y; exact absurd h39 (Int32.not_le.mpr y)))]))
    · refine zb M_putsMost_s19 rfl ?_
      refine zcallV M_putsMost_d23 k11_267 (by omega) (c_M_puts (by omega) hok) rfl rfl rfl (Nat.le_of_ble_eq_true rfl) ?_
      rintro _ μ1 ⟨rfl, hz1⟩
      rw [hF]
      have hF1 := (zq_fM sG_ok hz1).1
      have hok1 := (zq_fM sG_ok hz1).2 hok
      refine zcallV M_putsMost_d26 k11_270 (by omega) (c_M_abs _) rfl rfl rfl (Nat.le_of_ble_eq_true rfl) ?_
      rintro _ μx ⟨rfl, hx⟩
      rw [hx]
      clear hx μx
      refine zb M_putsMost_s29 rfl ?_
      refine zcallV M_putsMost_d33 k11_267 (by omega) (c_M_puts (by omega) hok1) rfl rfl rfl (Nat.le_of_ble_eq_true rfl) ?_
      rintro _ μ2 ⟨rfl, hz2⟩
      rw [hF1, hF]
      refine zcallV M_putsMost_d36 k11_270 (by omega) (c_M_abs _) rfl rfl rfl (Nat.le_of_ble_eq_true rfl) ?_
      rintro _ μx ⟨rfl, hx⟩
      rw [hx]
      clear hx μx
      refine z_cle M_putsMost_d39 (tgt := 44) rfl (fun h39 => ?_) (fun h39 => ?_)
      · skip
        refine zb M_putsMost_s44 rfl ?_
        rw [nI_1]
        first
          | exact ih (i + 1) _ _ (by omega) hz (by rw [zmst, ← hv0, if_pos (Or.inl h16)])
          | (rcases zmst_or (fun v => zab (sPuts (fM μ0) (nI v) dh)) i (by omega) with q | ⟨i2, q1, q2⟩
             · exact absurd (hv0.trans q) h16
             · have e2 : acc = nI i2 := hv0.trans q2
               have e3 : acc.toNatClampNeg = i2 := by rw [e2]; exact nI_clamp (by omega)
               first
                 | exact ih (i + 1) _ _ (by omega) ((hz.tr hz1).tr hz2) (by rw [zmst, ← hv0, if_pos (Or.inr (by rw [e3]; (try dsimp only); rw [← e2]; exact Int32.not_le.mp h39))])
                 | exact ih (i + 1) _ _ (by omega) ((hz.tr hz1).tr hz2) (by rw [zmst, ← hv0, if_neg (fun z => z.elim h16 (fun y => by rw [e3] at y; (try dsimp only at y); rw [← e2] at y; exact absurd h39 (Int32.not_le.mpr y)))]))
      · skip
        refine zb M_putsMost_s42 rfl ?_
        rw [nI_1]
        first
          | exact ih (i + 1) _ _ (by omega) hz (by rw [zmst, ← hv0, if_pos (Or.inl h16)])
          | (rcases zmst_or (fun v => zab (sPuts (fM μ0) (nI v) dh)) i (by omega) with q | ⟨i2, q1, q2⟩
             · exact absurd (hv0.trans q) h16
             · have e2 : acc = nI i2 := hv0.trans q2
               have e3 : acc.toNatClampNeg = i2 := by rw [e2]; exact nI_clamp (by omega)
               first
                 | exact ih (i + 1) _ _ (by omega) ((hz.tr hz1).tr hz2) (by rw [zmst, ← hv0, if_pos (Or.inr (by rw [e3]; (try dsimp only); rw [← e2]; exact Int32.not_le.mp h39))])
                 | exact ih (i + 1) _ _ (by omega) ((hz.tr hz1).tr hz2) (by rw [zmst, ← hv0, if_neg (fun z => z.elim h16 (fun y => by rw [e3] at y; (try dsimp only at y); rw [← e2] at y; exact absurd h39 (Int32.not_le.mpr y)))]))

set_option maxRecDepth 100000 in
set_option maxHeartbeats 4000000 in
theorem c_M_putsMost {g : zG} {d : Nat} {μ : zMem} {dh : Int32} (hd : 48 ≤ d) (hok : okM μ) : zM g d M_putsMost [.ref 0, .int dh] μ (fun r μ' => r = some (.int (sWorst (fM μ) dh)) ∧ zq sG μ μ') := by
  refine zM_of (by decide +kernel) rfl rfl (Nat.le_of_ble_eq_true rfl) rfl ?_
  refine zb M_putsMost_s0 rfl ?_
  exact w_M_putsMost hd hok (fV (fM μ)) 0 _ μ (by omega) zq.rf rfl

def sTown (F : zF) (dh w : Int32) : Int32 := if tim dh then (if w = 0 then manyOff F (dh / 100) (hro dh) else if w = 1 then zfind (fun b => ¬ offs F (nI b) (dh / 100) (hro dh) = 0) 0 (fB F) else if w = 2 then zsum (fun v => zB (¬ kept F v (dh / 100))) (fV F) else if w = 3 then sWorst F dh else -1) else -1

set_option maxRecDepth 100000 in
set_option maxHeartbeats 4000000 in
theorem c_M_town {g : zG} {d : Nat} {μ : zMem} {dh w : Int32} (hd : 49 ≤ d) (hok : okM μ) : zM g d M_town [.ref 0, .int dh, .int w] μ (fun r μ' => r = some (.int (sTown (fM μ) dh w)) ∧ zq sG μ μ') := by
  refine zM_of (by decide +kernel) rfl rfl (Nat.le_of_ble_eq_true rfl) rfl ?_
  refine zb M_town_s0 rfl ?_
  refine zcallV M_town_d2 k11_256 (by omega) (c_M_isTime _) rfl rfl rfl (Nat.le_of_ble_eq_true rfl) ?_
  rintro _ μx ⟨rfl, hx⟩
  rw [hx]
  clear hx μx
  refine z_ne M_town_d5 (tgt := 10) rfl (fun h5 => ?_) (fun h5 => ?_)
  · refine zb M_town_s10 rfl ?_
    by_cases hs11_0 : w = 0
    · refine z_tabIn M_town_d11 (off := 29) (tgt := 40) (by rw [hs11_0]; decide) (by rw [hs11_0]; decide) (by rw [hs11_0]; decide) rfl ?_
      refine zb2 M_town_s40 rfl (by decide) (by decide) ?_
      refine zcallV M_town_d49 k11_273 (by omega) (c_M_manyOff (by omega) hok) rfl rfl rfl (Nat.le_of_ble_eq_true rfl) ?_
      rintro _ μ1 ⟨rfl, hz1⟩
      refine z_ret M_town_d52 rfl ?_
      unfold sTown
      first
        | exact ⟨by rw [if_neg (zB_eq0.mp h5)], zq.rf⟩
        | exact ⟨by rw [if_pos (zB_ne0.mp h5), if_pos hs11_0], hz1⟩
        | exact ⟨by rw [if_pos (zB_ne0.mp h5), if_neg hs11_0, if_pos hs11_1], hz1⟩
        | exact ⟨by rw [if_pos (zB_ne0.mp h5), if_neg hs11_0, if_neg hs11_1, if_pos hs11_2], hz1⟩
        | exact ⟨by rw [if_pos (zB_ne0.mp h5), if_neg hs11_0, if_neg hs11_1, if_neg hs11_2, if_pos hs11_3], hz1⟩
        | exact ⟨by rw [if_pos (zB_ne0.mp h5), if_neg hs11_0, if_neg hs11_1, if_neg hs11_2, if_neg hs11_3], zq.rf⟩
    · by_cases hs11_1 : w = 1
      · refine z_tabIn M_town_d11 (off := 42) (tgt := 53) (by rw [hs11_1]; decide) (by rw [hs11_1]; decide) (by rw [hs11_1]; decide) rfl ?_
        refine zb2 M_town_s53 rfl (by decide) (by decide) ?_
        refine zcallV M_town_d62 k11_276 (by omega) (c_M_firstOff (by omega) hok) rfl rfl rfl (Nat.le_of_ble_eq_true rfl) ?_
        rintro _ μ1 ⟨rfl, hz1⟩
        refine z_ret M_town_d65 rfl ?_
        unfold sTown
        first
          | exact ⟨by rw [if_neg (zB_eq0.mp h5)], zq.rf⟩
          | exact ⟨by rw [if_pos (zB_ne0.mp h5), if_pos hs11_0], hz1⟩
          | exact ⟨by rw [if_pos (zB_ne0.mp h5), if_neg hs11_0, if_pos hs11_1], hz1⟩
          | exact ⟨by rw [if_pos (zB_ne0.mp h5), if_neg hs11_0, if_neg hs11_1, if_pos hs11_2], hz1⟩
          | exact ⟨by rw [if_pos (zB_ne0.mp h5), if_neg hs11_0, if_neg hs11_1, if_neg hs11_2, if_pos hs11_3], hz1⟩
          | exact ⟨by rw [if_pos (zB_ne0.mp h5), if_neg hs11_0, if_neg hs11_1, if_neg hs11_2, if_neg hs11_3], zq.rf⟩
      · by_cases hs11_2 : w = 2
        · refine z_tabIn M_town_d11 (off := 55) (tgt := 66) (by rw [hs11_2]; decide) (by rw [hs11_2]; decide) (by rw [hs11_2]; decide) rfl ?_
          refine zb1 M_town_s66 rfl (by decide) ?_
          refine zcallV M_town_d71 k11_279 (by omega) (c_M_manyBroken (by omega) hok) rfl rfl rfl (Nat.le_of_ble_eq_true rfl) ?_
          rintro _ μ1 ⟨rfl, hz1⟩
          refine z_ret M_town_d74 rfl ?_
          unfold sTown
          first
            | exact ⟨by rw [if_neg (zB_eq0.mp h5)], zq.rf⟩
            | exact ⟨by rw [if_pos (zB_ne0.mp h5), if_pos hs11_0], hz1⟩
            | exact ⟨by rw [if_pos (zB_ne0.mp h5), if_neg hs11_0, if_pos hs11_1], hz1⟩
            | exact ⟨by rw [if_pos (zB_ne0.mp h5), if_neg hs11_0, if_neg hs11_1, if_pos hs11_2], hz1⟩
            | exact ⟨by rw [if_pos (zB_ne0.mp h5), if_neg hs11_0, if_neg hs11_1, if_neg hs11_2, if_pos hs11_3], hz1⟩
            | exact ⟨by rw [if_pos (zB_ne0.mp h5), if_neg hs11_0, if_neg hs11_1, if_neg hs11_2, if_neg hs11_3], zq.rf⟩
        · by_cases hs11_3 : w = 3
          · refine z_tabIn M_town_d11 (off := 64) (tgt := 75) (by rw [hs11_3]; decide) (by rw [hs11_3]; decide) (by rw [hs11_3]; decide) rfl ?_
            refine zb M_town_s75 rfl ?_
            refine zcallV M_town_d77 k11_282 (by omega) (c_M_putsMost (by omega) hok) rfl rfl rfl (Nat.le_of_ble_eq_true rfl) ?_
            rintro _ μ1 ⟨rfl, hz1⟩
            refine z_ret M_town_d80 rfl ?_
            unfold sTown
            first
              | exact ⟨by rw [if_neg (zB_eq0.mp h5)], zq.rf⟩
              | exact ⟨by rw [if_pos (zB_ne0.mp h5), if_pos hs11_0], hz1⟩
              | exact ⟨by rw [if_pos (zB_ne0.mp h5), if_neg hs11_0, if_pos hs11_1], hz1⟩
              | exact ⟨by rw [if_pos (zB_ne0.mp h5), if_neg hs11_0, if_neg hs11_1, if_pos hs11_2], hz1⟩
              | exact ⟨by rw [if_pos (zB_ne0.mp h5), if_neg hs11_0, if_neg hs11_1, if_neg hs11_2, if_pos hs11_3], hz1⟩
              | exact ⟨by rw [if_pos (zB_ne0.mp h5), if_neg hs11_0, if_neg hs11_1, if_neg hs11_2, if_neg hs11_3], zq.rf⟩
          · refine z_tabOut M_town_d11 (tgt := 81) (zsw_out 4 (by decide) (fun k hk => by rcases (show k = 0 ∨ k = 1 ∨ k = 2 ∨ k = 3 by omega) with rfl | rfl | rfl | rfl <;> first | exact hs11_0 | exact hs11_1 | exact hs11_2 | exact hs11_3)) rfl ?_
            refine zb M_town_s81 rfl ?_
            refine z_ret M_town_d82 rfl ?_
            unfold sTown
            first
              | exact ⟨by rw [if_neg (zB_eq0.mp h5)], zq.rf⟩
              | exact ⟨by rw [if_pos (zB_ne0.mp h5), if_pos hs11_0], hz1⟩
              | exact ⟨by rw [if_pos (zB_ne0.mp h5), if_neg hs11_0, if_pos hs11_1], hz1⟩
              | exact ⟨by rw [if_pos (zB_ne0.mp h5), if_neg hs11_0, if_neg hs11_1, if_pos hs11_2], hz1⟩
              | exact ⟨by rw [if_pos (zB_ne0.mp h5), if_neg hs11_0, if_neg hs11_1, if_neg hs11_2, if_pos hs11_3], hz1⟩
              | exact ⟨by rw [if_pos (zB_ne0.mp h5), if_neg hs11_0, if_neg hs11_1, if_neg hs11_2, if_neg hs11_3], zq.rf⟩
  · refine zb M_town_s8 rfl ?_
    refine z_ret M_town_d9 rfl ?_
    unfold sTown
    first
      | exact ⟨by rw [if_neg (zB_eq0.mp h5)], zq.rf⟩
      | exact ⟨by rw [if_pos (zB_ne0.mp h5), if_pos hs11_0], hz1⟩
      | exact ⟨by rw [if_pos (zB_ne0.mp h5), if_neg hs11_0, if_pos hs11_1], hz1⟩
      | exact ⟨by rw [if_pos (zB_ne0.mp h5), if_neg hs11_0, if_neg hs11_1, if_pos hs11_2], hz1⟩
      | exact ⟨by rw [if_pos (zB_ne0.mp h5), if_neg hs11_0, if_neg hs11_1, if_neg hs11_2, if_pos hs11_3], hz1⟩
      | exact ⟨by rw [if_pos (zB_ne0.mp h5), if_neg hs11_0, if_neg hs11_1, if_neg hs11_2, if_neg hs11_3], zq.rf⟩
