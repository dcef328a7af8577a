/-! the reference seen as F; days, faults, winning back, silent vows, heard -/
def oM (F : zF) (μ : zMem) : Prop := okM μ ∧ fM μ = F
def sM (c k : Nat) : Bool := (c == 0 && (k == 24 || k == 33)) || (Nat.ble 38 c && Nat.ble c 44)
theorem sM_ok : mokF sM := ⟨⟨rfl, rfl, rfl, rfl⟩, fun _ => ⟨rfl, rfl, rfl, rfl, rfl, rfl, rfl, rfl⟩⟩
theorem sG_sM : ∀ c k, sG c k = true → sM c k = true := by
  intro c k h
  unfold sG at h
  unfold sM
  simp only [Bool.or_eq_true, Bool.and_eq_true, beq_iff_eq, Nat.ble_eq] at h ⊢
  rcases h with ⟨h1, h2⟩ | h
  · exact Or.inl ⟨h1, Or.inl h2⟩
  · exact Or.inr ⟨by omega, by omega⟩
theorem zq.gm {μ μ' : zMem} (h : zq sG μ μ') : zq sM μ μ' := h.mono sG_sM
section OM
variable {F : zF} {μ μ' : zMem}
theorem oM.q (h : oM F μ) (hz : zq sM μ μ') : oM F μ' := ⟨(zq_fM sM_ok hz).2 h.1, by rw [(zq_fM sM_ok hz).1]; exact h.2⟩
theorem oM.v (h : oM F μ) : μ.1 0 1 = nI (fV F) := by rw [← h.2]; exact h.1.2.1.1
theorem oM.b (h : oM F μ) : μ.1 0 0 = nI (fB F) := by rw [← h.2]; exact h.1.1.1
theorem oM.v12 (h : oM F μ) : fV F ≤ 12 := by rw [← h.2]; exact h.1.2.1.2
theorem oM.b6 (h : oM F μ) : fB F ≤ 6 := by rw [← h.2]; exact h.1.1.2
theorem oM.e25 (h : oM F μ) : μ.1 25 = ftone F := by rw [← h.2]; rfl
theorem oM.e26 (h : oM F μ) : μ.1 26 = ftune F := by rw [← h.2]; rfl
theorem oM.e27 (h : oM F μ) : μ.1 27 = fbell F := by rw [← h.2]; rfl
theorem oM.e28 (h : oM F μ) : μ.1 28 = fwt F := by rw [← h.2]; rfl
theorem oM.e29 (h : oM F μ) : μ.1 29 = fby F := by rw [← h.2]; rfl
theorem oM.e30 (h : oM F μ) : μ.1 30 = fbr F := by rw [← h.2]; rfl
theorem oM.e31 (h : oM F μ) : μ.1 31 = fag F := by rw [← h.2]; rfl
variable {g : zG} {d i : Nat}
theorem o_isKept (ho : oM F μ) (day : Int32) (hi : i < 12) : zM g d M_isKept [.ref 0, .int (nI i), .int day] μ (fun r μ' => r = some (.int (zB (kept F i day))) ∧ μ' = μ) := by
  have h := c_M_isKept (g := g) (d := d) (μ := μ) day hi
  rw [ho.2] at h
  exact h
theorem o_giv {b k dd h : Int32} (hd : 45 ≤ d) (hi : i < 12) (hk : k = 0 ∨ k = 1) (ho : oM F μ) : zM g d M_gives [.ref 0, .int (nI i), .int b, .int k, .int dd, .int h] μ (fun v μ' => v = some (.int (giv F i b k dd h)) ∧ zq sG μ μ') := by
  have h := c_M_giv (g := g) (d := d) (μ := μ) (b := b) (dd := dd) (h := h) hd hi hk ho.1
  rw [ho.2] at h
  exact h
theorem o_putsOn {b day h : Int32} (hd : 46 ≤ d) (hi : i < 12) (ho : oM F μ) : zM g d M_putsOn [.ref 0, .int (nI i), .int b, .int day, .int h] μ (fun v μ' => v = some (.int (pu F i b day h)) ∧ zq sG μ μ') := by
  have h := c_M_putsOn (g := g) (d := d) (μ := μ) (b := b) (day := day) (h := h) hd hi ho.1
  rw [ho.2] at h
  exact h
theorem o_offOf {b day h : Int32} (hd : 47 ≤ d) (ho : oM F μ) : zM g d M_offOf [.ref 0, .int b, .int day, .int h] μ (fun r μ' => r = some (.int (offs F b day h)) ∧ zq sG μ μ') := by
  have h := c_M_offOf (g := g) (d := d) (μ := μ) (b := b) (day := day) (h := h) hd ho.1
  rw [ho.2] at h
  exact h
theorem o_manyOff {day h : Int32} (hd : 48 ≤ d) (ho : oM F μ) : zM g d M_manyOff [.ref 0, .int day, .int h] μ (fun r μ' => r = some (.int (manyOff F day h)) ∧ zq sG μ μ') := by
  have h := c_M_manyOff (g := g) (d := d) (μ := μ) (day := day) (h := h) hd ho.1
  rw [ho.2] at h
  exact h
theorem o_puts {v dh : Int32} (hd : 47 ≤ d) (ho : oM F μ) : zM g d M_puts [.ref 0, .int v, .int dh] μ (fun r μ' => r = some (.int (sPuts F v dh)) ∧ zq sG μ μ') := by
  have h := c_M_puts (g := g) (d := d) (μ := μ) (v := v) (dh := dh) hd ho.1
  rw [ho.2] at h
  exact h
end OM
theorem zf0 {σ : Type} (f : Nat → σ → σ) (i : Nat) (s : σ) : zfold f 0 (i + 1) s = f i (zfold f 0 i s) := by rw [zfold_s, Nat.zero_add]
theorem sh1 {V : Nat} (h : V ≤ 12) : (1 : Int32) <<< (nI V &&& 31) = nI (2 ^ V) := by
  have : ∀ V : Fin 13, (1 : Int32) <<< (nI V.1 &&& 31) = nI (2 ^ V.1) := by decide +kernel
  exact this ⟨V, by omega⟩
theorem p2le {V : Nat} (h : V ≤ 12) : 2 ^ V ≤ 4096 := Nat.pow_le_pow_right (by omega) h
def sDays (F : zF) (b dh n : Int32) : Int32 := if isB F b ∧ tim dh ∧ (0 ≤ n ∧ n ≤ 999) then (if n = 0 then zfind (fun k => offs F b (nI k) (hro dh) = 0) (dh / 100).toNatClampNeg (999 - (dh / 100).toNatClampNeg) else zsum (fun k => zB (¬ offs F b (nI ((dh / 100).toNatClampNeg + k)) (hro dh) = 0)) (min n.toNatClampNeg (999 - (dh / 100).toNatClampNeg))) else -1
def faT (F : zF) (by' dh : Int32) (b v : Nat) : Int32 := if fbell F v = nI b ∧ fby F v = by' then sPuts F (nI v) dh else 0
def sFaO (F : zF) (by' dh : Int32) : Int32 := zsum (fun b => zab (zsum (faT F by' dh b) (fV F))) (fB F)
def sFault (F : zF) (by' dh : Int32) : Int32 := if (-1 ≤ by' ∧ by' ≤ 5) ∧ tim dh then (if 0 ≤ by' then sFaO F by' dh else zfold (fun n is => if sFaO F is dh < sFaO F (nI n) dh then nI n else is) 1 5 0) else -1
def bit1 (v : Nat) : Int32 := (1 : Int32) <<< (nI v &&& 31)
def mayS (F : zF) (day : Int32) : Int32 := zfold (fun v s => if kept F v day then s else s ||| bit1 v) 0 (fV F) 0
def onesI (s : Int32) : Int32 := zsum (fun i => (s >>> (nI i &&& 31)) &&& 1) 12
def purV (F : zF) (set day h : Int32) (b v : Nat) : Int32 := if fbell F v = nI b then (if hasB set (nI v) then giv F v (nI b) 1 0 h else pu F v (nI b) day h) else 0
abbrev pureP (F : zF) (set day h : Int32) : Prop := ∀ b, b < fB F → zsum (purV F set day h b) (fV F) = 0
def winStep (F : zF) (day h may : Int32) (s : Nat) (is : Int32) : Int32 := if ¬ ((nI s &&& (may ^^^ -1)) = 0) ∨ (¬ is = -2 ∧ ¬ onesI (nI s) < onesI is) then is else if pureP F (nI s) day h then nI s else is
def winS (F : zF) (day h : Int32) : Int32 := zfold (winStep F day h (mayS F day)) 0 (2 ^ fV F) (-2)
def sWin (F : zF) (dh w : Int32) : Int32 := if tim dh ∧ (0 ≤ w ∧ w ≤ 1) then (if w = 1 ∨ winS F (dh / 100) (hro dh) = -2 then winS F (dh / 100) (hro dh) else onesI (winS F (dh / 100) (hro dh))) else -1
def silS (F : zF) (hour dd : Int32) : Int32 := zfold (fun v s => if giv F v (fbell F v) 1 0 hour = giv F v (fbell F v) 0 dd hour then s ||| bit1 v else s) 0 (fV F) 0
def sSilent (F : zF) (hour dd : Int32) : Int32 := if (0 ≤ hour ∧ hour ≤ 23) ∧ (0 ≤ dd ∧ dd ≤ 99) then silS F hour dd else -1
def setOf (F : zF) (b : Int32) : Int32 := zfold (fun v s => if fbell F v = b then s ||| bit1 v else s) 0 (fV F) 0
def kG (F : zF) (hd : Int32) (v : Nat) : Int32 := giv F v (fbell F v) 1 0 (hd / 100)
def bG (F : zF) (hd : Int32) (v : Nat) : Int32 := giv F v (fbell F v) 0 (hro hd) (hd / 100)
def pbT (F : zF) (kp bp : Nat → Int32) (b set : Int32) (v : Nat) : Int32 := if fbell F v = b then (if hasB set (nI v) then bp v else kp v) else 0
def pby (F : zF) (kp bp : Nat → Int32) (b set : Int32) : Int32 := ftone F b.toNatClampNeg + zsum (pbT F kp bp b set) (fV F)
abbrev htim (hd : Int32) : Prop := 0 ≤ hd ∧ hd / 100 < 24
def hStep (F : zF) (kp bp : Nat → Int32) (b pitch its : Int32) (s : Nat) (t : Int32 × Int32 × Int32 × Int32) : Int32 × Int32 × Int32 × Int32 := if ¬ ((nI s &&& (its ^^^ -1)) = 0) ∨ ¬ pby F kp bp b (nI s) = pitch then t else (t.1 + 1, t.2.1 &&& nI s, t.2.2.1 &&& (nI s ^^^ -1), if t.2.2.2 = -2 then nI s else t.2.2.2)
def heS (F : zF) (b pitch hd : Int32) : Int32 × Int32 × Int32 × Int32 := zfold (hStep F (kG F hd) (bG F hd) b pitch (setOf F b)) 0 (2 ^ fV F) (0, setOf F b, setOf F b, -2)
def heW (t : Int32 × Int32 × Int32 × Int32) (w : Int32) : Int32 := if w = 0 then t.1 else if t.1 = 0 then -2 else if w = 1 then t.2.1 else if w = 2 then t.2.2.1 else t.2.2.2
def sHeard (F : zF) (b pitch hd w : Int32) : Int32 := if isB F b ∧ htim hd ∧ (0 ≤ w ∧ w ≤ 3) then heW (heS F b pitch hd) w else -1

set_option maxRecDepth 100000 in
set_option maxHeartbeats 4000000 in
theorem w_M_days {g : zG} {d : Nat} {F : zF} {μ0 : zMem} {b dh : Int32} {D N : Nat} (hd : 48 ≤ d) (hD : dh / 100 = nI D) (hD2 : D ≤ 998) (hN : N ≤ 999) : ∀ (j i : Nat) (acc : Int32) (x6 : Option Value) (μ : zMem), i + j = 999 → oM F μ → zq sM μ0 μ → D ≤ i → acc = zsum (fun k => zB (¬ offs F b (nI (D + k)) (hro dh) = 0)) (i - D) → (N = 0 → zfind (fun k => offs F b (nI k) (hro dh) = 0) i (999 - i) = zfind (fun k => offs F b (nI k) (hro dh) = 0) D (999 - D)) → (¬ N = 0 → i ≤ D + N) → zW g M_days d 39 [some (.ref 0), some (.int b), some (.int dh), some (.int (nI N)), some (.int acc), some (.int (nI i)), x6] [] μ (fun r μ' => r = some (.int ((if N = 0 then zfind (fun k => offs F b (nI k) (hro dh) = 0) D (999 - D) else zsum (fun k => zB (¬ offs F b (nI (D + k)) (hro dh) = 0)) (min N (999 - D))))) ∧ zq sM μ0 μ') := by
  intro j
  induction j with
  | zero =>
    intro i acc x6 μ hi ho hz hv0 hv1 hv2 hv3
    have hN0 : nI N = 0 ↔ N = 0 := nI_eq (b := 0) (by omega) (by omega)
    have hi : i = 999 := by omega
    subst hi
    refine zb M_days_s39 rfl ?_
    refine z_cgt M_days_d44 (tgt := 112) rfl (fun h44 => ?_) (fun h44 => absurd (show (998 : Int32) < nI 999 by decide) h44)
    refine zb M_days_s112 rfl ?_
    refine z_ne M_days_d113 (tgt := 121) rfl (fun h113 => ?_) (fun h113 => ?_)
    · refine zb M_days_s121 rfl ?_
      refine z_ret M_days_d123 rfl ?_
      first
        | exact ⟨by rw [if_pos (hN0.mp h113), ← hv2 (hN0.mp h113)]; rfl, hz⟩
        | exact ⟨by rw [if_neg (fun z => h113 (hN0.mpr z)), hv1, Nat.min_eq_right (by have := hv3 (fun z => h113 (hN0.mpr z)); omega)], hz⟩
    · refine zb M_days_s116 rfl ?_
      refine z_ret M_days_d123 rfl ?_
      first
        | exact ⟨by rw [if_pos (hN0.mp h113), ← hv2 (hN0.mp h113)]; rfl, hz⟩
        | exact ⟨by rw [if_neg (fun z => h113 (hN0.mpr z)), hv1, Nat.min_eq_right (by have := hv3 (fun z => h113 (hN0.mpr z)); omega)], hz⟩
  | succ j ih =>
    intro i acc x6 μ hi ho hz hv0 hv1 hv2 hv3
    have hN0 : nI N = 0 ↔ N = 0 := nI_eq (b := 0) (by omega) (by omega)
    have hilt : i < 999 := by omega
    have ei : (nI i).toNatClampNeg = i := nI_clamp (by omega)
    refine zb M_days_s39 rfl ?_
    refine z_cgt M_days_d44 (tgt := 112) rfl (fun h44 => absurd h44 (show ¬ (998 : Int32) < nI i from nI_nlt (a := 998) (by omega) (by omega))) (fun h44 => ?_)
    refine zb M_days_s47 rfl ?_
    refine z_eq M_days_d48 (tgt := 62) rfl (fun h48 => ?_) (fun h48 => ?_)
    · refine zb1 M_days_s62 rfl (by first | assumption | exact vp_in_nI (by omega) (by omega) | decide) ?_
      refine zcallV M_days_d70 k11_264 (by omega) (o_offOf (by omega) ho) rfl rfl rfl (Nat.le_of_ble_eq_true rfl) ?_
      rintro _ μ1 ⟨rfl, hz1⟩
      replace hz := hz.tr hz1.gm
      replace ho := ho.q hz1.gm
      clear hz1
      refine z_eq M_days_d73 (tgt := 80) rfl (fun h73 => ?_) (fun h73 => ?_)
      · refine zb M_days_s80 rfl ?_
        refine z_ne M_days_d84 (tgt := 95) rfl (fun h84 => ?_) (fun h84 => ?_)
        · refine zb M_days_s95 rfl ?_
          refine zcallV M_days_d100 k11_167 (by omega) (c_M_one _) rfl rfl rfl (Nat.le_of_ble_eq_true rfl) ?_
          rintro _ μx ⟨rfl, hx⟩
          rw [hx]
          clear hx μx
          refine zb M_days_s103 rfl ?_
          rw [nI_1]
          refine ih (i + 1) _ _ _ (by omega) ho hz (by omega) ?_ ?_ ?_
          · rw [show i + 1 - D = (i - D) + 1 by omega, zsum_s, ← hv1, show D + (i - D) = i by omega]
            congr 1
            first | exact zB_cong (iff_of_true (by decide) h73) | exact zB_cong (iff_of_false (by decide) (fun z => z h73))
          · intro z
            rw [← hv2 z, show 999 - i = (999 - (i + 1)) + 1 by omega]
            simp only [zfind]
            rw [if_neg (fun q => by first | exact h73 q | (exact absurd (hN0.mpr z) h84) | (exact h89 rfl))]
          · intro z
            first | (exact absurd (hN0.mp h48) z) | (rw [hD, nI_add, nI_leI (by omega) (by omega)] at h59; omega)
        · refine zb M_days_s87 rfl ?_
          refine z_ne M_days_d89 (tgt := 95) rfl (fun h89 => ?_) (fun h89 => ?_)
          · refine zb M_days_s95 rfl ?_
            refine zcallV M_days_d100 k11_167 (by omega) (c_M_one _) rfl rfl rfl (Nat.le_of_ble_eq_true rfl) ?_
            rintro _ μx ⟨rfl, hx⟩
            rw [hx]
            clear hx μx
            refine zb M_days_s103 rfl ?_
            rw [nI_1]
            refine ih (i + 1) _ _ _ (by omega) ho hz (by omega) ?_ ?_ ?_
            · rw [show i + 1 - D = (i - D) + 1 by omega, zsum_s, ← hv1, show D + (i - D) = i by omega]
              congr 1
              first | exact zB_cong (iff_of_true (by decide) h73) | exact zB_cong (iff_of_false (by decide) (fun z => z h73))
            · intro z
              rw [← hv2 z, show 999 - i = (999 - (i + 1)) + 1 by omega]
              simp only [zfind]
              rw [if_neg (fun q => by first | exact h73 q | (exact absurd (hN0.mpr z) h84) | (exact h89 rfl))]
            · intro z
              first | (exact absurd (hN0.mp h48) z) | (rw [hD, nI_add, nI_leI (by omega) (by omega)] at h59; omega)
          · refine zb M_days_s92 rfl ?_
            refine z_ret M_days_d94 rfl ?_
            first
              | exact absurd h89 (by decide)
              | exact ⟨by rw [if_pos (hN0.mp h84), ← hv2 (hN0.mp h84), show 999 - i = (999 - (i + 1)) + 1 by omega, zfind, if_pos h73], hz⟩
              | exact absurd h113 h48
              | (refine ⟨?_, hz⟩
                 rw [hD, nI_add, nI_leI (by omega) (by omega)] at h59
                 have := hv3 (fun z => h48 (hN0.mpr z))
                 rw [if_neg (fun z => h48 (hN0.mpr z)), hv1, show i - D = min N (999 - D) by omega])
      · refine zb M_days_s76 rfl ?_
        refine z_ne M_days_d84 (tgt := 95) rfl (fun h84 => ?_) (fun h84 => ?_)
        · refine zb M_days_s95 rfl ?_
          refine zcallV M_days_d100 k11_167 (by omega) (c_M_one _) rfl rfl rfl (Nat.le_of_ble_eq_true rfl) ?_
          rintro _ μx ⟨rfl, hx⟩
          rw [hx]
          clear hx μx
          refine zb M_days_s103 rfl ?_
          rw [nI_1]
          refine ih (i + 1) _ _ _ (by omega) ho hz (by omega) ?_ ?_ ?_
          · rw [show i + 1 - D = (i - D) + 1 by omega, zsum_s, ← hv1, show D + (i - D) = i by omega]
            congr 1
            first | exact zB_cong (iff_of_true (by decide) h73) | exact zB_cong (iff_of_false (by decide) (fun z => z h73))
          · intro z
            rw [← hv2 z, show 999 - i = (999 - (i + 1)) + 1 by omega]
            simp only [zfind]
            rw [if_neg (fun q => by first | exact h73 q | (exact absurd (hN0.mpr z) h84) | (exact h89 rfl))]
          · intro z
            first | (exact absurd (hN0.mp h48) z) | (rw [hD, nI_add, nI_leI (by omega) (by omega)] at h59; omega)
        · refine zb M_days_s87 rfl ?_
          refine z_ne M_days_d89 (tgt := 95) rfl (fun h89 => ?_) (fun h89 => ?_)
          · refine zb M_days_s95 rfl ?_
            refine zcallV M_days_d100 k11_167 (by omega) (c_M_one _) rfl rfl rfl (Nat.le_of_ble_eq_true rfl) ?_
            rintro _ μx ⟨rfl, hx⟩
            rw [hx]
            clear hx μx
            refine zb M_days_s103 rfl ?_
            rw [nI_1]
            refine ih (i + 1) _ _ _ (by omega) ho hz (by omega) ?_ ?_ ?_
            · rw [show i + 1 - D = (i - D) + 1 by omega, zsum_s, ← hv1, show D + (i - D) = i by omega]
              congr 1
              first | exact zB_cong (iff_of_true (by decide) h73) | exact zB_cong (iff_of_false (by decide) (fun z => z h73))
            · intro z
              rw [← hv2 z, show 999 - i = (999 - (i + 1)) + 1 by omega]
              simp only [zfind]
              rw [if_neg (fun q => by first | exact h73 q | (exact absurd (hN0.mpr z) h84) | (exact h89 rfl))]
            · intro z
              first | (exact absurd (hN0.mp h48) z) | (rw [hD, nI_add, nI_leI (by omega) (by omega)] at h59; omega)
          · refine zb M_days_s92 rfl ?_
            refine z_ret M_days_d94 rfl ?_
            first
              | exact absurd h89 (by decide)
              | exact ⟨by rw [if_pos (hN0.mp h84), ← hv2 (hN0.mp h84), show 999 - i = (999 - (i + 1)) + 1 by omega, zfind, if_pos h73], hz⟩
              | exact absurd h113 h48
              | (refine ⟨?_, hz⟩
                 rw [hD, nI_add, nI_leI (by omega) (by omega)] at h59
                 have := hv3 (fun z => h48 (hN0.mpr z))
                 rw [if_neg (fun z => h48 (hN0.mpr z)), hv1, show i - D = min N (999 - D) by omega])
    · refine zb1 M_days_s51 rfl (by first | assumption | exact vp_in_nI (by omega) (by omega) | decide) ?_
      refine z_cge M_days_d59 (tgt := 112) rfl (fun h59 => ?_) (fun h59 => ?_)
      · refine zb M_days_s112 rfl ?_
        refine z_ne M_days_d113 (tgt := 121) rfl (fun h113 => ?_) (fun h113 => ?_)
        · refine zb M_days_s121 rfl ?_
          refine z_ret M_days_d123 rfl ?_
          first
            | exact absurd h89 (by decide)
            | exact ⟨by rw [if_pos (hN0.mp h84), ← hv2 (hN0.mp h84), show 999 - i = (999 - (i + 1)) + 1 by omega, zfind, if_pos h73], hz⟩
            | exact absurd h113 h48
            | (refine ⟨?_, hz⟩
               rw [hD, nI_add, nI_leI (by omega) (by omega)] at h59
               have := hv3 (fun z => h48 (hN0.mpr z))
               rw [if_neg (fun z => h48 (hN0.mpr z)), hv1, show i - D = min N (999 - D) by omega])
        · refine zb M_days_s116 rfl ?_
          refine z_ret M_days_d123 rfl ?_
          first
            | exact absurd h89 (by decide)
            | exact ⟨by rw [if_pos (hN0.mp h84), ← hv2 (hN0.mp h84), show 999 - i = (999 - (i + 1)) + 1 by omega, zfind, if_pos h73], hz⟩
            | exact absurd h113 h48
            | (refine ⟨?_, hz⟩
               rw [hD, nI_add, nI_leI (by omega) (by omega)] at h59
               have := hv3 (fun z => h48 (hN0.mpr z))
               rw [if_neg (fun z => h48 (hN0.mpr z)), hv1, show i - D = min N (999 - D) by omega])
      · refine zb1 M_days_s62 rfl (by first | assumption | exact vp_in_nI (by omega) (by omega) | decide) ?_
        refine zcallV M_days_d70 k11_264 (by omega) (o_offOf (by omega) ho) rfl rfl rfl (Nat.le_of_ble_eq_true rfl) ?_
        rintro _ μ1 ⟨rfl, hz1⟩
        replace hz := hz.tr hz1.gm
        replace ho := ho.q hz1.gm
        clear hz1
        refine z_eq M_days_d73 (tgt := 80) rfl (fun h73 => ?_) (fun h73 => ?_)
        · refine zb M_days_s80 rfl ?_
          refine z_ne M_days_d84 (tgt := 95) rfl (fun h84 => ?_) (fun h84 => ?_)
          · refine zb M_days_s95 rfl ?_
            refine zcallV M_days_d100 k11_167 (by omega) (c_M_one _) rfl rfl rfl (Nat.le_of_ble_eq_true rfl) ?_
            rintro _ μx ⟨rfl, hx⟩
            rw [hx]
            clear hx μx
            refine zb M_days_s103 rfl ?_
            rw [nI_1]
            refine ih (i + 1) _ _ _ (by omega) ho hz (by omega) ?_ ?_ ?_
            · rw [show i + 1 - D = (i - D) + 1 by omega, zsum_s, ← hv1, show D + (i - D) = i by omega]
              congr 1
              first | exact zB_cong (iff_of_true (by decide) h73) | exact zB_cong (iff_of_false (by decide) (fun z => z h73))
            · intro z
              rw [← hv2 z, show 999 - i = (999 - (i + 1)) + 1 by omega]
              simp only [zfind]
              rw [if_neg (fun q => by first | exact h73 q | (exact absurd (hN0.mpr z) h84) | (exact h89 rfl))]
            · intro z
              first | (exact absurd (hN0.mp h48) z) | (rw [hD, nI_add, nI_leI (by omega) (by omega)] at h59; omega)
          · refine zb M_days_s87 rfl ?_
            refine z_ne M_days_d89 (tgt := 95) rfl (fun h89 => ?_) (fun h89 => ?_)
            · refine zb M_days_s95 rfl ?_
              refine zcallV M_days_d100 k11_167 (by omega) (c_M_one _) rfl rfl rfl (Nat.le_of_ble_eq_true rfl) ?_
              rintro _ μx ⟨rfl, hx⟩
              rw [hx]
              clear hx μx
              refine zb M_days_s103 rfl ?_
              rw [nI_1]
              refine ih (i + 1) _ _ _ (by omega) ho hz (by omega) ?_ ?_ ?_
              · rw [show i + 1 - D = (i - D) + 1 by omega, zsum_s, ← hv1, show D + (i - D) = i by omega]
                congr 1
                first | exact zB_cong (iff_of_true (by decide) h73) | exact zB_cong (iff_of_false (by decide) (fun z => z h73))
              · intro z
                rw [← hv2 z, show 999 - i = (999 - (i + 1)) + 1 by omega]
                simp only [zfind]
                rw [if_neg (fun q => by first | exact h73 q | (exact absurd (hN0.mpr z) h84) | (exact h89 rfl))]
              · intro z
                first | (exact absurd (hN0.mp h48) z) | (rw [hD, nI_add, nI_leI (by omega) (by omega)] at h59; omega)
            · refine zb M_days_s92 rfl ?_
              refine z_ret M_days_d94 rfl ?_
              first
                | exact absurd h89 (by decide)
                | exact ⟨by rw [if_pos (hN0.mp h84), ← hv2 (hN0.mp h84), show 999 - i = (999 - (i + 1)) + 1 by omega, zfind, if_pos h73], hz⟩
                | exact absurd h113 h48
                | (refine ⟨?_, hz⟩
                   rw [hD, nI_add, nI_leI (by omega) (by omega)] at h59
                   have := hv3 (fun z => h48 (hN0.mpr z))
                   rw [if_neg (fun z => h48 (hN0.mpr z)), hv1, show i - D = min N (999 - D) by omega])
        · refine zb M_days_s76 rfl ?_
          refine z_ne M_days_d84 (tgt := 95) rfl (fun h84 => ?_) (fun h84 => ?_)
          · refine zb M_days_s95 rfl ?_
            refine zcallV M_days_d100 k11_167 (by omega) (c_M_one _) rfl rfl rfl (Nat.le_of_ble_eq_true rfl) ?_
            rintro _ μx ⟨rfl, hx⟩
            rw [hx]
            clear hx μx
            refine zb M_days_s103 rfl ?_
            rw [nI_1]
            refine ih (i + 1) _ _ _ (by omega) ho hz (by omega) ?_ ?_ ?_
            · rw [show i + 1 - D = (i - D) + 1 by omega, zsum_s, ← hv1, show D + (i - D) = i by omega]
              congr 1
              first | exact zB_cong (iff_of_true (by decide) h73) | exact zB_cong (iff_of_false (by decide) (fun z => z h73))
            · intro z
              rw [← hv2 z, show 999 - i = (999 - (i + 1)) + 1 by omega]
              simp only [zfind]
              rw [if_neg (fun q => by first | exact h73 q | (exact absurd (hN0.mpr z) h84) | (exact h89 rfl))]
            · intro z
              first | (exact absurd (hN0.mp h48) z) | (rw [hD, nI_add, nI_leI (by omega) (by omega)] at h59; omega)
          · refine zb M_days_s87 rfl ?_
            refine z_ne M_days_d89 (tgt := 95) rfl (fun h89 => ?_) (fun h89 => ?_)
            · refine zb M_days_s95 rfl ?_
              refine zcallV M_days_d100 k11_167 (by omega) (c_M_one _) rfl rfl rfl (Nat.le_of_ble_eq_true rfl) ?_
              rintro _ μx ⟨rfl, hx⟩
              rw [hx]
              clear hx μx
              refine zb M_days_s103 rfl ?_
              rw [nI_1]
              refine ih (i + 1) _ _ _ (by omega) ho hz (by omega) ?_ ?_ ?_
              · rw [show i + 1 - D = (i - D) + 1 by omega, zsum_s, ← hv1, show D + (i - D) = i by omega]
                congr 1
                first | exact zB_cong (iff_of_true (by decide) h73) | exact zB_cong (iff_of_false (by decide) (fun z => z h73))
              · intro z
                rw [← hv2 z, show 999 - i = (999 - (i + 1)) + 1 by omega]
                simp only [zfind]
                rw [if_neg (fun q => by first | exact h73 q | (exact absurd (hN0.mpr z) h84) | (exact h89 rfl))]
              · intro z
                first | (exact absurd (hN0.mp h48) z) | (rw [hD, nI_add, nI_leI (by omega) (by omega)] at h59; omega)
            · refine zb M_days_s92 rfl ?_
              refine z_ret M_days_d94 rfl ?_
              first
                | exact absurd h89 (by decide)
                | exact ⟨by rw [if_pos (hN0.mp h84), ← hv2 (hN0.mp h84), show 999 - i = (999 - (i + 1)) + 1 by omega, zfind, if_pos h73], hz⟩
                | exact absurd h113 h48
                | (refine ⟨?_, hz⟩
                   rw [hD, nI_add, nI_leI (by omega) (by omega)] at h59
                   have := hv3 (fun z => h48 (hN0.mpr z))
                   rw [if_neg (fun z => h48 (hN0.mpr z)), hv1, show i - D = min N (999 - D) by omega])

set_option maxRecDepth 100000 in
set_option maxHeartbeats 4000000 in
theorem o_days {g : zG} {d : Nat} {F : zF} {μ : zMem} {b dh n : Int32} (hd : 49 ≤ d) (ho : oM F μ) : zM g d M_days [.ref 0, .int b, .int dh, .int n] μ (fun r μ' => r = some (.int (sDays F b dh n)) ∧ zq sM μ μ') := by
  refine zM_of (by decide +kernel) rfl rfl (Nat.le_of_ble_eq_true rfl) rfl ?_
  have hz : zq sM μ μ := zq.rf
  have h12 := ho.v12
  have h6 := ho.b6
  refine zb M_days_s0 rfl ?_
  refine zcallV M_days_d2 k11_116 (by omega) (c_M_isBell _) rfl rfl rfl (Nat.le_of_ble_eq_true rfl) ?_
  rintro _ μx ⟨rfl, hx⟩
  rw [hx]
  clear hx μx
  rw [ho.b]
  refine z_eq M_days_d5 (tgt := 28) rfl (fun h5 => ?_) (fun h5 => ?_)
  · refine zb M_days_s28 rfl ?_
    refine z_ret M_days_d29 rfl ?_
    unfold sDays
    first
      | exact ⟨by rw [if_neg (fun z => (zB_eq0.mp h5) z.1)], hz⟩
      | exact ⟨by rw [if_neg (fun z => (zB_eq0.mp h13) z.2.1)], hz⟩
      | exact ⟨by rw [if_neg (fun z => (zB_eq0.mp h25) z.2.2)], hz⟩
  · refine zb M_days_s8 rfl ?_
    refine zcallV M_days_d10 k11_256 (by omega) (c_M_isTime _) rfl rfl rfl (Nat.le_of_ble_eq_true rfl) ?_
    rintro _ μx ⟨rfl, hx⟩
    rw [hx]
    clear hx μx
    refine z_eq M_days_d13 (tgt := 28) rfl (fun h13 => ?_) (fun h13 => ?_)
    · refine zb M_days_s28 rfl ?_
      refine z_ret M_days_d29 rfl ?_
      unfold sDays
      first
        | exact ⟨by rw [if_neg (fun z => (zB_eq0.mp h5) z.1)], hz⟩
        | exact ⟨by rw [if_neg (fun z => (zB_eq0.mp h13) z.2.1)], hz⟩
        | exact ⟨by rw [if_neg (fun z => (zB_eq0.mp h25) z.2.2)], hz⟩
    · refine zb M_days_s16 rfl ?_
      refine zcallV M_days_d22 k11_112 (by omega) (c_M_isIn _ _ _) rfl rfl rfl (Nat.le_of_ble_eq_true rfl) ?_
      rintro _ μx ⟨rfl, hx⟩
      rw [hx]
      clear hx μx
      refine z_ne M_days_d25 (tgt := 30) rfl (fun h25 => ?_) (fun h25 => ?_)
      · refine zb1 M_days_s30 rfl (by decide) ?_
        have hb := zB_ne0.mp h5
        have ht := zB_ne0.mp h13
        have hn := zB_ne0.mp h25
        unfold sDays
        rw [if_pos ⟨hb, ht, hn⟩]
        obtain ⟨N, hN, rfl⟩ := nI_of2 (M := 999) (n := 999) rfl (Int32.not_lt.mpr hn.1) hn.2
        obtain ⟨q, hq, hq2⟩ := nI_of (Int32.not_lt.mpr ht.1)
        have hD : dh / 100 = nI (q / 100) := by rw [hq2]; exact pk_div (d := 100) hq (by omega) (by omega)
        have hD2 : q / 100 ≤ 998 := by
          have := ht.2.1
          rw [hD] at this
          exact (nI_leI (b := 998) (by omega) (by omega)).mp this
        have hN0 : nI N = 0 ↔ N = 0 := nI_eq (b := 0) (by omega) (by omega)
        rw [show (dh / 100).toNatClampNeg = q / 100 by rw [hD, nI_clamp (by omega)], nI_clamp (by omega)]
        simp only [hN0]
        rw [hD]
        exact w_M_days (by omega) hD hD2 hN (999 - q / 100) (q / 100) _ _ _ (by omega) ho hz (by omega) (by rw [Nat.sub_self]; rfl) (fun _ => rfl) (fun _ => by omega)
      · refine zb M_days_s28 rfl ?_
        refine z_ret M_days_d29 rfl ?_
        unfold sDays
        first
          | exact ⟨by rw [if_neg (fun z => (zB_eq0.mp h5) z.1)], hz⟩
          | exact ⟨by rw [if_neg (fun z => (zB_eq0.mp h13) z.2.1)], hz⟩
          | exact ⟨by rw [if_neg (fun z => (zB_eq0.mp h25) z.2.2)], hz⟩

set_option maxRecDepth 100000 in
set_option maxHeartbeats 4000000 in
theorem w_M_faultOf_in {g : zG} {d : Nat} {F : zF} {μ0 : zMem} {w dh all : Int32} {b : Nat} (hd : 48 ≤ d) {Q : Option Value → zMem → Prop} (hQ : ∀ (μ : zMem) (x5 x6 : Option Value), oM F μ → zq sM μ0 μ → zW g M_faultOf d 5 [some (.ref 0), some (.int w), some (.int dh), some (.int (all + zab (zsum (faT F w dh b) (fV F)))), some (.int (nI (b + 1))), x5, x6] [] μ Q) : ∀ (j i : Nat) (acc : Int32) (μ : zMem), i + j = fV F → oM F μ → zq sM μ0 μ → acc = zsum (faT F w dh b) i → zW g M_faultOf d 20 [some (.ref 0), some (.int w), some (.int dh), some (.int all), some (.int (nI b)), some (.int acc), some (.int (nI i))] [] μ (Q) := by
  intro j
  induction j with
  | zero =>
    intro i acc μ hi ho hz hv0
    have hbd := ho.v
    have h12 := ho.v12
    have h6 := ho.b6
    have hi : i = fV F := by omega
    subst hi
    refine zb M_faultOf_s20 rfl ?_
    refine z_cge M_faultOf_d26 (tgt := 70) rfl (fun h26 => ?_) (fun h26 => absurd (show μ.1 0 1 ≤ nI (fV F) by first | exact Int32.le_refl _ | (rw [hbd]; exact Int32.le_refl _)) h26)
    refine zb M_faultOf_s70 rfl ?_
    refine zcallV M_faultOf_d74 k11_270 (by omega) (c_M_abs _) rfl rfl rfl (Nat.le_of_ble_eq_true rfl) ?_
    rintro _ μx ⟨rfl, hx⟩
    rw [hx]
    clear hx μx
    refine zb M_faultOf_s77 rfl ?_
    rw [nI_1, hv0]
    exact hQ _ _ _ ho hz
  | succ j ih =>
    intro i acc μ hi ho hz hv0
    have hbd := ho.v
    have h12 := ho.v12
    have h6 := ho.b6
    have hilt : i < fV F := by omega
    have ei : (nI i).toNatClampNeg = i := nI_clamp (by omega)
    refine zb M_faultOf_s20 rfl ?_
    refine z_cge M_faultOf_d26 (tgt := 70) rfl (fun h26 => absurd h26 (show ¬ μ.1 0 1 ≤ nI i by first | exact nI_ge hilt (by omega) | (rw [hbd]; exact nI_ge hilt (by omega)))) (fun h26 => ?_)
    refine zb1 M_faultOf_s29 rfl (by first | assumption | exact vp_in_nI (by omega) (by omega) | decide) ?_
    refine z_cne M_faultOf_d38 (tgt := 64) rfl (fun h38 => ?_) (fun h38 => ?_)
    · first | rw [ho.e29, ei] at h49 | rw [ho.e27, ei] at h38
      refine zb M_faultOf_s64 rfl ?_
      rw [nI_1]
      refine ih (i + 1) _ _ (by omega) ho hz ?_
      rw [zsum_s, ← hv0]
      unfold faT
      first
        | rw [if_pos (And.intro h38 h49)]
        | rw [if_neg (fun z => h38 z.1), Int32.add_zero]
        | rw [if_neg (fun z => h49 z.2), Int32.add_zero]
    · rw [ho.e27, ei] at h38
      refine zb1 M_faultOf_s41 rfl (by first | assumption | exact vp_in_nI (by omega) (by omega) | decide) ?_
      refine z_cne M_faultOf_d49 (tgt := 64) rfl (fun h49 => ?_) (fun h49 => ?_)
      · first | rw [ho.e29, ei] at h49 | rw [ho.e27, ei] at h38
        refine zb M_faultOf_s64 rfl ?_
        rw [nI_1]
        refine ih (i + 1) _ _ (by omega) ho hz ?_
        rw [zsum_s, ← hv0]
        unfold faT
        first
          | rw [if_pos (And.intro h38 h49)]
          | rw [if_neg (fun z => h38 z.1), Int32.add_zero]
          | rw [if_neg (fun z => h49 z.2), Int32.add_zero]
      · rw [ho.e29, ei] at h49
        refine zb M_faultOf_s52 rfl ?_
        refine zcallV M_faultOf_d58 k11_267 (by omega) (o_puts (by omega) ho) rfl rfl rfl (Nat.le_of_ble_eq_true rfl) ?_
        rintro _ μ1 ⟨rfl, hz1⟩
        replace hz := hz.tr hz1.gm
        replace ho := ho.q hz1.gm
        clear hz1
        refine zb M_faultOf_s61 rfl ?_
        rw [nI_1]
        refine ih (i + 1) _ _ (by omega) ho hz ?_
        rw [zsum_s, ← hv0]
        unfold faT
        first
          | rw [if_pos (And.intro h38 h49)]
          | rw [if_neg (fun z => h38 z.1), Int32.add_zero]
          | rw [if_neg (fun z => h49 z.2), Int32.add_zero]

set_option maxRecDepth 100000 in
set_option maxHeartbeats 4000000 in
theorem w_M_faultOf {g : zG} {d : Nat} {F : zF} {μ0 : zMem} {w dh : Int32} (hd : 48 ≤ d) : ∀ (j i : Nat) (acc : Int32) (x5 : Option Value) (x6 : Option Value) (μ : zMem), i + j = fB F → oM F μ → zq sM μ0 μ → acc = zsum (fun b => zab (zsum (faT F w dh b) (fV F))) i → zW g M_faultOf d 5 [some (.ref 0), some (.int w), some (.int dh), some (.int acc), some (.int (nI i)), x5, x6] [] μ (fun r μ' => r = some (.int (sFaO F w dh)) ∧ zq sM μ0 μ') := by
  intro j
  induction j with
  | zero =>
    intro i acc x5 x6 μ hi ho hz hv0
    have hbd := ho.b
    have h12 := ho.v12
    have h6 := ho.b6
    have hi : i = fB F := by omega
    subst hi
    refine zb M_faultOf_s5 rfl ?_
    refine z_cge M_faultOf_d11 (tgt := 85) rfl (fun h11 => ?_) (fun h11 => absurd (show μ.1 0 0 ≤ nI (fB F) by first | exact Int32.le_refl _ | (rw [hbd]; exact Int32.le_refl _)) h11)
    refine zb M_faultOf_s85 rfl ?_
    refine z_ret M_faultOf_d86 rfl ?_
    exact ⟨by rw [hv0]; rfl, hz⟩
  | succ j ih =>
    intro i acc x5 x6 μ hi ho hz hv0
    have hbd := ho.b
    have h12 := ho.v12
    have h6 := ho.b6
    have hilt : i < fB F := by omega
    have ei : (nI i).toNatClampNeg = i := nI_clamp (by omega)
    refine zb M_faultOf_s5 rfl ?_
    refine z_cge M_faultOf_d11 (tgt := 85) rfl (fun h11 => absurd h11 (show ¬ μ.1 0 0 ≤ nI i by first | exact nI_ge hilt (by omega) | (rw [hbd]; exact nI_ge hilt (by omega)))) (fun h11 => ?_)
    refine zb M_faultOf_s14 rfl ?_
    exact w_M_faultOf_in hd (fun μ1 y5 y6 ho1 hz1 => ih (i + 1) _ _ _ _ (by omega) ho1 hz1 (by rw [zsum_s, ← hv0])) (fV F) 0 0 μ (by omega) ho hz rfl

set_option maxRecDepth 100000 in
set_option maxHeartbeats 4000000 in
theorem o_faultOf {g : zG} {d : Nat} {F : zF} {μ : zMem} {w dh : Int32} (hd : 48 ≤ d) (ho : oM F μ) : zM g d M_faultOf [.ref 0, .int w, .int dh] μ (fun r μ' => r = some (.int (sFaO F w dh)) ∧ zq sM μ μ') := by
  refine zM_of (by decide +kernel) rfl rfl (Nat.le_of_ble_eq_true rfl) rfl ?_
  have hz : zq sM μ μ := zq.rf
  have h12 := ho.v12
  have h6 := ho.b6
  refine zb M_faultOf_s0 rfl ?_
  exact w_M_faultOf hd (fB F) 0 0 _ _ μ (by omega) ho hz rfl

set_option maxRecDepth 100000 in
set_option maxHeartbeats 4000000 in
theorem w_M_fault {g : zG} {d : Nat} {F : zF} {μ0 : zMem} {w dh : Int32} (hd : 49 ≤ d) : ∀ (j i : Nat) (is : Int32) (μ : zMem), i + j = 6 → oM F μ → zq sM μ0 μ → 1 ≤ i → is = zfold (fun n is => if sFaO F is dh < sFaO F (nI n) dh then nI n else is) 1 (i - 1) 0 → zW g M_fault d 36 [some (.ref 0), some (.int w), some (.int dh), some (.int is), some (.int (nI i))] [] μ (fun r μ' => r = some (.int (zfold (fun n is => if sFaO F is dh < sFaO F (nI n) dh then nI n else is) 1 5 0)) ∧ zq sM μ0 μ') := by
  intro j
  induction j with
  | zero =>
    intro i is μ hi ho hz hv0 hv1
    have hi : i = 6 := by omega
    subst hi
    refine zb M_fault_s36 rfl ?_
    refine z_cge M_fault_d40 (tgt := 68) rfl (fun h40 => ?_) (fun h40 => absurd (show 6 ≤ nI (6) by first | exact Int32.le_refl _ | (rw [hbd]; exact Int32.le_refl _)) h40)
    refine zb M_fault_s68 rfl ?_
    refine z_ret M_fault_d69 rfl ?_
    exact ⟨by rw [hv1], hz⟩
  | succ j ih =>
    intro i is μ hi ho hz hv0 hv1
    have hilt : i < 6 := by omega
    have ei : (nI i).toNatClampNeg = i := nI_clamp (by omega)
    refine zb M_fault_s36 rfl ?_
    refine z_cge M_fault_d40 (tgt := 68) rfl (fun h40 => absurd h40 (show ¬ 6 ≤ nI i by first | exact nI_ge (b := 6) hilt (by omega) | (rw [hbd]; exact nI_ge hilt (by omega)))) (fun h40 => ?_)
    refine zb M_fault_s43 rfl ?_
    refine zcallV M_fault_d47 k11_294 (by omega) (o_faultOf (by omega) ho) rfl rfl rfl (Nat.le_of_ble_eq_true rfl) ?_
    rintro _ μ1 ⟨rfl, hz1⟩
    replace hz := hz.tr hz1
    replace ho := ho.q hz1
    clear hz1
    refine zb M_fault_s50 rfl ?_
    refine zcallV M_fault_d53 k11_294 (by omega) (o_faultOf (by omega) ho) rfl rfl rfl (Nat.le_of_ble_eq_true rfl) ?_
    rintro _ μ1 ⟨rfl, hz1⟩
    replace hz := hz.tr hz1
    replace ho := ho.q hz1
    clear hz1
    refine z_cle M_fault_d56 (tgt := 62) rfl (fun h56 => ?_) (fun h56 => ?_)
    · refine zb M_fault_s62 rfl ?_
      rw [nI_1]
      refine ih (i + 1) _ _ (by omega) ho hz (by omega) ?_
      rw [show i + 1 - 1 = (i - 1) + 1 by omega, zfold_s, ← hv1, show 1 + (i - 1) = i by omega]
      first | rw [if_pos (Int32.not_le.mp h56)] | rw [if_neg (Int32.not_lt.mpr h56)]
    · refine zb M_fault_s59 rfl ?_
      rw [nI_1]
      refine ih (i + 1) _ _ (by omega) ho hz (by omega) ?_
      rw [show i + 1 - 1 = (i - 1) + 1 by omega, zfold_s, ← hv1, show 1 + (i - 1) = i by omega]
      first | rw [if_pos (Int32.not_le.mp h56)] | rw [if_neg (Int32.not_lt.mpr h56)]

set_option maxRecDepth 100000 in
set_option maxHeartbeats 4000000 in
theorem o_fault {g : zG} {d : Nat} {F : zF} {μ : zMem} {w dh : Int32} (hd : 49 ≤ d) (ho : oM F μ) : zM g d M_fault [.ref 0, .int w, .int dh] μ (fun r μ' => r = some (.int (sFault F w dh)) ∧ zq sM μ μ') := by
  refine zM_of (by decide +kernel) rfl rfl (Nat.le_of_ble_eq_true rfl) rfl ?_
  have hz : zq sM μ μ := zq.rf
  have h12 := ho.v12
  have h6 := ho.b6
  refine zb M_fault_s0 rfl ?_
  refine zcallV M_fault_d4 k11_112 (by omega) (c_M_isIn _ _ _) rfl rfl rfl (Nat.le_of_ble_eq_true rfl) ?_
  rintro _ μx ⟨rfl, hx⟩
  rw [hx]
  clear hx μx
  refine z_eq M_fault_d7 (tgt := 18) rfl (fun h7 => ?_) (fun h7 => ?_)
  · refine zb M_fault_s18 rfl ?_
    refine z_ret M_fault_d19 rfl ?_
    unfold sFault
    first
      | exact ⟨by rw [if_neg (fun z => (zB_eq0.mp h7) z.1)], hz⟩
      | exact ⟨by rw [if_neg (fun z => (zB_eq0.mp h15) z.2)], hz⟩
      | exact ⟨by rw [if_pos ⟨zB_ne0.mp h7, zB_ne0.mp h15⟩, if_pos (Int32.not_lt.mp h21)], hz⟩
  · refine zb M_fault_s10 rfl ?_
    refine zcallV M_fault_d12 k11_256 (by omega) (c_M_isTime _) rfl rfl rfl (Nat.le_of_ble_eq_true rfl) ?_
    rintro _ μx ⟨rfl, hx⟩
    rw [hx]
    clear hx μx
    refine z_ne M_fault_d15 (tgt := 20) rfl (fun h15 => ?_) (fun h15 => ?_)
    · refine zb M_fault_s20 rfl ?_
      refine z_lt M_fault_d21 (tgt := 31) rfl (fun h21 => ?_) (fun h21 => ?_)
      · refine zb M_fault_s31 rfl ?_
        unfold sFault
        rw [if_pos ⟨zB_ne0.mp h7, zB_ne0.mp h15⟩, if_neg (Int32.not_le.mpr h21)]
        exact w_M_fault hd 5 1 0 μ (by omega) ho hz (by omega) rfl
      · refine zb M_fault_s24 rfl ?_
        refine zcallV M_fault_d27 k11_294 (by omega) (o_faultOf (by omega) ho) rfl rfl rfl (Nat.le_of_ble_eq_true rfl) ?_
        rintro _ μ1 ⟨rfl, hz1⟩
        replace hz := hz.tr hz1
        replace ho := ho.q hz1
        clear hz1
        refine z_ret M_fault_d30 rfl ?_
        unfold sFault
        first
          | exact ⟨by rw [if_neg (fun z => (zB_eq0.mp h7) z.1)], hz⟩
          | exact ⟨by rw [if_neg (fun z => (zB_eq0.mp h15) z.2)], hz⟩
          | exact ⟨by rw [if_pos ⟨zB_ne0.mp h7, zB_ne0.mp h15⟩, if_pos (Int32.not_lt.mp h21)], hz⟩
    · refine zb M_fault_s18 rfl ?_
      refine z_ret M_fault_d19 rfl ?_
      unfold sFault
      first
        | exact ⟨by rw [if_neg (fun z => (zB_eq0.mp h7) z.1)], hz⟩
        | exact ⟨by rw [if_neg (fun z => (zB_eq0.mp h15) z.2)], hz⟩
        | exact ⟨by rw [if_pos ⟨zB_ne0.mp h7, zB_ne0.mp h15⟩, if_pos (Int32.not_lt.mp h21)], hz⟩
