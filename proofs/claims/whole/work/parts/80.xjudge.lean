/-! the class: which bell to strike next, judging -/
def opStrike (S : zS) (s hd w : Int32) : Int32 := if (0 ≤ s ∧ s < 6) ∧ htim hd ∧ (0 ≤ w ∧ w ≤ 2) then barW (hHeld S s.toNatClampNeg) (hSort S s.toNatClampNeg) (strW S.1 (kG S.1 hd) (bG S.1 hd) (hSize S s.toNatClampNeg).toNatClampNeg (hInt S s.toNatClampNeg) w) else -1
def opJudge (S : zS) (s b dh : Int32) : Int32 := if (0 ≤ s ∧ s < 6) ∧ isB S.1 b ∧ tim dh then barW (hHeld S s.toNatClampNeg) (hSort S s.toNatClampNeg) (judW S.1 b.toNatClampNeg (dh / 100).toNatClampNeg (hro dh) (hInt S s.toNatClampNeg) (hSize S s.toNatClampNeg).toNatClampNeg) else -1
theorem lyC_is {F : zF} {dd h told pitch l0 x y : Int32} {n : Nat} {c : Nat → Int32} {b : Nat} (e1 : tlP n c b = told) (e2 : tpP n c b = pitch) (hx : x = (lyI F b dd h told pitch l0).1) (hy : y = (lyI F b dd h told pitch l0).2.1) : lyC F dd h n c b = (x, y) := by
  unfold lyC
  rw [e1, e2, hx, hy, (ly_l0 (l0 := l0)).1, (ly_l0 (l0 := l0)).2]
theorem tp_in {n : Nat} {c : Nat → Int32} {b : Nat} (h : b < n) : tpP n c b = c b ∧ (c b = -1 → tlP n c b = 0) ∧ (¬ c b = -1 → tlP n c b = 1) := by
  have e : tpP n c b = c b := if_pos h
  refine ⟨e, fun z => ?_, fun z => ?_⟩
  · unfold tlP; rw [e, if_pos z]
  · unfold tlP; rw [e, if_neg z]
theorem tp_out {n : Nat} {c : Nat → Int32} {b : Nat} (h : ¬ b < n) : tpP n c b = -1 ∧ tlP n c b = 0 := by
  have e : tpP n c b = -1 := if_neg h
  refine ⟨e, ?_⟩
  unfold tlP
  rw [e, if_pos rfl]
theorem w02 {w : Int32} (h : 0 ≤ w ∧ w ≤ 2) (h0 : ¬ w = 0) (h1 : ¬ w = 1) : w = 2 := by
  obtain ⟨q, hq, rfl⟩ := nI_of2 (M := 2) (n := 2) rfl (Int32.not_lt.mpr h.1) h.2
  rcases (show q = 0 ∨ q = 1 ∨ q = 2 by omega) with rfl | rfl | rfl
  · exact absurd rfl h0
  · exact absurd rfl h1
  · rfl
theorem i64_inj {a b : Int32} (h : a.toInt64 = b.toInt64) : a = b := by
  have := congrArg Int64.toInt32 h
  rw [Int32.toInt32_toInt64, Int32.toInt32_toInt64] at this
  exact this
theorem lg_eq {a b : Int64} : lg_cmp a b = 0 ↔ a = b := by
  unfold lg_cmp
  split
  · rename_i h
    exact ⟨fun z => absurd z (by decide), fun z => by rw [z] at h; exact absurd h (by simp)⟩
  · rename_i h
    split
    · rename_i h2
      exact ⟨fun _ => h2, fun _ => rfl⟩
    · rename_i h2
      exact ⟨fun z => absurd z (by decide), fun z => absurd z h2⟩

theorem tim_nn {dh : Int32} (h : tim dh) : 0 ≤ dh / 100 := by
  obtain ⟨q, hq, rfl⟩ := nI_of (Int32.not_lt.mpr h.1)
  rw [show (nI q) / 100 = nI (q / 100) from pk_div (d := 100) hq (by decide) (by decide)]
  exact nI_pos' (by omega)

set_option maxRecDepth 100000 in
set_option maxHeartbeats 4000000 in
theorem x_refFor_0 {g : zG} {d : Nat} {μ : zMem} {p : Int32} (hd : 2 ≤ d) : zM g d S_refusalFor [.ref 13, .int p] μ (fun r μ' => r = some (.int (if bE 13 μ then -11 else if bR 13 μ ∧ μ.1 13 2 = p then 0 else -12)) ∧ μ' = μ) := by
  refine zM_of (by decide +kernel) rfl rfl (Nat.le_of_ble_eq_true rfl) rfl ?_
  refine zb S_refusalFor_s0 rfl ?_
  refine zcallV S_refusalFor_d1 k8_29 (by omega) (x_isEmpty_0) rfl rfl rfl (Nat.le_of_ble_eq_true rfl) ?_
  rintro _ μx ⟨rfl, hx⟩
  rw [hx]
  clear hx μx
  refine z_eq S_refusalFor_d4 (tgt := 10) rfl (fun h4 => ?_) (fun h4 => ?_)
  · refine zb S_refusalFor_s10 rfl ?_
    refine zcallV S_refusalFor_d12 k8_32 (by omega) (x_isRowOf_0 _ (by omega)) rfl rfl rfl (Nat.le_of_ble_eq_true rfl) ?_
    rintro _ μx ⟨rfl, hx⟩
    rw [hx]
    clear hx μx
    refine z_eq S_refusalFor_d15 (tgt := 22) rfl (fun h15 => ?_) (fun h15 => ?_)
    · refine zb S_refusalFor_s22 rfl ?_
      refine z_ret S_refusalFor_d24 rfl ?_
      refine ⟨?_, rfl⟩
      first
        | (rw [if_pos (show bE 13 μ from zB_ne0.mp h4)]; done)
        | (rw [if_neg (show ¬ bE 13 μ from zB_eq0.mp h4), if_pos (show bR 13 μ ∧ μ.1 13 2 = p from zB_ne0.mp h15)]; done)
        | (rw [if_neg (show ¬ bE 13 μ from zB_eq0.mp h4), if_neg (show ¬ (bR 13 μ ∧ μ.1 13 2 = p) from zB_eq0.mp h15)]; done)
    · refine zb S_refusalFor_s18 rfl ?_
      refine z_ret S_refusalFor_d24 rfl ?_
      refine ⟨?_, rfl⟩
      first
        | (rw [if_pos (show bE 13 μ from zB_ne0.mp h4)]; done)
        | (rw [if_neg (show ¬ bE 13 μ from zB_eq0.mp h4), if_pos (show bR 13 μ ∧ μ.1 13 2 = p from zB_ne0.mp h15)]; done)
        | (rw [if_neg (show ¬ bE 13 μ from zB_eq0.mp h4), if_neg (show ¬ (bR 13 μ ∧ μ.1 13 2 = p) from zB_eq0.mp h15)]; done)
  · refine zb S_refusalFor_s7 rfl ?_
    refine z_ret S_refusalFor_d9 rfl ?_
    refine ⟨?_, rfl⟩
    first
      | (rw [if_pos (show bE 13 μ from zB_ne0.mp h4)]; done)
      | (rw [if_neg (show ¬ bE 13 μ from zB_eq0.mp h4), if_pos (show bR 13 μ ∧ μ.1 13 2 = p from zB_ne0.mp h15)]; done)
      | (rw [if_neg (show ¬ bE 13 μ from zB_eq0.mp h4), if_neg (show ¬ (bR 13 μ ∧ μ.1 13 2 = p) from zB_eq0.mp h15)]; done)

set_option maxRecDepth 100000 in
set_option maxHeartbeats 4000000 in
theorem w_strike_0 {g : zG} {d : Nat} {F : zF} {μ0 : zMem} {dd h w : Int32} {n : Nat} {cc : Nat → Int32} (hn : n ≤ 60) (hsz : μ0.1 13 3 = nI n) (hce : ∀ t, t < 60 → (μ0.2.1 19 t).toInt32 = cc t) (hF : okF F) (hdd : 0 ≤ dd) (hd : 7 ≤ d) : ∀ (j i : Nat) (all : Int32) (bell : Int32) (most : Int32) (x9 : Option Value) (μ : zMem), i + j = fB F → oX F μ → zq sX μ0 μ → (all = strA F dd h n cc i) → ((bell, most) = strM F dd h n cc i) → zW g L_nextToStrike d 14 [some (.ref 5), some (.ref 13), some (.int h), some (.int dd), some (.int w), some (.int all), some (.int bell), some (.int most), some (.int (nI i)), x9] [] μ (fun r μ' => r = some (.int (strC F dd h n cc w)) ∧ zq sX μ0 μ') := by
  intro j
  induction j with
  | zero =>
    intro i all bell most x9 μ hi ho hz hv0 hv1
    have hbd := ho.b
    have h12 := ho.v12
    have h6 := ho.b6
    have hsz2 : μ.1 13 3 = nI n := by rw [hz.1 13 3 rfl]; exact hsz
    have hce2 : ∀ t, t < 60 → (μ.2.1 19 t).toInt32 = cc t := fun t ht => by rw [hz.2]; exact hce t ht
    have hi : fB F = i := by omega
    subst hi
    refine zb L_nextToStrike_s14 rfl ?_
    refine z_cge L_nextToStrike_d23 (tgt := 104) rfl (fun h23 => ?_) (fun h23 => absurd (show μ.1 2 7 ≤ nI (fB F) by first | exact Int32.le_refl _ | (rw [hbd]; exact Int32.le_refl _)) h23)
    refine zb L_nextToStrike_s104 rfl ?_
    refine z_ne L_nextToStrike_d106 (tgt := 112) rfl (fun h106 => ?_) (fun h106 => ?_)
    · refine zb L_nextToStrike_s112 rfl ?_
      refine z_ne L_nextToStrike_d114 (tgt := 120) rfl (fun h114 => ?_) (fun h114 => ?_)
      · refine zb L_nextToStrike_s120 rfl ?_
        refine z_cne L_nextToStrike_d123 (tgt := 131) rfl (fun h123 => ?_) (fun h123 => ?_)
        · refine zb L_nextToStrike_s131 rfl ?_
          refine z_ret L_nextToStrike_d133 rfl ?_
          refine ⟨congrArg (fun z => some (Value.int z)) ?_, hz⟩
          unfold strC
          rw [hv0] at *
          first
            | (rw [if_pos h106]; done)
            | (rw [if_neg h106, if_pos h114]; done)
            | (rw [if_neg h106, if_neg h114, if_pos h123, ← hv1]; done)
            | (rw [if_neg h106, if_neg h114, if_neg h123, ← hv1]; done)
        · refine zb L_nextToStrike_s126 rfl ?_
          refine z_ret L_nextToStrike_d133 rfl ?_
          refine ⟨congrArg (fun z => some (Value.int z)) ?_, hz⟩
          unfold strC
          rw [hv0] at *
          first
            | (rw [if_pos h106]; done)
            | (rw [if_neg h106, if_pos h114]; done)
            | (rw [if_neg h106, if_neg h114, if_pos h123, ← hv1]; done)
            | (rw [if_neg h106, if_neg h114, if_neg h123, ← hv1]; done)
      · refine zb L_nextToStrike_s117 rfl ?_
        refine z_ret L_nextToStrike_d119 rfl ?_
        refine ⟨congrArg (fun z => some (Value.int z)) ?_, hz⟩
        unfold strC
        rw [hv0] at *
        first
          | (rw [if_pos h106]; done)
          | (rw [if_neg h106, if_pos h114]; done)
          | (rw [if_neg h106, if_neg h114, if_pos h123, ← hv1]; done)
          | (rw [if_neg h106, if_neg h114, if_neg h123, ← hv1]; done)
    · refine zb L_nextToStrike_s109 rfl ?_
      refine z_ret L_nextToStrike_d111 rfl ?_
      refine ⟨congrArg (fun z => some (Value.int z)) ?_, hz⟩
      unfold strC
      rw [hv0] at *
      first
        | (rw [if_pos h106]; done)
        | (rw [if_neg h106, if_pos h114]; done)
        | (rw [if_neg h106, if_neg h114, if_pos h123, ← hv1]; done)
        | (rw [if_neg h106, if_neg h114, if_neg h123, ← hv1]; done)
  | succ j ih =>
    intro i all bell most x9 μ hi ho hz hv0 hv1
    have hbd := ho.b
    have h12 := ho.v12
    have h6 := ho.b6
    have hsz2 : μ.1 13 3 = nI n := by rw [hz.1 13 3 rfl]; exact hsz
    have hce2 : ∀ t, t < 60 → (μ.2.1 19 t).toInt32 = cc t := fun t ht => by rw [hz.2]; exact hce t ht
    have hilt : i < fB F := by omega
    have ei : (nI i).toNatClampNeg = i := nI_clamp (by omega)
    have hi60 : i < 60 := by omega
    have hvi : vp_in (nI i) 60 := vp_in_nI (by omega) (by omega)
    have hci := hce2 i hi60
    refine zb L_nextToStrike_s14 rfl ?_
    refine z_cge L_nextToStrike_d23 (tgt := 104) rfl (fun h23 => absurd h23 (show ¬ μ.1 2 7 ≤ nI i by first | exact nI_ge hilt (by omega) | (rw [hbd]; exact nI_ge hilt (by omega)))) (fun h23 => ?_)
    refine zb L_nextToStrike_s26 rfl ?_
    refine z_cge L_nextToStrike_d32 (tgt := 46) rfl (fun h32 => ?_) (fun h32 => ?_)
    · refine zb L_nextToStrike_s46 rfl ?_
      refine z_ceq L_nextToStrike_d57 (tgt := 64) rfl (fun h57 => ?_) (fun h57 => ?_)
      · refine zb L_nextToStrike_s64 rfl ?_
        refine zcallV L_nextToStrike_d67 k5_114 (by omega) (x_hear (b := i) hF hdd (by omega) hilt ho) rfl rfl rfl (Nat.le_of_ble_eq_true rfl) ?_
        rintro _ μ1 ⟨rfl, hz1, l0, hr⟩
        replace hz := hz.tr hz1
        replace ho := ho.q hz1
        refine zb L_nextToStrike_s70 rfl ?_
        refine z_cle L_nextToStrike_d85 (tgt := 98) rfl (fun h85 => ?_) (fun h85 => ?_)
        · refine zb L_nextToStrike_s98 rfl ?_
          rw [nI_1]
          rw [hsz2] at h32
          have hlc : lyC F dd h n cc i = (μ1.1 5 6, μ1.1 5 7) := by
            first
              | (have hlt : i < n := (nI_ltI (by omega) (by omega)).mp (Int32.not_le.mp h32)
                 have k := tp_in (c := cc) hlt
                 rw [ei, hci] at h57 hr
                 first
                   | exact lyC_is (k.2.1 h57) k.1 hr.1 hr.2.1
                   | exact lyC_is (k.2.2 h57) k.1 hr.1 hr.2.1)
              | (have hge : ¬ i < n := fun z => absurd h32 (nI_ge z (by omega))
                 have k := tp_out (c := cc) hge
                 exact lyC_is k.2 k.1 hr.1 hr.2.1)
              | exact absurd rfl h57
          have hsA : strA F dd h n cc (i + 1) = all * μ1.1 5 6 := by
            unfold strA at hv0 ⊢
            rw [zf0, ← hv0, hlc]
          have hsM : strM F dd h n cc (i + 1) = if most < μ1.1 5 7 then (nI i, μ1.1 5 7) else (bell, most) := by
            unfold strM at hv1 ⊢
            rw [zf0, ← hv1, hlc]
          first
            | exact ih (i + 1) _ _ _ _ _ (by omega) ho hz hsA.symm (by rw [hsM, if_pos (Int32.not_le.mp h85)])
            | exact ih (i + 1) _ _ _ _ _ (by omega) ho hz hsA.symm (by rw [hsM, if_neg (Int32.not_lt.mpr h85)])
        · refine zb L_nextToStrike_s88 rfl ?_
          rw [nI_1]
          rw [hsz2] at h32
          have hlc : lyC F dd h n cc i = (μ1.1 5 6, μ1.1 5 7) := by
            first
              | (have hlt : i < n := (nI_ltI (by omega) (by omega)).mp (Int32.not_le.mp h32)
                 have k := tp_in (c := cc) hlt
                 rw [ei, hci] at h57 hr
                 first
                   | exact lyC_is (k.2.1 h57) k.1 hr.1 hr.2.1
                   | exact lyC_is (k.2.2 h57) k.1 hr.1 hr.2.1)
              | (have hge : ¬ i < n := fun z => absurd h32 (nI_ge z (by omega))
                 have k := tp_out (c := cc) hge
                 exact lyC_is k.2 k.1 hr.1 hr.2.1)
              | exact absurd rfl h57
          have hsA : strA F dd h n cc (i + 1) = all * μ1.1 5 6 := by
            unfold strA at hv0 ⊢
            rw [zf0, ← hv0, hlc]
          have hsM : strM F dd h n cc (i + 1) = if most < μ1.1 5 7 then (nI i, μ1.1 5 7) else (bell, most) := by
            unfold strM at hv1 ⊢
            rw [zf0, ← hv1, hlc]
          first
            | exact ih (i + 1) _ _ _ _ _ (by omega) ho hz hsA.symm (by rw [hsM, if_pos (Int32.not_le.mp h85)])
            | exact ih (i + 1) _ _ _ _ _ (by omega) ho hz hsA.symm (by rw [hsM, if_neg (Int32.not_lt.mpr h85)])
      · refine zb L_nextToStrike_s60 rfl ?_
        refine zcallV L_nextToStrike_d67 k5_114 (by omega) (x_hear (b := i) hF hdd (by omega) hilt ho) rfl rfl rfl (Nat.le_of_ble_eq_true rfl) ?_
        rintro _ μ1 ⟨rfl, hz1, l0, hr⟩
        replace hz := hz.tr hz1
        replace ho := ho.q hz1
        refine zb L_nextToStrike_s70 rfl ?_
        refine z_cle L_nextToStrike_d85 (tgt := 98) rfl (fun h85 => ?_) (fun h85 => ?_)
        · refine zb L_nextToStrike_s98 rfl ?_
          rw [nI_1]
          rw [hsz2] at h32
          have hlc : lyC F dd h n cc i = (μ1.1 5 6, μ1.1 5 7) := by
            first
              | (have hlt : i < n := (nI_ltI (by omega) (by omega)).mp (Int32.not_le.mp h32)
                 have k := tp_in (c := cc) hlt
                 rw [ei, hci] at h57 hr
                 first
                   | exact lyC_is (k.2.1 h57) k.1 hr.1 hr.2.1
                   | exact lyC_is (k.2.2 h57) k.1 hr.1 hr.2.1)
              | (have hge : ¬ i < n := fun z => absurd h32 (nI_ge z (by omega))
                 have k := tp_out (c := cc) hge
                 exact lyC_is k.2 k.1 hr.1 hr.2.1)
              | exact absurd rfl h57
          have hsA : strA F dd h n cc (i + 1) = all * μ1.1 5 6 := by
            unfold strA at hv0 ⊢
            rw [zf0, ← hv0, hlc]
          have hsM : strM F dd h n cc (i + 1) = if most < μ1.1 5 7 then (nI i, μ1.1 5 7) else (bell, most) := by
            unfold strM at hv1 ⊢
            rw [zf0, ← hv1, hlc]
          first
            | exact ih (i + 1) _ _ _ _ _ (by omega) ho hz hsA.symm (by rw [hsM, if_pos (Int32.not_le.mp h85)])
            | exact ih (i + 1) _ _ _ _ _ (by omega) ho hz hsA.symm (by rw [hsM, if_neg (Int32.not_lt.mpr h85)])
        · refine zb L_nextToStrike_s88 rfl ?_
          rw [nI_1]
          rw [hsz2] at h32
          have hlc : lyC F dd h n cc i = (μ1.1 5 6, μ1.1 5 7) := by
            first
              | (have hlt : i < n := (nI_ltI (by omega) (by omega)).mp (Int32.not_le.mp h32)
                 have k := tp_in (c := cc) hlt
                 rw [ei, hci] at h57 hr
                 first
                   | exact lyC_is (k.2.1 h57) k.1 hr.1 hr.2.1
                   | exact lyC_is (k.2.2 h57) k.1 hr.1 hr.2.1)
              | (have hge : ¬ i < n := fun z => absurd h32 (nI_ge z (by omega))
                 have k := tp_out (c := cc) hge
                 exact lyC_is k.2 k.1 hr.1 hr.2.1)
              | exact absurd rfl h57
          have hsA : strA F dd h n cc (i + 1) = all * μ1.1 5 6 := by
            unfold strA at hv0 ⊢
            rw [zf0, ← hv0, hlc]
          have hsM : strM F dd h n cc (i + 1) = if most < μ1.1 5 7 then (nI i, μ1.1 5 7) else (bell, most) := by
            unfold strM at hv1 ⊢
            rw [zf0, ← hv1, hlc]
          first
            | exact ih (i + 1) _ _ _ _ _ (by omega) ho hz hsA.symm (by rw [hsM, if_pos (Int32.not_le.mp h85)])
            | exact ih (i + 1) _ _ _ _ _ (by omega) ho hz hsA.symm (by rw [hsM, if_neg (Int32.not_lt.mpr h85)])
    · refine zb1 L_nextToStrike_s35 rfl (by first | exact hvi | (rw [ei]; exact hvi)) ?_
      refine z_ceq L_nextToStrike_d57 (tgt := 64) rfl (fun h57 => ?_) (fun h57 => ?_)
      · refine zb L_nextToStrike_s64 rfl ?_
        refine zcallV L_nextToStrike_d67 k5_114 (by omega) (x_hear (b := i) hF hdd (by omega) hilt ho) rfl rfl rfl (Nat.le_of_ble_eq_true rfl) ?_
        rintro _ μ1 ⟨rfl, hz1, l0, hr⟩
        replace hz := hz.tr hz1
        replace ho := ho.q hz1
        refine zb L_nextToStrike_s70 rfl ?_
        refine z_cle L_nextToStrike_d85 (tgt := 98) rfl (fun h85 => ?_) (fun h85 => ?_)
        · refine zb L_nextToStrike_s98 rfl ?_
          rw [nI_1]
          rw [hsz2] at h32
          have hlc : lyC F dd h n cc i = (μ1.1 5 6, μ1.1 5 7) := by
            first
              | (have hlt : i < n := (nI_ltI (by omega) (by omega)).mp (Int32.not_le.mp h32)
                 have k := tp_in (c := cc) hlt
                 rw [ei, hci] at h57 hr
                 first
                   | exact lyC_is (k.2.1 h57) k.1 hr.1 hr.2.1
                   | exact lyC_is (k.2.2 h57) k.1 hr.1 hr.2.1)
              | (have hge : ¬ i < n := fun z => absurd h32 (nI_ge z (by omega))
                 have k := tp_out (c := cc) hge
                 exact lyC_is k.2 k.1 hr.1 hr.2.1)
              | exact absurd rfl h57
          have hsA : strA F dd h n cc (i + 1) = all * μ1.1 5 6 := by
            unfold strA at hv0 ⊢
            rw [zf0, ← hv0, hlc]
          have hsM : strM F dd h n cc (i + 1) = if most < μ1.1 5 7 then (nI i, μ1.1 5 7) else (bell, most) := by
            unfold strM at hv1 ⊢
            rw [zf0, ← hv1, hlc]
          first
            | exact ih (i + 1) _ _ _ _ _ (by omega) ho hz hsA.symm (by rw [hsM, if_pos (Int32.not_le.mp h85)])
            | exact ih (i + 1) _ _ _ _ _ (by omega) ho hz hsA.symm (by rw [hsM, if_neg (Int32.not_lt.mpr h85)])
        · refine zb L_nextToStrike_s88 rfl ?_
          rw [nI_1]
          rw [hsz2] at h32
          have hlc : lyC F dd h n cc i = (μ1.1 5 6, μ1.1 5 7) := by
            first
              | (have hlt : i < n := (nI_ltI (by omega) (by omega)).mp (Int32.not_le.mp h32)
                 have k := tp_in (c := cc) hlt
                 rw [ei, hci] at h57 hr
                 first
                   | exact lyC_is (k.2.1 h57) k.1 hr.1 hr.2.1
                   | exact lyC_is (k.2.2 h57) k.1 hr.1 hr.2.1)
              | (have hge : ¬ i < n := fun z => absurd h32 (nI_ge z (by omega))
                 have k := tp_out (c := cc) hge
                 exact lyC_is k.2 k.1 hr.1 hr.2.1)
              | exact absurd rfl h57
          have hsA : strA F dd h n cc (i + 1) = all * μ1.1 5 6 := by
            unfold strA at hv0 ⊢
            rw [zf0, ← hv0, hlc]
          have hsM : strM F dd h n cc (i + 1) = if most < μ1.1 5 7 then (nI i, μ1.1 5 7) else (bell, most) := by
            unfold strM at hv1 ⊢
            rw [zf0, ← hv1, hlc]
          first
            | exact ih (i + 1) _ _ _ _ _ (by omega) ho hz hsA.symm (by rw [hsM, if_pos (Int32.not_le.mp h85)])
            | exact ih (i + 1) _ _ _ _ _ (by omega) ho hz hsA.symm (by rw [hsM, if_neg (Int32.not_lt.mpr h85)])
      · refine zb L_nextToStrike_s60 rfl ?_
        refine zcallV L_nextToStrike_d67 k5_114 (by omega) (x_hear (b := i) hF hdd (by omega) hilt ho) rfl rfl rfl (Nat.le_of_ble_eq_true rfl) ?_
        rintro _ μ1 ⟨rfl, hz1, l0, hr⟩
        replace hz := hz.tr hz1
        replace ho := ho.q hz1
        refine zb L_nextToStrike_s70 rfl ?_
        refine z_cle L_nextToStrike_d85 (tgt := 98) rfl (fun h85 => ?_) (fun h85 => ?_)
        · refine zb L_nextToStrike_s98 rfl ?_
          rw [nI_1]
          rw [hsz2] at h32
          have hlc : lyC F dd h n cc i = (μ1.1 5 6, μ1.1 5 7) := by
            first
              | (have hlt : i < n := (nI_ltI (by omega) (by omega)).mp (Int32.not_le.mp h32)
                 have k := tp_in (c := cc) hlt
                 rw [ei, hci] at h57 hr
                 first
                   | exact lyC_is (k.2.1 h57) k.1 hr.1 hr.2.1
                   | exact lyC_is (k.2.2 h57) k.1 hr.1 hr.2.1)
              | (have hge : ¬ i < n := fun z => absurd h32 (nI_ge z (by omega))
                 have k := tp_out (c := cc) hge
                 exact lyC_is k.2 k.1 hr.1 hr.2.1)
              | exact absurd rfl h57
          have hsA : strA F dd h n cc (i + 1) = all * μ1.1 5 6 := by
            unfold strA at hv0 ⊢
            rw [zf0, ← hv0, hlc]
          have hsM : strM F dd h n cc (i + 1) = if most < μ1.1 5 7 then (nI i, μ1.1 5 7) else (bell, most) := by
            unfold strM at hv1 ⊢
            rw [zf0, ← hv1, hlc]
          first
            | exact ih (i + 1) _ _ _ _ _ (by omega) ho hz hsA.symm (by rw [hsM, if_pos (Int32.not_le.mp h85)])
            | exact ih (i + 1) _ _ _ _ _ (by omega) ho hz hsA.symm (by rw [hsM, if_neg (Int32.not_lt.mpr h85)])
        · refine zb L_nextToStrike_s88 rfl ?_
          rw [nI_1]
          rw [hsz2] at h32
          have hlc : lyC F dd h n cc i = (μ1.1 5 6, μ1.1 5 7) := by
            first
              | (have hlt : i < n := (nI_ltI (by omega) (by omega)).mp (Int32.not_le.mp h32)
                 have k := tp_in (c := cc) hlt
                 rw [ei, hci] at h57 hr
                 first
                   | exact lyC_is (k.2.1 h57) k.1 hr.1 hr.2.1
                   | exact lyC_is (k.2.2 h57) k.1 hr.1 hr.2.1)
              | (have hge : ¬ i < n := fun z => absurd h32 (nI_ge z (by omega))
                 have k := tp_out (c := cc) hge
                 exact lyC_is k.2 k.1 hr.1 hr.2.1)
              | exact absurd rfl h57
          have hsA : strA F dd h n cc (i + 1) = all * μ1.1 5 6 := by
            unfold strA at hv0 ⊢
            rw [zf0, ← hv0, hlc]
          have hsM : strM F dd h n cc (i + 1) = if most < μ1.1 5 7 then (nI i, μ1.1 5 7) else (bell, most) := by
            unfold strM at hv1 ⊢
            rw [zf0, ← hv1, hlc]
          first
            | exact ih (i + 1) _ _ _ _ _ (by omega) ho hz hsA.symm (by rw [hsM, if_pos (Int32.not_le.mp h85)])
            | exact ih (i + 1) _ _ _ _ _ (by omega) ho hz hsA.symm (by rw [hsM, if_neg (Int32.not_lt.mpr h85)])

set_option maxRecDepth 100000 in
set_option maxHeartbeats 4000000 in
theorem x_strikeN_0 {g : zG} {d : Nat} {F : zF} {μ0 : zMem} {dd h w : Int32} {n : Nat} {cc : Nat → Int32} (hn : n ≤ 60) (hsz : μ0.1 13 3 = nI n) (hce : ∀ t, t < 60 → (μ0.2.1 19 t).toInt32 = cc t) (hF : okF F) (hdd : 0 ≤ dd) (hd : 7 ≤ d) (ho : oX F μ0) : zM g d L_nextToStrike [.ref 5, .ref 13, .int h, .int dd, .int w] μ0 (fun r μ' => r = some (.int (strC F dd h n cc w)) ∧ zq sX μ0 μ') := by
  refine zM_of (by decide +kernel) rfl rfl (Nat.le_of_ble_eq_true rfl) rfl ?_
  refine zb L_nextToStrike_s0 rfl ?_
  exact w_strike_0 hn hsz hce hF hdd hd (fB F) 0 _ _ _ _ μ0 (by omega) ho zq.rf rfl rfl

set_option maxRecDepth 100000 in
set_option maxHeartbeats 4000000 in
theorem xs_strike_0 {g : zG} {d : Nat} {S : zS} {μ : zMem} {hd w : Int32} (hF : okF S.1) (hd9 : 8 ≤ d) (hS : xS S μ) (hok : okH S) : zM g d X_strike [.ref 1, .int (nI 0), .int hd, .int w] μ (fun r μ' => r = some (.int (opStrike S (nI 0) hd w)) ∧ zq sX μ μ') := by
  refine zM_of (by decide +kernel) rfl rfl (Nat.le_of_ble_eq_true rfl) rfl ?_
  obtain ⟨ho, h2, hT, hC, hD, hI, hA, hH⟩ := hS
  have hS : xS S μ := ⟨ho, h2, hT, hC, hD, hI, hA, hH⟩
  have hb := ho.b
  have hv := ho.v
  have hB6 := ho.b6
  have hV12 := ho.v12
  have hz : zq sX μ μ := zq.rf
  have xs := xsh (s := 0) hS hok (by omega)
  have hF9 := hF
  refine zb X_strike_s0 rfl ?_
  refine zcallV X_strike_d2 k10_93 (by omega) (x_shelf_0 (by omega)) rfl rfl rfl (Nat.le_of_ble_eq_true rfl) ?_
  rintro _ μx ⟨rfl, hx⟩
  rw [hx]
  clear hx μx
  refine zb X_strike_s5 rfl ?_
  refine z_null X_strike_d9 ?_
  refine zb X_strike_s12 rfl ?_
  refine zcallS X_strike_d13 k10_237 (by omega) (x_isHourDays _) rfl rfl (Nat.le_of_ble_eq_true rfl) ?_
  rintro _ μx ⟨rfl, hx⟩
  rw [hx]
  clear hx μx
  refine z_eq X_strike_d16 (tgt := 27) rfl (fun h16 => ?_) (fun h16 => ?_)
  · refine zb X_strike_s27 rfl ?_
    refine z_ret X_strike_d28 rfl ?_
    refine ⟨congrArg (fun z => some (Value.int z)) ?_, hz⟩
    unfold opStrike
    rw [show (nI 0).toNatClampNeg = 0 from rfl]
    first
      | rw [if_neg (fun z => (show ¬ htim hd from zB_eq0.mp h16) z.2.1)]
      | rw [if_neg (fun z => (show ¬ (0 ≤ w ∧ w ≤ 2) from zB_eq0.mp h24) z.2.2)]
      | (rw [if_pos (And.intro (And.intro (by decide) (by decide)) (And.intro (show htim hd from zB_ne0.mp h16) (show 0 ≤ w ∧ w ≤ 2 from zB_ne0.mp h24)))]
         first
           | (unfold barW
              rw [if_neg (show ¬ hHeld S 0 = 0 by rw [g2.1]; decide), if_pos g2, em, nI_clamp (by omega), str_eq hF ho.b6 ho.v12]
              rfl)
           | (unfold barW
              by_cases z : bE 13 μ
              · rw [if_pos z]
                rcases xs with y | y | y
                · rw [if_pos y.1]
                · exact absurd z y.2.1
                · exact absurd z y.2.1
              · rw [if_neg z]
                rw [if_neg z] at h39
                by_cases u : bR 13 μ ∧ μ.1 13 2 = 1
                · rw [if_pos u] at h39; exact absurd rfl h39
                · rw [if_neg u]
                  rcases xs with y | y | y
                  · exact absurd y.2.1 z
                  · rw [y.1, if_neg (by decide), if_neg (fun v => absurd v.1 (by decide))]
                  · rw [y.1, if_neg (by decide), if_neg (fun v => u ⟨y.2.2.1, y.2.2.2.1.trans v.2⟩)]))
  · refine zb X_strike_s19 rfl ?_
    refine zcallS X_strike_d21 k10_170 (by omega) (x_isWithin _ _) rfl rfl (Nat.le_of_ble_eq_true rfl) ?_
    rintro _ μx ⟨rfl, hx⟩
    rw [hx]
    clear hx μx
    refine z_ne X_strike_d24 (tgt := 29) rfl (fun h24 => ?_) (fun h24 => ?_)
    · refine zb X_strike_s29 rfl ?_
      refine zcallV X_strike_d32 k10_247 (by omega) (x_refFor_0 (by omega)) rfl rfl rfl (Nat.le_of_ble_eq_true rfl) ?_
      rintro _ μx ⟨rfl, hx⟩
      rw [hx]
      clear hx μx
      refine zb X_strike_s35 rfl ?_
      refine z_eq X_strike_d39 (tgt := 47) rfl (fun h39 => ?_) (fun h39 => ?_)
      · have g1 : ¬ bE 13 μ ∧ bR 13 μ ∧ μ.1 13 2 = 1 := by
          by_cases z : bE 13 μ
          · rw [if_pos z] at h39; exact absurd h39 (by decide)
          · rw [if_neg z] at h39
            by_cases y : bR 13 μ ∧ μ.1 13 2 = 1
            · exact ⟨z, y⟩
            · rw [if_neg y] at h39; exact absurd h39 (by decide)
        have g2 : hHeld S 0 = 2 ∧ hSort S 0 = 1 := by
          rcases xs with z | z | z
          · exact absurd z.2.1 g1.1
          · exact absurd g1.2.1 z.2.2.1
          · exact And.intro z.1 (z.2.2.2.1.symm.trans g1.2.2)
        obtain ⟨m, hm, em, hrow⟩ : ∃ m, m ≤ 60 ∧ hSize S 0 = nI m ∧ (∀ i, i < 60 → (hInt S 0 i).toInt64 = hCell S 0 i) := by
          rcases hok 0 (by omega) with z | z | z
          · rw [g2.1] at z; exact absurd z (by decide)
          · rw [g2.1] at z; exact absurd z.1 (by decide)
          · obtain ⟨m, h1, h2⟩ := z.2.2.1
            exact ⟨m, h1, h2, z.2.2.2 g2.2⟩
        have hszS : μ.1 13 3 = nI m := (xS_hz (s := 0) hS (by omega) g2.1).trans em
        have hceS : ∀ t, t < 60 → (μ.2.1 19 t).toInt32 = hInt S 0 t := xS_hc (s := 0) hS (by omega)
        have q2 : htim hd := zB_ne0.mp h16
        refine zb2 X_strike_s47 rfl (by decide) (by decide) ?_
        refine zcallV X_strike_d62 k10_250 (by omega) (x_strikeN_0 (dd := hro hd) hm hszS hceS hF (hro_nn q2.1) (by omega) ho) rfl rfl rfl (Nat.le_of_ble_eq_true rfl) ?_
        rintro _ μ1 ⟨rfl, hz1⟩
        replace hz := hz.tr hz1
        replace ho := ho.q hz1
        clear hz1
        refine z_ret X_strike_d65 rfl ?_
        refine ⟨congrArg (fun z => some (Value.int z)) ?_, hz⟩
        unfold opStrike
        rw [show (nI 0).toNatClampNeg = 0 from rfl]
        first
          | rw [if_neg (fun z => (show ¬ htim hd from zB_eq0.mp h16) z.2.1)]
          | rw [if_neg (fun z => (show ¬ (0 ≤ w ∧ w ≤ 2) from zB_eq0.mp h24) z.2.2)]
          | (rw [if_pos (And.intro (And.intro (by decide) (by decide)) (And.intro (show htim hd from zB_ne0.mp h16) (show 0 ≤ w ∧ w ≤ 2 from zB_ne0.mp h24)))]
             first
               | (unfold barW
                  rw [if_neg (show ¬ hHeld S 0 = 0 by rw [g2.1]; decide), if_pos g2, em, nI_clamp (by omega), str_eq hF ho.b6 ho.v12]
                  rfl)
               | (unfold barW
                  by_cases z : bE 13 μ
                  · rw [if_pos z]
                    rcases xs with y | y | y
                    · rw [if_pos y.1]
                    · exact absurd z y.2.1
                    · exact absurd z y.2.1
                  · rw [if_neg z]
                    rw [if_neg z] at h39
                    by_cases u : bR 13 μ ∧ μ.1 13 2 = 1
                    · rw [if_pos u] at h39; exact absurd rfl h39
                    · rw [if_neg u]
                      rcases xs with y | y | y
                      · exact absurd y.2.1 z
                      · rw [y.1, if_neg (by decide), if_neg (fun v => absurd v.1 (by decide))]
                      · rw [y.1, if_neg (by decide), if_neg (fun v => u ⟨y.2.2.1, y.2.2.2.1.trans v.2⟩)]))
      · refine zb X_strike_s42 rfl ?_
        refine z_ret X_strike_d65 rfl ?_
        refine ⟨congrArg (fun z => some (Value.int z)) ?_, hz⟩
        unfold opStrike
        rw [show (nI 0).toNatClampNeg = 0 from rfl]
        first
          | rw [if_neg (fun z => (show ¬ htim hd from zB_eq0.mp h16) z.2.1)]
          | rw [if_neg (fun z => (show ¬ (0 ≤ w ∧ w ≤ 2) from zB_eq0.mp h24) z.2.2)]
          | (rw [if_pos (And.intro (And.intro (by decide) (by decide)) (And.intro (show htim hd from zB_ne0.mp h16) (show 0 ≤ w ∧ w ≤ 2 from zB_ne0.mp h24)))]
             first
               | (unfold barW
                  rw [if_neg (show ¬ hHeld S 0 = 0 by rw [g2.1]; decide), if_pos g2, em, nI_clamp (by omega), str_eq hF ho.b6 ho.v12]
                  rfl)
               | (unfold barW
                  by_cases z : bE 13 μ
                  · rw [if_pos z]
                    rcases xs with y | y | y
                    · rw [if_pos y.1]
                    · exact absurd z y.2.1
                    · exact absurd z y.2.1
                  · rw [if_neg z]
                    rw [if_neg z] at h39
                    by_cases u : bR 13 μ ∧ μ.1 13 2 = 1
                    · rw [if_pos u] at h39; exact absurd rfl h39
                    · rw [if_neg u]
                      rcases xs with y | y | y
                      · exact absurd y.2.1 z
                      · rw [y.1, if_neg (by decide), if_neg (fun v => absurd v.1 (by decide))]
                      · rw [y.1, if_neg (by decide), if_neg (fun v => u ⟨y.2.2.1, y.2.2.2.1.trans v.2⟩)]))
    · refine zb X_strike_s27 rfl ?_
      refine z_ret X_strike_d28 rfl ?_
      refine ⟨congrArg (fun z => some (Value.int z)) ?_, hz⟩
      unfold opStrike
      rw [show (nI 0).toNatClampNeg = 0 from rfl]
      first
        | rw [if_neg (fun z => (show ¬ htim hd from zB_eq0.mp h16) z.2.1)]
        | rw [if_neg (fun z => (show ¬ (0 ≤ w ∧ w ≤ 2) from zB_eq0.mp h24) z.2.2)]
        | (rw [if_pos (And.intro (And.intro (by decide) (by decide)) (And.intro (show htim hd from zB_ne0.mp h16) (show 0 ≤ w ∧ w ≤ 2 from zB_ne0.mp h24)))]
           first
             | (unfold barW
                rw [if_neg (show ¬ hHeld S 0 = 0 by rw [g2.1]; decide), if_pos g2, em, nI_clamp (by omega), str_eq hF ho.b6 ho.v12]
                rfl)
             | (unfold barW
                by_cases z : bE 13 μ
                · rw [if_pos z]
                  rcases xs with y | y | y
                  · rw [if_pos y.1]
                  · exact absurd z y.2.1
                  · exact absurd z y.2.1
                · rw [if_neg z]
                  rw [if_neg z] at h39
                  by_cases u : bR 13 μ ∧ μ.1 13 2 = 1
                  · rw [if_pos u] at h39; exact absurd rfl h39
                  · rw [if_neg u]
                    rcases xs with y | y | y
                    · exact absurd y.2.1 z
                    · rw [y.1, if_neg (by decide), if_neg (fun v => absurd v.1 (by decide))]
                    · rw [y.1, if_neg (by decide), if_neg (fun v => u ⟨y.2.2.1, y.2.2.2.1.trans v.2⟩)]))

set_option maxRecDepth 100000 in
set_option maxHeartbeats 4000000 in
theorem w_judge_0 {g : zG} {d : Nat} {F : zF} {μ0 : zMem} {b D : Nat} {h : Int32} {n : Nat} {cc : Nat → Int32} (hn : n ≤ 60) (hsz : μ0.1 13 3 = nI n) (hce : ∀ t, t < 60 → (μ0.2.1 19 t).toInt32 = cc t) (hrow : ∀ i, i < 60 → (cc i).toInt64 = μ0.2.1 19 i) (hF : okF F) (hb : b < fB F) (hD : D ≤ 998) (hd : 6 ≤ d) : ∀ (j i : Nat) (μ : zMem), i + j = n → oX F μ → zq sX μ0 μ → (zfind (fun i => ¬ judP F b D h cc i) i j = judW F b D h cc n) → zW g L_firstNotSo d 3 [some (.ref 5), some (.ref 13), some (.int (nI b)), some (.int (nI D)), some (.int h), some (.int (nI i))] [] μ (fun r μ' => r = some (.int (judW F b D h cc n)) ∧ zq sX μ0 μ') := by
  intro j
  induction j with
  | zero =>
    intro i  μ hi ho hz hv0
    have h6 := ho.b6
    have hsz2 : μ.1 13 3 = nI n := by rw [hz.1 13 3 rfl]; exact hsz
    have hce2 : ∀ t, t < 60 → (μ.2.1 19 t).toInt32 = cc t := fun t ht => by rw [hz.2]; exact hce t ht
    have hi : n = i := by omega
    subst hi
    refine zb L_firstNotSo_s3 rfl ?_
    refine z_cge L_firstNotSo_d9 (tgt := 67) rfl (fun h9 => ?_) (fun h9 => absurd (show μ.1 13 3 ≤ nI n by rw [hsz2]; exact Int32.le_refl _) h9)
    refine zb L_firstNotSo_s67 rfl ?_
    refine z_ret L_firstNotSo_d69 rfl ?_
    exact ⟨by rw [← hv0]; rfl, hz⟩
  | succ j ih =>
    intro i  μ hi ho hz hv0
    have h6 := ho.b6
    have hsz2 : μ.1 13 3 = nI n := by rw [hz.1 13 3 rfl]; exact hsz
    have hce2 : ∀ t, t < 60 → (μ.2.1 19 t).toInt32 = cc t := fun t ht => by rw [hz.2]; exact hce t ht
    have hilt : i < n := by omega
    have ei : (nI i).toNatClampNeg = i := nI_clamp (by omega)
    have hi60 : i < 60 := by omega
    have hvi : vp_in (nI i) 60 := vp_in_nI (by omega) (by omega)
    have hvb : vp_in (nI b) 6 := vp_in_nI (by omega) (by omega)
    have eb : (nI b).toNatClampNeg = b := nI_clamp (by omega)
    have e54 := ho.e54
    have hcL : μ.2.1 19 i = (cc i).toInt64 := by rw [hz.2]; exact (hrow i hi60).symm
    simp only [zfind] at hv0
    refine zb L_firstNotSo_s3 rfl ?_
    refine z_cge L_firstNotSo_d9 (tgt := 67) rfl (fun h9 => absurd h9 (show ¬ μ.1 13 3 ≤ nI i by rw [hsz2]; exact nI_ge hilt (by omega))) (fun h9 => ?_)
    refine zb L_firstNotSo_s12 rfl ?_
    rw [nI_add]
    refine z_cgt L_firstNotSo_d19 (tgt := 58) rfl (fun h19 => ?_) (fun h19 => ?_)
    · refine zb L_firstNotSo_s58 rfl ?_
      refine z_ret L_firstNotSo_d60 rfl ?_
      have hj : ¬ judP F b D h cc i := fun z => by
        first
          | exact absurd h19 (Int32.not_lt.mpr (nI_le (b := 998) z.1 (by omega)))
          | exact h55 (lg_eq.mpr (congrArg Int32.toInt64 z.2))
      rw [if_pos hj] at hv0
      exact ⟨by rw [hv0], hz⟩
    · refine zb1 L_firstNotSo_s22 rfl (by first | exact hvi | exact hvb) ?_
      rw [nI_add, e54, eb]
      refine zcallV L_firstNotSo_d42 k5_60 (by omega) (x_offOf hF (by omega) ho) rfl rfl rfl (Nat.le_of_ble_eq_true rfl) ?_
      rintro _ μ1 ⟨rfl, hz1⟩
      replace hz := hz.tr hz1
      replace ho := ho.q hz1
      refine zb1 L_firstNotSo_s45 rfl (by first | exact hvi | exact hvb) ?_
      have hcL2 : μ1.2.1 19 (nI i).toNatClampNeg = (cc i).toInt64 := by rw [ei, hz1.2]; exact hcL
      rw [hcL2]
      refine z_eq L_firstNotSo_d55 (tgt := 61) rfl (fun h55 => ?_) (fun h55 => ?_)
      · refine zb L_firstNotSo_s61 rfl ?_
        rw [nI_1]
        have hj : judP F b D h cc i := ⟨(nI_leI (b := 998) (by omega) (by omega)).mp (Int32.not_lt.mp h19), i64_inj (lg_eq.mp h55)⟩
        rw [if_neg (fun z => z hj)] at hv0
        exact ih (i + 1) _ (by omega) ho hz hv0
      · refine zb L_firstNotSo_s58 rfl ?_
        refine z_ret L_firstNotSo_d60 rfl ?_
        have hj : ¬ judP F b D h cc i := fun z => by
          first
            | exact absurd h19 (Int32.not_lt.mpr (nI_le (b := 998) z.1 (by omega)))
            | exact h55 (lg_eq.mpr (congrArg Int32.toInt64 z.2))
        rw [if_pos hj] at hv0
        exact ⟨by rw [hv0], hz⟩

set_option maxRecDepth 100000 in
set_option maxHeartbeats 4000000 in
theorem x_judgeN_0 {g : zG} {d : Nat} {F : zF} {μ0 : zMem} {b D : Nat} {h : Int32} {n : Nat} {cc : Nat → Int32} (hn : n ≤ 60) (hsz : μ0.1 13 3 = nI n) (hce : ∀ t, t < 60 → (μ0.2.1 19 t).toInt32 = cc t) (hrow : ∀ i, i < 60 → (cc i).toInt64 = μ0.2.1 19 i) (hF : okF F) (hb : b < fB F) (hD : D ≤ 998) (hd : 6 ≤ d) (ho : oX F μ0) : zM g d L_firstNotSo [.ref 5, .ref 13, .int (nI b), .int (nI D), .int h] μ0 (fun r μ' => r = some (.int (judW F b D h cc n)) ∧ zq sX μ0 μ') := by
  refine zM_of (by decide +kernel) rfl rfl (Nat.le_of_ble_eq_true rfl) rfl ?_
  refine zb L_firstNotSo_s0 rfl ?_
  exact w_judge_0 hn hsz hce hrow hF hb hD hd n 0 μ0 (by omega) ho zq.rf rfl

set_option maxRecDepth 100000 in
set_option maxHeartbeats 4000000 in
theorem xs_judge_0 {g : zG} {d : Nat} {S : zS} {μ : zMem} {b dh : Int32} (hF : okF S.1) (hd9 : 8 ≤ d) (hS : xS S μ) (hok : okH S) : zM g d X_judge [.ref 1, .int (nI 0), .int b, .int dh] μ (fun r μ' => r = some (.int (opJudge S (nI 0) b dh)) ∧ zq sX μ μ') := by
  refine zM_of (by decide +kernel) rfl rfl (Nat.le_of_ble_eq_true rfl) rfl ?_
  obtain ⟨ho, h2, hT, hC, hD, hI, hA, hH⟩ := hS
  have hS : xS S μ := ⟨ho, h2, hT, hC, hD, hI, hA, hH⟩
  have hb := ho.b
  have hv := ho.v
  have hB6 := ho.b6
  have hV12 := ho.v12
  have hz : zq sX μ μ := zq.rf
  have xs := xsh (s := 0) hS hok (by omega)
  have hF9 := hF
  refine zb X_judge_s0 rfl ?_
  refine zcallV X_judge_d2 k10_93 (by omega) (x_shelf_0 (by omega)) rfl rfl rfl (Nat.le_of_ble_eq_true rfl) ?_
  rintro _ μx ⟨rfl, hx⟩
  rw [hx]
  clear hx μx
  refine zb X_judge_s5 rfl ?_
  refine z_null X_judge_d9 ?_
  refine zb X_judge_s12 rfl ?_
  refine zcallV X_judge_d17 k10_167 (by omega) (x_hasBell _ ho) rfl rfl rfl (Nat.le_of_ble_eq_true rfl) ?_
  rintro _ μx ⟨rfl, hx⟩
  rw [hx]
  clear hx μx
  refine z_eq X_judge_d20 (tgt := 30) rfl (fun h20 => ?_) (fun h20 => ?_)
  · refine zb X_judge_s30 rfl ?_
    refine z_ret X_judge_d31 rfl ?_
    refine ⟨congrArg (fun z => some (Value.int z)) ?_, hz⟩
    unfold opJudge
    rw [show (nI 0).toNatClampNeg = 0 from rfl]
    first
      | rw [if_neg (fun z => (show ¬ isB S.1 b from zB_eq0.mp h20) z.2.1)]
      | rw [if_neg (fun z => (show ¬ tim dh from zB_eq0.mp h27) z.2.2)]
      | (rw [if_pos (And.intro (And.intro (by decide) (by decide)) (And.intro q1 q2))]
         unfold barW
         rw [if_neg (show ¬ hHeld S 0 = 0 by rw [g2.1]; decide), if_pos g2, em, nI_clamp (show m < 2 ^ 31 by omega), eb, eD, nI_clamp (show D < 2 ^ 31 by omega)])
      | (rw [if_pos (And.intro (And.intro (by decide) (by decide)) (And.intro (show isB S.1 b from zB_ne0.mp h20) (show tim dh from zB_ne0.mp h27)))]
         unfold barW
         by_cases z : bE 13 μ
         · rw [if_pos z]
           rcases xs with y | y | y
           · rw [if_pos y.1]
           · exact absurd z y.2.1
           · exact absurd z y.2.1
         · rw [if_neg z]
           rw [if_neg z] at h42
           by_cases u : bR 13 μ ∧ μ.1 13 2 = 1
           · rw [if_pos u] at h42; exact absurd rfl h42
           · rw [if_neg u]
             rcases xs with y | y | y
             · exact absurd y.2.1 z
             · rw [y.1, if_neg (by decide), if_neg (fun v => absurd v.1 (by decide))]
             · rw [y.1, if_neg (by decide), if_neg (fun v => u ⟨y.2.2.1, y.2.2.2.1.trans v.2⟩)])
  · refine zb X_judge_s23 rfl ?_
    refine zcallS X_judge_d24 k10_160 (by omega) (x_isDayHour _) rfl rfl (Nat.le_of_ble_eq_true rfl) ?_
    rintro _ μx ⟨rfl, hx⟩
    rw [hx]
    clear hx μx
    refine z_ne X_judge_d27 (tgt := 32) rfl (fun h27 => ?_) (fun h27 => ?_)
    · refine zb X_judge_s32 rfl ?_
      refine zcallV X_judge_d35 k10_247 (by omega) (x_refFor_0 (by omega)) rfl rfl rfl (Nat.le_of_ble_eq_true rfl) ?_
      rintro _ μx ⟨rfl, hx⟩
      rw [hx]
      clear hx μx
      refine zb X_judge_s38 rfl ?_
      refine z_eq X_judge_d42 (tgt := 50) rfl (fun h42 => ?_) (fun h42 => ?_)
      · have g1 : ¬ bE 13 μ ∧ bR 13 μ ∧ μ.1 13 2 = 1 := by
          by_cases z : bE 13 μ
          · rw [if_pos z] at h42; exact absurd h42 (by decide)
          · rw [if_neg z] at h42
            by_cases y : bR 13 μ ∧ μ.1 13 2 = 1
            · exact ⟨z, y⟩
            · rw [if_neg y] at h42; exact absurd h42 (by decide)
        have g2 : hHeld S 0 = 2 ∧ hSort S 0 = 1 := by
          rcases xs with z | z | z
          · exact absurd z.2.1 g1.1
          · exact absurd g1.2.1 z.2.2.1
          · exact And.intro z.1 (z.2.2.2.1.symm.trans g1.2.2)
        obtain ⟨m, hm, em, hrow⟩ : ∃ m, m ≤ 60 ∧ hSize S 0 = nI m ∧ (∀ i, i < 60 → (hInt S 0 i).toInt64 = hCell S 0 i) := by
          rcases hok 0 (by omega) with z | z | z
          · rw [g2.1] at z; exact absurd z (by decide)
          · rw [g2.1] at z; exact absurd z.1 (by decide)
          · obtain ⟨m, h1, h2⟩ := z.2.2.1
            exact ⟨m, h1, h2, z.2.2.2 g2.2⟩
        have hszS : μ.1 13 3 = nI m := (xS_hz (s := 0) hS (by omega) g2.1).trans em
        have hceS : ∀ t, t < 60 → (μ.2.1 19 t).toInt32 = hInt S 0 t := xS_hc (s := 0) hS (by omega)
        have q1 : isB S.1 b := zB_ne0.mp h20
        have q2 : tim dh := zB_ne0.mp h27
        obtain ⟨b, hbB, rfl, eb⟩ := zix q1.1 q1.2 (by omega)
        obtain ⟨D, hD, eD⟩ := nI_of2 (M := 998) (n := 998) rfl (Int32.not_lt.mpr (tim_nn q2)) q2.2.1
        have hrow2 : ∀ i, i < 60 → (hInt S 0 i).toInt64 = μ.2.1 19 i := fun i hi => (hrow i hi).trans ((hS.2.2.2.2.2.2.2 0 (by omega)).2 i hi).symm
        refine zb2 X_judge_s50 rfl (by decide) (by decide) ?_
        rw [show dh - dh / 100 * 100 = hro dh from rfl, eD]
        refine zcallV X_judge_d65 k10_254 (by omega) (x_judgeN_0 (h := hro dh) hm hszS hceS hrow2 hF hbB hD (by omega) ho) rfl rfl rfl (Nat.le_of_ble_eq_true rfl) ?_
        rintro _ μ1 ⟨rfl, hz1⟩
        replace hz := hz.tr hz1
        replace ho := ho.q hz1
        clear hz1
        refine z_ret X_judge_d68 rfl ?_
        refine ⟨congrArg (fun z => some (Value.int z)) ?_, hz⟩
        unfold opJudge
        rw [show (nI 0).toNatClampNeg = 0 from rfl]
        first
          | rw [if_neg (fun z => (show ¬ isB S.1 b from zB_eq0.mp h20) z.2.1)]
          | rw [if_neg (fun z => (show ¬ tim dh from zB_eq0.mp h27) z.2.2)]
          | (rw [if_pos (And.intro (And.intro (by decide) (by decide)) (And.intro q1 q2))]
             unfold barW
             rw [if_neg (show ¬ hHeld S 0 = 0 by rw [g2.1]; decide), if_pos g2, em, nI_clamp (show m < 2 ^ 31 by omega), eb, eD, nI_clamp (show D < 2 ^ 31 by omega)])
          | (rw [if_pos (And.intro (And.intro (by decide) (by decide)) (And.intro (show isB S.1 b from zB_ne0.mp h20) (show tim dh from zB_ne0.mp h27)))]
             unfold barW
             by_cases z : bE 13 μ
             · rw [if_pos z]
               rcases xs with y | y | y
               · rw [if_pos y.1]
               · exact absurd z y.2.1
               · exact absurd z y.2.1
             · rw [if_neg z]
               rw [if_neg z] at h42
               by_cases u : bR 13 μ ∧ μ.1 13 2 = 1
               · rw [if_pos u] at h42; exact absurd rfl h42
               · rw [if_neg u]
                 rcases xs with y | y | y
                 · exact absurd y.2.1 z
                 · rw [y.1, if_neg (by decide), if_neg (fun v => absurd v.1 (by decide))]
                 · rw [y.1, if_neg (by decide), if_neg (fun v => u ⟨y.2.2.1, y.2.2.2.1.trans v.2⟩)])
      · refine zb X_judge_s45 rfl ?_
        refine z_ret X_judge_d68 rfl ?_
        refine ⟨congrArg (fun z => some (Value.int z)) ?_, hz⟩
        unfold opJudge
        rw [show (nI 0).toNatClampNeg = 0 from rfl]
        first
          | rw [if_neg (fun z => (show ¬ isB S.1 b from zB_eq0.mp h20) z.2.1)]
          | rw [if_neg (fun z => (show ¬ tim dh from zB_eq0.mp h27) z.2.2)]
          | (rw [if_pos (And.intro (And.intro (by decide) (by decide)) (And.intro q1 q2))]
             unfold barW
             rw [if_neg (show ¬ hHeld S 0 = 0 by rw [g2.1]; decide), if_pos g2, em, nI_clamp (show m < 2 ^ 31 by omega), eb, eD, nI_clamp (show D < 2 ^ 31 by omega)])
          | (rw [if_pos (And.intro (And.intro (by decide) (by decide)) (And.intro (show isB S.1 b from zB_ne0.mp h20) (show tim dh from zB_ne0.mp h27)))]
             unfold barW
             by_cases z : bE 13 μ
             · rw [if_pos z]
               rcases xs with y | y | y
               · rw [if_pos y.1]
               · exact absurd z y.2.1
               · exact absurd z y.2.1
             · rw [if_neg z]
               rw [if_neg z] at h42
               by_cases u : bR 13 μ ∧ μ.1 13 2 = 1
               · rw [if_pos u] at h42; exact absurd rfl h42
               · rw [if_neg u]
                 rcases xs with y | y | y
                 · exact absurd y.2.1 z
                 · rw [y.1, if_neg (by decide), if_neg (fun v => absurd v.1 (by decide))]
                 · rw [y.1, if_neg (by decide), if_neg (fun v => u ⟨y.2.2.1, y.2.2.2.1.trans v.2⟩)])
    · refine zb X_judge_s30 rfl ?_
      refine z_ret X_judge_d31 rfl ?_
      refine ⟨congrArg (fun z => some (Value.int z)) ?_, hz⟩
      unfold opJudge
      rw [show (nI 0).toNatClampNeg = 0 from rfl]
      first
        | rw [if_neg (fun z => (show ¬ isB S.1 b from zB_eq0.mp h20) z.2.1)]
        | rw [if_neg (fun z => (show ¬ tim dh from zB_eq0.mp h27) z.2.2)]
        | (rw [if_pos (And.intro (And.intro (by decide) (by decide)) (And.intro q1 q2))]
           unfold barW
           rw [if_neg (show ¬ hHeld S 0 = 0 by rw [g2.1]; decide), if_pos g2, em, nI_clamp (show m < 2 ^ 31 by omega), eb, eD, nI_clamp (show D < 2 ^ 31 by omega)])
        | (rw [if_pos (And.intro (And.intro (by decide) (by decide)) (And.intro (show isB S.1 b from zB_ne0.mp h20) (show tim dh from zB_ne0.mp h27)))]
           unfold barW
           by_cases z : bE 13 μ
           · rw [if_pos z]
             rcases xs with y | y | y
             · rw [if_pos y.1]
             · exact absurd z y.2.1
             · exact absurd z y.2.1
           · rw [if_neg z]
             rw [if_neg z] at h42
             by_cases u : bR 13 μ ∧ μ.1 13 2 = 1
             · rw [if_pos u] at h42; exact absurd rfl h42
             · rw [if_neg u]
               rcases xs with y | y | y
               · exact absurd y.2.1 z
               · rw [y.1, if_neg (by decide), if_neg (fun v => absurd v.1 (by decide))]
               · rw [y.1, if_neg (by decide), if_neg (fun v => u ⟨y.2.2.1, y.2.2.2.1.trans v.2⟩)])

set_option maxRecDepth 100000 in
set_option maxHeartbeats 4000000 in
theorem x_refFor_1 {g : zG} {d : Nat} {μ : zMem} {p : Int32} (hd : 2 ≤ d) : zM g d S_refusalFor [.ref 14, .int p] μ (fun r μ' => r = some (.int (if bE 14 μ then -11 else if bR 14 μ ∧ μ.1 14 2 = p then 0 else -12)) ∧ μ' = μ) := by
  refine zM_of (by decide +kernel) rfl rfl (Nat.le_of_ble_eq_true rfl) rfl ?_
  refine zb S_refusalFor_s0 rfl ?_
  refine zcallV S_refusalFor_d1 k8_29 (by omega) (x_isEmpty_1) rfl rfl rfl (Nat.le_of_ble_eq_true rfl) ?_
  rintro _ μx ⟨rfl, hx⟩
  rw [hx]
  clear hx μx
  refine z_eq S_refusalFor_d4 (tgt := 10) rfl (fun h4 => ?_) (fun h4 => ?_)
  · refine zb S_refusalFor_s10 rfl ?_
    refine zcallV S_refusalFor_d12 k8_32 (by omega) (x_isRowOf_1 _ (by omega)) rfl rfl rfl (Nat.le_of_ble_eq_true rfl) ?_
    rintro _ μx ⟨rfl, hx⟩
    rw [hx]
    clear hx μx
    refine z_eq S_refusalFor_d15 (tgt := 22) rfl (fun h15 => ?_) (fun h15 => ?_)
    · refine zb S_refusalFor_s22 rfl ?_
      refine z_ret S_refusalFor_d24 rfl ?_
      refine ⟨?_, rfl⟩
      first
        | (rw [if_pos (show bE 14 μ from zB_ne0.mp h4)]; done)
        | (rw [if_neg (show ¬ bE 14 μ from zB_eq0.mp h4), if_pos (show bR 14 μ ∧ μ.1 14 2 = p from zB_ne0.mp h15)]; done)
        | (rw [if_neg (show ¬ bE 14 μ from zB_eq0.mp h4), if_neg (show ¬ (bR 14 μ ∧ μ.1 14 2 = p) from zB_eq0.mp h15)]; done)
    · refine zb S_refusalFor_s18 rfl ?_
      refine z_ret S_refusalFor_d24 rfl ?_
      refine ⟨?_, rfl⟩
      first
        | (rw [if_pos (show bE 14 μ from zB_ne0.mp h4)]; done)
        | (rw [if_neg (show ¬ bE 14 μ from zB_eq0.mp h4), if_pos (show bR 14 μ ∧ μ.1 14 2 = p from zB_ne0.mp h15)]; done)
        | (rw [if_neg (show ¬ bE 14 μ from zB_eq0.mp h4), if_neg (show ¬ (bR 14 μ ∧ μ.1 14 2 = p) from zB_eq0.mp h15)]; done)
  · refine zb S_refusalFor_s7 rfl ?_
    refine z_ret S_refusalFor_d9 rfl ?_
    refine ⟨?_, rfl⟩
    first
      | (rw [if_pos (show bE 14 μ from zB_ne0.mp h4)]; done)
      | (rw [if_neg (show ¬ bE 14 μ from zB_eq0.mp h4), if_pos (show bR 14 μ ∧ μ.1 14 2 = p from zB_ne0.mp h15)]; done)
      | (rw [if_neg (show ¬ bE 14 μ from zB_eq0.mp h4), if_neg (show ¬ (bR 14 μ ∧ μ.1 14 2 = p) from zB_eq0.mp h15)]; done)

set_option maxRecDepth 100000 in
set_option maxHeartbeats 4000000 in
theorem w_strike_1 {g : zG} {d : Nat} {F : zF} {μ0 : zMem} {dd h w : Int32} {n : Nat} {cc : Nat → Int32} (hn : n ≤ 60) (hsz : μ0.1 14 3 = nI n) (hce : ∀ t, t < 60 → (μ0.2.1 20 t).toInt32 = cc t) (hF : okF F) (hdd : 0 ≤ dd) (hd : 7 ≤ d) : ∀ (j i : Nat) (all : Int32) (bell : Int32) (most : Int32) (x9 : Option Value) (μ : zMem), i + j = fB F → oX F μ → zq sX μ0 μ → (all = strA F dd h n cc i) → ((bell, most) = strM F dd h n cc i) → zW g L_nextToStrike d 14 [some (.ref 5), some (.ref 14), some (.int h), some (.int dd), some (.int w), some (.int all), some (.int bell), some (.int most), some (.int (nI i)), x9] [] μ (fun r μ' => r = some (.int (strC F dd h n cc w)) ∧ zq sX μ0 μ') := by
  intro j
  induction j with
  | zero =>
    intro i all bell most x9 μ hi ho hz hv0 hv1
    have hbd := ho.b
    have h12 := ho.v12
    have h6 := ho.b6
    have hsz2 : μ.1 14 3 = nI n := by rw [hz.1 14 3 rfl]; exact hsz
    have hce2 : ∀ t, t < 60 → (μ.2.1 20 t).toInt32 = cc t := fun t ht => by rw [hz.2]; exact hce t ht
    have hi : fB F = i := by omega
    subst hi
    refine zb L_nextToStrike_s14 rfl ?_
    refine z_cge L_nextToStrike_d23 (tgt := 104) rfl (fun h23 => ?_) (fun h23 => absurd (show μ.1 2 7 ≤ nI (fB F) by first | exact Int32.le_refl _ | (rw [hbd]; exact Int32.le_refl _)) h23)
    refine zb L_nextToStrike_s104 rfl ?_
    refine z_ne L_nextToStrike_d106 (tgt := 112) rfl (fun h106 => ?_) (fun h106 => ?_)
    · refine zb L_nextToStrike_s112 rfl ?_
      refine z_ne L_nextToStrike_d114 (tgt := 120) rfl (fun h114 => ?_) (fun h114 => ?_)
      · refine zb L_nextToStrike_s120 rfl ?_
        refine z_cne L_nextToStrike_d123 (tgt := 131) rfl (fun h123 => ?_) (fun h123 => ?_)
        · refine zb L_nextToStrike_s131 rfl ?_
          refine z_ret L_nextToStrike_d133 rfl ?_
          refine ⟨congrArg (fun z => some (Value.int z)) ?_, hz⟩
          unfold strC
          rw [hv0] at *
          first
            | (rw [if_pos h106]; done)
            | (rw [if_neg h106, if_pos h114]; done)
            | (rw [if_neg h106, if_neg h114, if_pos h123, ← hv1]; done)
            | (rw [if_neg h106, if_neg h114, if_neg h123, ← hv1]; done)
        · refine zb L_nextToStrike_s126 rfl ?_
          refine z_ret L_nextToStrike_d133 rfl ?_
          refine ⟨congrArg (fun z => some (Value.int z)) ?_, hz⟩
          unfold strC
          rw [hv0] at *
          first
            | (rw [if_pos h106]; done)
            | (rw [if_neg h106, if_pos h114]; done)
            | (rw [if_neg h106, if_neg h114, if_pos h123, ← hv1]; done)
            | (rw [if_neg h106, if_neg h114, if_neg h123, ← hv1]; done)
      · refine zb L_nextToStrike_s117 rfl ?_
        refine z_ret L_nextToStrike_d119 rfl ?_
        refine ⟨congrArg (fun z => some (Value.int z)) ?_, hz⟩
        unfold strC
        rw [hv0] at *
        first
          | (rw [if_pos h106]; done)
          | (rw [if_neg h106, if_pos h114]; done)
          | (rw [if_neg h106, if_neg h114, if_pos h123, ← hv1]; done)
          | (rw [if_neg h106, if_neg h114, if_neg h123, ← hv1]; done)
    · refine zb L_nextToStrike_s109 rfl ?_
      refine z_ret L_nextToStrike_d111 rfl ?_
      refine ⟨congrArg (fun z => some (Value.int z)) ?_, hz⟩
      unfold strC
      rw [hv0] at *
      first
        | (rw [if_pos h106]; done)
        | (rw [if_neg h106, if_pos h114]; done)
        | (rw [if_neg h106, if_neg h114, if_pos h123, ← hv1]; done)
        | (rw [if_neg h106, if_neg h114, if_neg h123, ← hv1]; done)
  | succ j ih =>
    intro i all bell most x9 μ hi ho hz hv0 hv1
    have hbd := ho.b
    have h12 := ho.v12
    have h6 := ho.b6
    have hsz2 : μ.1 14 3 = nI n := by rw [hz.1 14 3 rfl]; exact hsz
    have hce2 : ∀ t, t < 60 → (μ.2.1 20 t).toInt32 = cc t := fun t ht => by rw [hz.2]; exact hce t ht
    have hilt : i < fB F := by omega
    have ei : (nI i).toNatClampNeg = i := nI_clamp (by omega)
    have hi60 : i < 60 := by omega
    have hvi : vp_in (nI i) 60 := vp_in_nI (by omega) (by omega)
    have hci := hce2 i hi60
    refine zb L_nextToStrike_s14 rfl ?_
    refine z_cge L_nextToStrike_d23 (tgt := 104) rfl (fun h23 => absurd h23 (show ¬ μ.1 2 7 ≤ nI i by first | exact nI_ge hilt (by omega) | (rw [hbd]; exact nI_ge hilt (by omega)))) (fun h23 => ?_)
    refine zb L_nextToStrike_s26 rfl ?_
    refine z_cge L_nextToStrike_d32 (tgt := 46) rfl (fun h32 => ?_) (fun h32 => ?_)
    · refine zb L_nextToStrike_s46 rfl ?_
      refine z_ceq L_nextToStrike_d57 (tgt := 64) rfl (fun h57 => ?_) (fun h57 => ?_)
      · refine zb L_nextToStrike_s64 rfl ?_
        refine zcallV L_nextToStrike_d67 k5_114 (by omega) (x_hear (b := i) hF hdd (by omega) hilt ho) rfl rfl rfl (Nat.le_of_ble_eq_true rfl) ?_
        rintro _ μ1 ⟨rfl, hz1, l0, hr⟩
        replace hz := hz.tr hz1
        replace ho := ho.q hz1
        refine zb L_nextToStrike_s70 rfl ?_
        refine z_cle L_nextToStrike_d85 (tgt := 98) rfl (fun h85 => ?_) (fun h85 => ?_)
        · refine zb L_nextToStrike_s98 rfl ?_
          rw [nI_1]
          rw [hsz2] at h32
          have hlc : lyC F dd h n cc i = (μ1.1 5 6, μ1.1 5 7) := by
            first
              | (have hlt : i < n := (nI_ltI (by omega) (by omega)).mp (Int32.not_le.mp h32)
                 have k := tp_in (c := cc) hlt
                 rw [ei, hci] at h57 hr
                 first
                   | exact lyC_is (k.2.1 h57) k.1 hr.1 hr.2.1
                   | exact lyC_is (k.2.2 h57) k.1 hr.1 hr.2.1)
              | (have hge : ¬ i < n := fun z => absurd h32 (nI_ge z (by omega))
                 have k := tp_out (c := cc) hge
                 exact lyC_is k.2 k.1 hr.1 hr.2.1)
              | exact absurd rfl h57
          have hsA : strA F dd h n cc (i + 1) = all * μ1.1 5 6 := by
            unfold strA at hv0 ⊢
            rw [zf0, ← hv0, hlc]
          have hsM : strM F dd h n cc (i + 1) = if most < μ1.1 5 7 then (nI i, μ1.1 5 7) else (bell, most) := by
            unfold strM at hv1 ⊢
            rw [zf0, ← hv1, hlc]
          first
            | exact ih (i + 1) _ _ _ _ _ (by omega) ho hz hsA.symm (by rw [hsM, if_pos (Int32.not_le.mp h85)])
            | exact ih (i + 1) _ _ _ _ _ (by omega) ho hz hsA.symm (by rw [hsM, if_neg (Int32.not_lt.mpr h85)])
        · refine zb L_nextToStrike_s88 rfl ?_
          rw [nI_1]
          rw [hsz2] at h32
          have hlc : lyC F dd h n cc i = (μ1.1 5 6, μ1.1 5 7) := by
            first
              | (have hlt : i < n := (nI_ltI (by omega) (by omega)).mp (Int32.not_le.mp h32)
                 have k := tp_in (c := cc) hlt
                 rw [ei, hci] at h57 hr
                 first
                   | exact lyC_is (k.2.1 h57) k.1 hr.1 hr.2.1
                   | exact lyC_is (k.2.2 h57) k.1 hr.1 hr.2.1)
              | (have hge : ¬ i < n := fun z => absurd h32 (nI_ge z (by omega))
                 have k := tp_out (c := cc) hge
                 exact lyC_is k.2 k.1 hr.1 hr.2.1)
              | exact absurd rfl h57
          have hsA : strA F dd h n cc (i + 1) = all * μ1.1 5 6 := by
            unfold strA at hv0 ⊢
            rw [zf0, ← hv0, hlc]
          have hsM : strM F dd h n cc (i + 1) = if most < μ1.1 5 7 then (nI i, μ1.1 5 7) else (bell, most) := by
            unfold strM at hv1 ⊢
            rw [zf0, ← hv1, hlc]
          first
            | exact ih (i + 1) _ _ _ _ _ (by omega) ho hz hsA.symm (by rw [hsM, if_pos (Int32.not_le.mp h85)])
            | exact ih (i + 1) _ _ _ _ _ (by omega) ho hz hsA.symm (by rw [hsM, if_neg (Int32.not_lt.mpr h85)])
      · refine zb L_nextToStrike_s60 rfl ?_
        refine zcallV L_nextToStrike_d67 k5_114 (by omega) (x_hear (b := i) hF hdd (by omega) hilt ho) rfl rfl rfl (Nat.le_of_ble_eq_true rfl) ?_
        rintro _ μ1 ⟨rfl, hz1, l0, hr⟩
        replace hz := hz.tr hz1
        replace ho := ho.q hz1
        refine zb L_nextToStrike_s70 rfl ?_
        refine z_cle L_nextToStrike_d85 (tgt := 98) rfl (fun h85 => ?_) (fun h85 => ?_)
        · refine zb L_nextToStrike_s98 rfl ?_
          rw [nI_1]
          rw [hsz2] at h32
          have hlc : lyC F dd h n cc i = (μ1.1 5 6, μ1.1 5 7) := by
            first
              | (have hlt : i < n := (nI_ltI (by omega) (by omega)).mp (Int32.not_le.mp h32)
                 have k := tp_in (c := cc) hlt
                 rw [ei, hci] at h57 hr
                 first
                   | exact lyC_is (k.2.1 h57) k.1 hr.1 hr.2.1
                   | exact lyC_is (k.2.2 h57) k.1 hr.1 hr.2.1)
              | (have hge : ¬ i < n := fun z => absurd h32 (nI_ge z (by omega))
                 have k := tp_out (c := cc) hge
                 exact lyC_is k.2 k.1 hr.1 hr.2.1)
              | exact absurd rfl h57
          have hsA : strA F dd h n cc (i + 1) = all * μ1.1 5 6 := by
            unfold strA at hv0 ⊢
            rw [zf0, ← hv0, hlc]
          have hsM : strM F dd h n cc (i + 1) = if most < μ1.1 5 7 then (nI i, μ1.1 5 7) else (bell, most) := by
            unfold strM at hv1 ⊢
            rw [zf0, ← hv1, hlc]
          first
            | exact ih (i + 1) _ _ _ _ _ (by omega) ho hz hsA.symm (by rw [hsM, if_pos (Int32.not_le.mp h85)])
            | exact ih (i + 1) _ _ _ _ _ (by omega) ho hz hsA.symm (by rw [hsM, if_neg (Int32.not_lt.mpr h85)])
        · refine zb L_nextToStrike_s88 rfl ?_
          rw [nI_1]
          rw [hsz2] at h32
          have hlc : lyC F dd h n cc i = (μ1.1 5 6, μ1.1 5 7) := by
            first
              | (have hlt : i < n := (nI_ltI (by omega) (by omega)).mp (Int32.not_le.mp h32)
                 have k := tp_in (c := cc) hlt
                 rw [ei, hci] at h57 hr
                 first
                   | exact lyC_is (k.2.1 h57) k.1 hr.1 hr.2.1
                   | exact lyC_is (k.2.2 h57) k.1 hr.1 hr.2.1)
              | (have hge : ¬ i < n := fun z => absurd h32 (nI_ge z (by omega))
                 have k := tp_out (c := cc) hge
                 exact lyC_is k.2 k.1 hr.1 hr.2.1)
              | exact absurd rfl h57
          have hsA : strA F dd h n cc (i + 1) = all * μ1.1 5 6 := by
            unfold strA at hv0 ⊢
            rw [zf0, ← hv0, hlc]
          have hsM : strM F dd h n cc (i + 1) = if most < μ1.1 5 7 then (nI i, μ1.1 5 7) else (bell, most) := by
            unfold strM at hv1 ⊢
            rw [zf0, ← hv1, hlc]
          first
            | exact ih (i + 1) _ _ _ _ _ (by omega) ho hz hsA.symm (by rw [hsM, if_pos (Int32.not_le.mp h85)])
            | exact ih (i + 1) _ _ _ _ _ (by omega) ho hz hsA.symm (by rw [hsM, if_neg (Int32.not_lt.mpr h85)])
    · refine zb1 L_nextToStrike_s35 rfl (by first | exact hvi | (rw [ei]; exact hvi)) ?_
      refine z_ceq L_nextToStrike_d57 (tgt := 64) rfl (fun h57 => ?_) (fun h57 => ?_)
      · refine zb L_nextToStrike_s64 rfl ?_
        refine zcallV L_nextToStrike_d67 k5_114 (by omega) (x_hear (b := i) hF hdd (by omega) hilt ho) rfl rfl rfl (Nat.le_of_ble_eq_true rfl) ?_
        rintro _ μ1 ⟨rfl, hz1, l0, hr⟩
        replace hz := hz.tr hz1
        replace ho := ho.q hz1
        refine zb L_nextToStrike_s70 rfl ?_
        refine z_cle L_nextToStrike_d85 (tgt := 98) rfl (fun h85 => ?_) (fun h85 => ?_)
        · refine zb L_nextToStrike_s98 rfl ?_
          rw [nI_1]
          rw [hsz2] at h32
          have hlc : lyC F dd h n cc i = (μ1.1 5 6, μ1.1 5 7) := by
            first
              | (have hlt : i < n := (nI_ltI (by omega) (by omega)).mp (Int32.not_le.mp h32)
                 have k := tp_in (c := cc) hlt
                 rw [ei, hci] at h57 hr
                 first
                   | exact lyC_is (k.2.1 h57) k.1 hr.1 hr.2.1
                   | exact lyC_is (k.2.2 h57) k.1 hr.1 hr.2.1)
              | (have hge : ¬ i < n := fun z => absurd h32 (nI_ge z (by omega))
                 have k := tp_out (c := cc) hge
                 exact lyC_is k.2 k.1 hr.1 hr.2.1)
              | exact absurd rfl h57
          have hsA : strA F dd h n cc (i + 1) = all * μ1.1 5 6 := by
            unfold strA at hv0 ⊢
            rw [zf0, ← hv0, hlc]
          have hsM : strM F dd h n cc (i + 1) = if most < μ1.1 5 7 then (nI i, μ1.1 5 7) else (bell, most) := by
            unfold strM at hv1 ⊢
            rw [zf0, ← hv1, hlc]
          first
            | exact ih (i + 1) _ _ _ _ _ (by omega) ho hz hsA.symm (by rw [hsM, if_pos (Int32.not_le.mp h85)])
            | exact ih (i + 1) _ _ _ _ _ (by omega) ho hz hsA.symm (by rw [hsM, if_neg (Int32.not_lt.mpr h85)])
        · refine zb L_nextToStrike_s88 rfl ?_
          rw [nI_1]
          rw [hsz2] at h32
          have hlc : lyC F dd h n cc i = (μ1.1 5 6, μ1.1 5 7) := by
            first
              | (have hlt : i < n := (nI_ltI (by omega) (by omega)).mp (Int32.not_le.mp h32)
                 have k := tp_in (c := cc) hlt
                 rw [ei, hci] at h57 hr
                 first
                   | exact lyC_is (k.2.1 h57) k.1 hr.1 hr.2.1
                   | exact lyC_is (k.2.2 h57) k.1 hr.1 hr.2.1)
              | (have hge : ¬ i < n := fun z => absurd h32 (nI_ge z (by omega))
                 have k := tp_out (c := cc) hge
                 exact lyC_is k.2 k.1 hr.1 hr.2.1)
              | exact absurd rfl h57
          have hsA : strA F dd h n cc (i + 1) = all * μ1.1 5 6 := by
            unfold strA at hv0 ⊢
            rw [zf0, ← hv0, hlc]
          have hsM : strM F dd h n cc (i + 1) = if most < μ1.1 5 7 then (nI i, μ1.1 5 7) else (bell, most) := by
            unfold strM at hv1 ⊢
            rw [zf0, ← hv1, hlc]
          first
            | exact ih (i + 1) _ _ _ _ _ (by omega) ho hz hsA.symm (by rw [hsM, if_pos (Int32.not_le.mp h85)])
            | exact ih (i + 1) _ _ _ _ _ (by omega) ho hz hsA.symm (by rw [hsM, if_neg (Int32.not_lt.mpr h85)])
      · refine zb L_nextToStrike_s60 rfl ?_
        refine zcallV L_nextToStrike_d67 k5_114 (by omega) (x_hear (b := i) hF hdd (by omega) hilt ho) rfl rfl rfl (Nat.le_of_ble_eq_true rfl) ?_
        rintro _ μ1 ⟨rfl, hz1, l0, hr⟩
        replace hz := hz.tr hz1
        replace ho := ho.q hz1
        refine zb L_nextToStrike_s70 rfl ?_
        refine z_cle L_nextToStrike_d85 (tgt := 98) rfl (fun h85 => ?_) (fun h85 => ?_)
        · refine zb L_nextToStrike_s98 rfl ?_
          rw [nI_1]
          rw [hsz2] at h32
          have hlc : lyC F dd h n cc i = (μ1.1 5 6, μ1.1 5 7) := by
            first
              | (have hlt : i < n := (nI_ltI (by omega) (by omega)).mp (Int32.not_le.mp h32)
                 have k := tp_in (c := cc) hlt
                 rw [ei, hci] at h57 hr
                 first
                   | exact lyC_is (k.2.1 h57) k.1 hr.1 hr.2.1
                   | exact lyC_is (k.2.2 h57) k.1 hr.1 hr.2.1)
              | (have hge : ¬ i < n := fun z => absurd h32 (nI_ge z (by omega))
                 have k := tp_out (c := cc) hge
                 exact lyC_is k.2 k.1 hr.1 hr.2.1)
              | exact absurd rfl h57
          have hsA : strA F dd h n cc (i + 1) = all * μ1.1 5 6 := by
            unfold strA at hv0 ⊢
            rw [zf0, ← hv0, hlc]
          have hsM : strM F dd h n cc (i + 1) = if most < μ1.1 5 7 then (nI i, μ1.1 5 7) else (bell, most) := by
            unfold strM at hv1 ⊢
            rw [zf0, ← hv1, hlc]
          first
            | exact ih (i + 1) _ _ _ _ _ (by omega) ho hz hsA.symm (by rw [hsM, if_pos (Int32.not_le.mp h85)])
            | exact ih (i + 1) _ _ _ _ _ (by omega) ho hz hsA.symm (by rw [hsM, if_neg (Int32.not_lt.mpr h85)])
        · refine zb L_nextToStrike_s88 rfl ?_
          rw [nI_1]
          rw [hsz2] at h32
          have hlc : lyC F dd h n cc i = (μ1.1 5 6, μ1.1 5 7) := by
            first
              | (have hlt : i < n := (nI_ltI (by omega) (by omega)).mp (Int32.not_le.mp h32)
                 have k := tp_in (c := cc) hlt
                 rw [ei, hci] at h57 hr
                 first
                   | exact lyC_is (k.2.1 h57) k.1 hr.1 hr.2.1
                   | exact lyC_is (k.2.2 h57) k.1 hr.1 hr.2.1)
              | (have hge : ¬ i < n := fun z => absurd h32 (nI_ge z (by omega))
                 have k := tp_out (c := cc) hge
                 exact lyC_is k.2 k.1 hr.1 hr.2.1)
              | exact absurd rfl h57
          have hsA : strA F dd h n cc (i + 1) = all * μ1.1 5 6 := by
            unfold strA at hv0 ⊢
            rw [zf0, ← hv0, hlc]
          have hsM : strM F dd h n cc (i + 1) = if most < μ1.1 5 7 then (nI i, μ1.1 5 7) else (bell, most) := by
            unfold strM at hv1 ⊢
            rw [zf0, ← hv1, hlc]
          first
            | exact ih (i + 1) _ _ _ _ _ (by omega) ho hz hsA.symm (by rw [hsM, if_pos (Int32.not_le.mp h85)])
            | exact ih (i + 1) _ _ _ _ _ (by omega) ho hz hsA.symm (by rw [hsM, if_neg (Int32.not_lt.mpr h85)])

set_option maxRecDepth 100000 in
set_option maxHeartbeats 4000000 in
theorem x_strikeN_1 {g : zG} {d : Nat} {F : zF} {μ0 : zMem} {dd h w : Int32} {n : Nat} {cc : Nat → Int32} (hn : n ≤ 60) (hsz : μ0.1 14 3 = nI n) (hce : ∀ t, t < 60 → (μ0.2.1 20 t).toInt32 = cc t) (hF : okF F) (hdd : 0 ≤ dd) (hd : 7 ≤ d) (ho : oX F μ0) : zM g d L_nextToStrike [.ref 5, .ref 14, .int h, .int dd, .int w] μ0 (fun r μ' => r = some (.int (strC F dd h n cc w)) ∧ zq sX μ0 μ') := by
  refine zM_of (by decide +kernel) rfl rfl (Nat.le_of_ble_eq_true rfl) rfl ?_
  refine zb L_nextToStrike_s0 rfl ?_
  exact w_strike_1 hn hsz hce hF hdd hd (fB F) 0 _ _ _ _ μ0 (by omega) ho zq.rf rfl rfl

set_option maxRecDepth 100000 in
set_option maxHeartbeats 4000000 in
theorem xs_strike_1 {g : zG} {d : Nat} {S : zS} {μ : zMem} {hd w : Int32} (hF : okF S.1) (hd9 : 8 ≤ d) (hS : xS S μ) (hok : okH S) : zM g d X_strike [.ref 1, .int (nI 1), .int hd, .int w] μ (fun r μ' => r = some (.int (opStrike S (nI 1) hd w)) ∧ zq sX μ μ') := by
  refine zM_of (by decide +kernel) rfl rfl (Nat.le_of_ble_eq_true rfl) rfl ?_
  obtain ⟨ho, h2, hT, hC, hD, hI, hA, hH⟩ := hS
  have hS : xS S μ := ⟨ho, h2, hT, hC, hD, hI, hA, hH⟩
  have hb := ho.b
  have hv := ho.v
  have hB6 := ho.b6
  have hV12 := ho.v12
  have hz : zq sX μ μ := zq.rf
  have xs := xsh (s := 1) hS hok (by omega)
  have hF9 := hF
  refine zb X_strike_s0 rfl ?_
  refine zcallV X_strike_d2 k10_93 (by omega) (x_shelf_1 (by omega)) rfl rfl rfl (Nat.le_of_ble_eq_true rfl) ?_
  rintro _ μx ⟨rfl, hx⟩
  rw [hx]
  clear hx μx
  refine zb X_strike_s5 rfl ?_
  refine z_null X_strike_d9 ?_
  refine zb X_strike_s12 rfl ?_
  refine zcallS X_strike_d13 k10_237 (by omega) (x_isHourDays _) rfl rfl (Nat.le_of_ble_eq_true rfl) ?_
  rintro _ μx ⟨rfl, hx⟩
  rw [hx]
  clear hx μx
  refine z_eq X_strike_d16 (tgt := 27) rfl (fun h16 => ?_) (fun h16 => ?_)
  · refine zb X_strike_s27 rfl ?_
    refine z_ret X_strike_d28 rfl ?_
    refine ⟨congrArg (fun z => some (Value.int z)) ?_, hz⟩
    unfold opStrike
    rw [show (nI 1).toNatClampNeg = 1 from rfl]
    first
      | rw [if_neg (fun z => (show ¬ htim hd from zB_eq0.mp h16) z.2.1)]
      | rw [if_neg (fun z => (show ¬ (0 ≤ w ∧ w ≤ 2) from zB_eq0.mp h24) z.2.2)]
      | (rw [if_pos (And.intro (And.intro (by decide) (by decide)) (And.intro (show htim hd from zB_ne0.mp h16) (show 0 ≤ w ∧ w ≤ 2 from zB_ne0.mp h24)))]
         first
           | (unfold barW
              rw [if_neg (show ¬ hHeld S 1 = 0 by rw [g2.1]; decide), if_pos g2, em, nI_clamp (by omega), str_eq hF ho.b6 ho.v12]
              rfl)
           | (unfold barW
              by_cases z : bE 14 μ
              · rw [if_pos z]
                rcases xs with y | y | y
                · rw [if_pos y.1]
                · exact absurd z y.2.1
                · exact absurd z y.2.1
              · rw [if_neg z]
                rw [if_neg z] at h39
                by_cases u : bR 14 μ ∧ μ.1 14 2 = 1
                · rw [if_pos u] at h39; exact absurd rfl h39
                · rw [if_neg u]
                  rcases xs with y | y | y
                  · exact absurd y.2.1 z
                  · rw [y.1, if_neg (by decide), if_neg (fun v => absurd v.1 (by decide))]
                  · rw [y.1, if_neg (by decide), if_neg (fun v => u ⟨y.2.2.1, y.2.2.2.1.trans v.2⟩)]))
  · refine zb X_strike_s19 rfl ?_
    refine zcallS X_strike_d21 k10_170 (by omega) (x_isWithin _ _) rfl rfl (Nat.le_of_ble_eq_true rfl) ?_
    rintro _ μx ⟨rfl, hx⟩
    rw [hx]
    clear hx μx
    refine z_ne X_strike_d24 (tgt := 29) rfl (fun h24 => ?_) (fun h24 => ?_)
    · refine zb X_strike_s29 rfl ?_
      refine zcallV X_strike_d32 k10_247 (by omega) (x_refFor_1 (by omega)) rfl rfl rfl (Nat.le_of_ble_eq_true rfl) ?_
      rintro _ μx ⟨rfl, hx⟩
      rw [hx]
      clear hx μx
      refine zb X_strike_s35 rfl ?_
      refine z_eq X_strike_d39 (tgt := 47) rfl (fun h39 => ?_) (fun h39 => ?_)
      · have g1 : ¬ bE 14 μ ∧ bR 14 μ ∧ μ.1 14 2 = 1 := by
          by_cases z : bE 14 μ
          · rw [if_pos z] at h39; exact absurd h39 (by decide)
          · rw [if_neg z] at h39
            by_cases y : bR 14 μ ∧ μ.1 14 2 = 1
            · exact ⟨z, y⟩
            · rw [if_neg y] at h39; exact absurd h39 (by decide)
        have g2 : hHeld S 1 = 2 ∧ hSort S 1 = 1 := by
          rcases xs with z | z | z
          · exact absurd z.2.1 g1.1
          · exact absurd g1.2.1 z.2.2.1
          · exact And.intro z.1 (z.2.2.2.1.symm.trans g1.2.2)
        obtain ⟨m, hm, em, hrow⟩ : ∃ m, m ≤ 60 ∧ hSize S 1 = nI m ∧ (∀ i, i < 60 → (hInt S 1 i).toInt64 = hCell S 1 i) := by
          rcases hok 1 (by omega) with z | z | z
          · rw [g2.1] at z; exact absurd z (by decide)
          · rw [g2.1] at z; exact absurd z.1 (by decide)
          · obtain ⟨m, h1, h2⟩ := z.2.2.1
            exact ⟨m, h1, h2, z.2.2.2 g2.2⟩
        have hszS : μ.1 14 3 = nI m := (xS_hz (s := 1) hS (by omega) g2.1).trans em
        have hceS : ∀ t, t < 60 → (μ.2.1 20 t).toInt32 = hInt S 1 t := xS_hc (s := 1) hS (by omega)
        have q2 : htim hd := zB_ne0.mp h16
        refine zb2 X_strike_s47 rfl (by decide) (by decide) ?_
        refine zcallV X_strike_d62 k10_250 (by omega) (x_strikeN_1 (dd := hro hd) hm hszS hceS hF (hro_nn q2.1) (by omega) ho) rfl rfl rfl (Nat.le_of_ble_eq_true rfl) ?_
        rintro _ μ1 ⟨rfl, hz1⟩
        replace hz := hz.tr hz1
        replace ho := ho.q hz1
        clear hz1
        refine z_ret X_strike_d65 rfl ?_
        refine ⟨congrArg (fun z => some (Value.int z)) ?_, hz⟩
        unfold opStrike
        rw [show (nI 1).toNatClampNeg = 1 from rfl]
        first
          | rw [if_neg (fun z => (show ¬ htim hd from zB_eq0.mp h16) z.2.1)]
          | rw [if_neg (fun z => (show ¬ (0 ≤ w ∧ w ≤ 2) from zB_eq0.mp h24) z.2.2)]
          | (rw [if_pos (And.intro (And.intro (by decide) (by decide)) (And.intro (show htim hd from zB_ne0.mp h16) (show 0 ≤ w ∧ w ≤ 2 from zB_ne0.mp h24)))]
             first
               | (unfold barW
                  rw [if_neg (show ¬ hHeld S 1 = 0 by rw [g2.1]; decide), if_pos g2, em, nI_clamp (by omega), str_eq hF ho.b6 ho.v12]
                  rfl)
               | (unfold barW
                  by_cases z : bE 14 μ
                  · rw [if_pos z]
                    rcases xs with y | y | y
                    · rw [if_pos y.1]
                    · exact absurd z y.2.1
                    · exact absurd z y.2.1
                  · rw [if_neg z]
                    rw [if_neg z] at h39
                    by_cases u : bR 14 μ ∧ μ.1 14 2 = 1
                    · rw [if_pos u] at h39; exact absurd rfl h39
                    · rw [if_neg u]
                      rcases xs with y | y | y
                      · exact absurd y.2.1 z
                      · rw [y.1, if_neg (by decide), if_neg (fun v => absurd v.1 (by decide))]
                      · rw [y.1, if_neg (by decide), if_neg (fun v => u ⟨y.2.2.1, y.2.2.2.1.trans v.2⟩)]))
      · refine zb X_strike_s42 rfl ?_
        refine z_ret X_strike_d65 rfl ?_
        refine ⟨congrArg (fun z => some (Value.int z)) ?_, hz⟩
        unfold opStrike
        rw [show (nI 1).toNatClampNeg = 1 from rfl]
        first
          | rw [if_neg (fun z => (show ¬ htim hd from zB_eq0.mp h16) z.2.1)]
          | rw [if_neg (fun z => (show ¬ (0 ≤ w ∧ w ≤ 2) from zB_eq0.mp h24) z.2.2)]
          | (rw [if_pos (And.intro (And.intro (by decide) (by decide)) (And.intro (show htim hd from zB_ne0.mp h16) (show 0 ≤ w ∧ w ≤ 2 from zB_ne0.mp h24)))]
             first
               | (unfold barW
                  rw [if_neg (show ¬ hHeld S 1 = 0 by rw [g2.1]; decide), if_pos g2, em, nI_clamp (by omega), str_eq hF ho.b6 ho.v12]
                  rfl)
               | (unfold barW
                  by_cases z : bE 14 μ
                  · rw [if_pos z]
                    rcases xs with y | y | y
                    · rw [if_pos y.1]
                    · exact absurd z y.2.1
                    · exact absurd z y.2.1
                  · rw [if_neg z]
                    rw [if_neg z] at h39
                    by_cases u : bR 14 μ ∧ μ.1 14 2 = 1
                    · rw [if_pos u] at h39; exact absurd rfl h39
                    · rw [if_neg u]
                      rcases xs with y | y | y
                      · exact absurd y.2.1 z
                      · rw [y.1, if_neg (by decide), if_neg (fun v => absurd v.1 (by decide))]
                      · rw [y.1, if_neg (by decide), if_neg (fun v => u ⟨y.2.2.1, y.2.2.2.1.trans v.2⟩)]))
    · refine zb X_strike_s27 rfl ?_
      refine z_ret X_strike_d28 rfl ?_
      refine ⟨congrArg (fun z => some (Value.int z)) ?_, hz⟩
      unfold opStrike
      rw [show (nI 1).toNatClampNeg = 1 from rfl]
      first
        | rw [if_neg (fun z => (show ¬ htim hd from zB_eq0.mp h16) z.2.1)]
        | rw [if_neg (fun z => (show ¬ (0 ≤ w ∧ w ≤ 2) from zB_eq0.mp h24) z.2.2)]
        | (rw [if_pos (And.intro (And.intro (by decide) (by decide)) (And.intro (show htim hd from zB_ne0.mp h16) (show 0 ≤ w ∧ w ≤ 2 from zB_ne0.mp h24)))]
           first
             | (unfold barW
                rw [if_neg (show ¬ hHeld S 1 = 0 by rw [g2.1]; decide), if_pos g2, em, nI_clamp (by omega), str_eq hF ho.b6 ho.v12]
                rfl)
             | (unfold barW
                by_cases z : bE 14 μ
                · rw [if_pos z]
                  rcases xs with y | y | y
                  · rw [if_pos y.1]
                  · exact absurd z y.2.1
                  · exact absurd z y.2.1
                · rw [if_neg z]
                  rw [if_neg z] at h39
                  by_cases u : bR 14 μ ∧ μ.1 14 2 = 1
                  · rw [if_pos u] at h39; exact absurd rfl h39
                  · rw [if_neg u]
                    rcases xs with y | y | y
                    · exact absurd y.2.1 z
                    · rw [y.1, if_neg (by decide), if_neg (fun v => absurd v.1 (by decide))]
                    · rw [y.1, if_neg (by decide), if_neg (fun v => u ⟨y.2.2.1, y.2.2.2.1.trans v.2⟩)]))

set_option maxRecDepth 100000 in
set_option maxHeartbeats 4000000 in
theorem w_judge_1 {g : zG} {d : Nat} {F : zF} {μ0 : zMem} {b D : Nat} {h : Int32} {n : Nat} {cc : Nat → Int32} (hn : n ≤ 60) (hsz : μ0.1 14 3 = nI n) (hce : ∀ t, t < 60 → (μ0.2.1 20 t).toInt32 = cc t) (hrow : ∀ i, i < 60 → (cc i).toInt64 = μ0.2.1 20 i) (hF : okF F) (hb : b < fB F) (hD : D ≤ 998) (hd : 6 ≤ d) : ∀ (j i : Nat) (μ : zMem), i + j = n → oX F μ → zq sX μ0 μ → (zfind (fun i => ¬ judP F b D h cc i) i j = judW F b D h cc n) → zW g L_firstNotSo d 3 [some (.ref 5), some (.ref 14), some (.int (nI b)), some (.int (nI D)), some (.int h), some (.int (nI i))] [] μ (fun r μ' => r = some (.int (judW F b D h cc n)) ∧ zq sX μ0 μ') := by
  intro j
  induction j with
  | zero =>
    intro i  μ hi ho hz hv0
    have h6 := ho.b6
    have hsz2 : μ.1 14 3 = nI n := by rw [hz.1 14 3 rfl]; exact hsz
    have hce2 : ∀ t, t < 60 → (μ.2.1 20 t).toInt32 = cc t := fun t ht => by rw [hz.2]; exact hce t ht
    have hi : n = i := by omega
    subst hi
    refine zb L_firstNotSo_s3 rfl ?_
    refine z_cge L_firstNotSo_d9 (tgt := 67) rfl (fun h9 => ?_) (fun h9 => absurd (show μ.1 14 3 ≤ nI n by rw [hsz2]; exact Int32.le_refl _) h9)
    refine zb L_firstNotSo_s67 rfl ?_
    refine z_ret L_firstNotSo_d69 rfl ?_
    exact ⟨by rw [← hv0]; rfl, hz⟩
  | succ j ih =>
    intro i  μ hi ho hz hv0
    have h6 := ho.b6
    have hsz2 : μ.1 14 3 = nI n := by rw [hz.1 14 3 rfl]; exact hsz
    have hce2 : ∀ t, t < 60 → (μ.2.1 20 t).toInt32 = cc t := fun t ht => by rw [hz.2]; exact hce t ht
    have hilt : i < n := by omega
    have ei : (nI i).toNatClampNeg = i := nI_clamp (by omega)
    have hi60 : i < 60 := by omega
    have hvi : vp_in (nI i) 60 := vp_in_nI (by omega) (by omega)
    have hvb : vp_in (nI b) 6 := vp_in_nI (by omega) (by omega)
    have eb : (nI b).toNatClampNeg = b := nI_clamp (by omega)
    have e54 := ho.e54
    have hcL : μ.2.1 20 i = (cc i).toInt64 := by rw [hz.2]; exact (hrow i hi60).symm
    simp only [zfind] at hv0
    refine zb L_firstNotSo_s3 rfl ?_
    refine z_cge L_firstNotSo_d9 (tgt := 67) rfl (fun h9 => absurd h9 (show ¬ μ.1 14 3 ≤ nI i by rw [hsz2]; exact nI_ge hilt (by omega))) (fun h9 => ?_)
    refine zb L_firstNotSo_s12 rfl ?_
    rw [nI_add]
    refine z_cgt L_firstNotSo_d19 (tgt := 58) rfl (fun h19 => ?_) (fun h19 => ?_)
    · refine zb L_firstNotSo_s58 rfl ?_
      refine z_ret L_firstNotSo_d60 rfl ?_
      have hj : ¬ judP F b D h cc i := fun z => by
        first
          | exact absurd h19 (Int32.not_lt.mpr (nI_le (b := 998) z.1 (by omega)))
          | exact h55 (lg_eq.mpr (congrArg Int32.toInt64 z.2))
      rw [if_pos hj] at hv0
      exact ⟨by rw [hv0], hz⟩
    · refine zb1 L_firstNotSo_s22 rfl (by first | exact hvi | exact hvb) ?_
      rw [nI_add, e54, eb]
      refine zcallV L_firstNotSo_d42 k5_60 (by omega) (x_offOf hF (by omega) ho) rfl rfl rfl (Nat.le_of_ble_eq_true rfl) ?_
      rintro _ μ1 ⟨rfl, hz1⟩
      replace hz := hz.tr hz1
      replace ho := ho.q hz1
      refine zb1 L_firstNotSo_s45 rfl (by first | exact hvi | exact hvb) ?_
      have hcL2 : μ1.2.1 20 (nI i).toNatClampNeg = (cc i).toInt64 := by rw [ei, hz1.2]; exact hcL
      rw [hcL2]
      refine z_eq L_firstNotSo_d55 (tgt := 61) rfl (fun h55 => ?_) (fun h55 => ?_)
      · refine zb L_firstNotSo_s61 rfl ?_
        rw [nI_1]
        have hj : judP F b D h cc i := ⟨(nI_leI (b := 998) (by omega) (by omega)).mp (Int32.not_lt.mp h19), i64_inj (lg_eq.mp h55)⟩
        rw [if_neg (fun z => z hj)] at hv0
        exact ih (i + 1) _ (by omega) ho hz hv0
      · refine zb L_firstNotSo_s58 rfl ?_
        refine z_ret L_firstNotSo_d60 rfl ?_
        have hj : ¬ judP F b D h cc i := fun z => by
          first
            | exact absurd h19 (Int32.not_lt.mpr (nI_le (b := 998) z.1 (by omega)))
            | exact h55 (lg_eq.mpr (congrArg Int32.toInt64 z.2))
        rw [if_pos hj] at hv0
        exact ⟨by rw [hv0], hz⟩

set_option maxRecDepth 100000 in
set_option maxHeartbeats 4000000 in
theorem x_judgeN_1 {g : zG} {d : Nat} {F : zF} {μ0 : zMem} {b D : Nat} {h : Int32} {n : Nat} {cc : Nat → Int32} (hn : n ≤ 60) (hsz : μ0.1 14 3 = nI n) (hce : ∀ t, t < 60 → (μ0.2.1 20 t).toInt32 = cc t) (hrow : ∀ i, i < 60 → (cc i).toInt64 = μ0.2.1 20 i) (hF : okF F) (hb : b < fB F) (hD : D ≤ 998) (hd : 6 ≤ d) (ho : oX F μ0) : zM g d L_firstNotSo [.ref 5, .ref 14, .int (nI b), .int (nI D), .int h] μ0 (fun r μ' => r = some (.int (judW F b D h cc n)) ∧ zq sX μ0 μ') := by
  refine zM_of (by decide +kernel) rfl rfl (Nat.le_of_ble_eq_true rfl) rfl ?_
  refine zb L_firstNotSo_s0 rfl ?_
  exact w_judge_1 hn hsz hce hrow hF hb hD hd n 0 μ0 (by omega) ho zq.rf rfl

set_option maxRecDepth 100000 in
set_option maxHeartbeats 4000000 in
theorem xs_judge_1 {g : zG} {d : Nat} {S : zS} {μ : zMem} {b dh : Int32} (hF : okF S.1) (hd9 : 8 ≤ d) (hS : xS S μ) (hok : okH S) : zM g d X_judge [.ref 1, .int (nI 1), .int b, .int dh] μ (fun r μ' => r = some (.int (opJudge S (nI 1) b dh)) ∧ zq sX μ μ') := by
  refine zM_of (by decide +kernel) rfl rfl (Nat.le_of_ble_eq_true rfl) rfl ?_
  obtain ⟨ho, h2, hT, hC, hD, hI, hA, hH⟩ := hS
  have hS : xS S μ := ⟨ho, h2, hT, hC, hD, hI, hA, hH⟩
  have hb := ho.b
  have hv := ho.v
  have hB6 := ho.b6
  have hV12 := ho.v12
  have hz : zq sX μ μ := zq.rf
  have xs := xsh (s := 1) hS hok (by omega)
  have hF9 := hF
  refine zb X_judge_s0 rfl ?_
  refine zcallV X_judge_d2 k10_93 (by omega) (x_shelf_1 (by omega)) rfl rfl rfl (Nat.le_of_ble_eq_true rfl) ?_
  rintro _ μx ⟨rfl, hx⟩
  rw [hx]
  clear hx μx
  refine zb X_judge_s5 rfl ?_
  refine z_null X_judge_d9 ?_
  refine zb X_judge_s12 rfl ?_
  refine zcallV X_judge_d17 k10_167 (by omega) (x_hasBell _ ho) rfl rfl rfl (Nat.le_of_ble_eq_true rfl) ?_
  rintro _ μx ⟨rfl, hx⟩
  rw [hx]
  clear hx μx
  refine z_eq X_judge_d20 (tgt := 30) rfl (fun h20 => ?_) (fun h20 => ?_)
  · refine zb X_judge_s30 rfl ?_
    refine z_ret X_judge_d31 rfl ?_
    refine ⟨congrArg (fun z => some (Value.int z)) ?_, hz⟩
    unfold opJudge
    rw [show (nI 1).toNatClampNeg = 1 from rfl]
    first
      | rw [if_neg (fun z => (show ¬ isB S.1 b from zB_eq0.mp h20) z.2.1)]
      | rw [if_neg (fun z => (show ¬ tim dh from zB_eq0.mp h27) z.2.2)]
      | (rw [if_pos (And.intro (And.intro (by decide) (by decide)) (And.intro q1 q2))]
         unfold barW
         rw [if_neg (show ¬ hHeld S 1 = 0 by rw [g2.1]; decide), if_pos g2, em, nI_clamp (show m < 2 ^ 31 by omega), eb, eD, nI_clamp (show D < 2 ^ 31 by omega)])
      | (rw [if_pos (And.intro (And.intro (by decide) (by decide)) (And.intro (show isB S.1 b from zB_ne0.mp h20) (show tim dh from zB_ne0.mp h27)))]
         unfold barW
         by_cases z : bE 14 μ
         · rw [if_pos z]
           rcases xs with y | y | y
           · rw [if_pos y.1]
           · exact absurd z y.2.1
           · exact absurd z y.2.1
         · rw [if_neg z]
           rw [if_neg z] at h42
           by_cases u : bR 14 μ ∧ μ.1 14 2 = 1
           · rw [if_pos u] at h42; exact absurd rfl h42
           · rw [if_neg u]
             rcases xs with y | y | y
             · exact absurd y.2.1 z
             · rw [y.1, if_neg (by decide), if_neg (fun v => absurd v.1 (by decide))]
             · rw [y.1, if_neg (by decide), if_neg (fun v => u ⟨y.2.2.1, y.2.2.2.1.trans v.2⟩)])
  · refine zb X_judge_s23 rfl ?_
    refine zcallS X_judge_d24 k10_160 (by omega) (x_isDayHour _) rfl rfl (Nat.le_of_ble_eq_true rfl) ?_
    rintro _ μx ⟨rfl, hx⟩
    rw [hx]
    clear hx μx
    refine z_ne X_judge_d27 (tgt := 32) rfl (fun h27 => ?_) (fun h27 => ?_)
    · refine zb X_judge_s32 rfl ?_
      refine zcallV X_judge_d35 k10_247 (by omega) (x_refFor_1 (by omega)) rfl rfl rfl (Nat.le_of_ble_eq_true rfl) ?_
      rintro _ μx ⟨rfl, hx⟩
      rw [hx]
      clear hx μx
      refine zb X_judge_s38 rfl ?_
      refine z_eq X_judge_d42 (tgt := 50) rfl (fun h42 => ?_) (fun h42 => ?_)
      · have g1 : ¬ bE 14 μ ∧ bR 14 μ ∧ μ.1 14 2 = 1 := by
          by_cases z : bE 14 μ
          · rw [if_pos z] at h42; exact absurd h42 (by decide)
          · rw [if_neg z] at h42
            by_cases y : bR 14 μ ∧ μ.1 14 2 = 1
            · exact ⟨z, y⟩
            · rw [if_neg y] at h42; exact absurd h42 (by decide)
        have g2 : hHeld S 1 = 2 ∧ hSort S 1 = 1 := by
          rcases xs with z | z | z
          · exact absurd z.2.1 g1.1
          · exact absurd g1.2.1 z.2.2.1
          · exact And.intro z.1 (z.2.2.2.1.symm.trans g1.2.2)
        obtain ⟨m, hm, em, hrow⟩ : ∃ m, m ≤ 60 ∧ hSize S 1 = nI m ∧ (∀ i, i < 60 → (hInt S 1 i).toInt64 = hCell S 1 i) := by
          rcases hok 1 (by omega) with z | z | z
          · rw [g2.1] at z; exact absurd z (by decide)
          · rw [g2.1] at z; exact absurd z.1 (by decide)
          · obtain ⟨m, h1, h2⟩ := z.2.2.1
            exact ⟨m, h1, h2, z.2.2.2 g2.2⟩
        have hszS : μ.1 14 3 = nI m := (xS_hz (s := 1) hS (by omega) g2.1).trans em
        have hceS : ∀ t, t < 60 → (μ.2.1 20 t).toInt32 = hInt S 1 t := xS_hc (s := 1) hS (by omega)
        have q1 : isB S.1 b := zB_ne0.mp h20
        have q2 : tim dh := zB_ne0.mp h27
        obtain ⟨b, hbB, rfl, eb⟩ := zix q1.1 q1.2 (by omega)
        obtain ⟨D, hD, eD⟩ := nI_of2 (M := 998) (n := 998) rfl (Int32.not_lt.mpr (tim_nn q2)) q2.2.1
        have hrow2 : ∀ i, i < 60 → (hInt S 1 i).toInt64 = μ.2.1 20 i := fun i hi => (hrow i hi).trans ((hS.2.2.2.2.2.2.2 1 (by omega)).2 i hi).symm
        refine zb2 X_judge_s50 rfl (by decide) (by decide) ?_
        rw [show dh - dh / 100 * 100 = hro dh from rfl, eD]
        refine zcallV X_judge_d65 k10_254 (by omega) (x_judgeN_1 (h := hro dh) hm hszS hceS hrow2 hF hbB hD (by omega) ho) rfl rfl rfl (Nat.le_of_ble_eq_true rfl) ?_
        rintro _ μ1 ⟨rfl, hz1⟩
        replace hz := hz.tr hz1
        replace ho := ho.q hz1
        clear hz1
        refine z_ret X_judge_d68 rfl ?_
        refine ⟨congrArg (fun z => some (Value.int z)) ?_, hz⟩
        unfold opJudge
        rw [show (nI 1).toNatClampNeg = 1 from rfl]
        first
          | rw [if_neg (fun z => (show ¬ isB S.1 b from zB_eq0.mp h20) z.2.1)]
          | rw [if_neg (fun z => (show ¬ tim dh from zB_eq0.mp h27) z.2.2)]
          | (rw [if_pos (And.intro (And.intro (by decide) (by decide)) (And.intro q1 q2))]
             unfold barW
             rw [if_neg (show ¬ hHeld S 1 = 0 by rw [g2.1]; decide), if_pos g2, em, nI_clamp (show m < 2 ^ 31 by omega), eb, eD, nI_clamp (show D < 2 ^ 31 by omega)])
          | (rw [if_pos (And.intro (And.intro (by decide) (by decide)) (And.intro (show isB S.1 b from zB_ne0.mp h20) (show tim dh from zB_ne0.mp h27)))]
             unfold barW
             by_cases z : bE 14 μ
             · rw [if_pos z]
               rcases xs with y | y | y
               · rw [if_pos y.1]
               · exact absurd z y.2.1
               · exact absurd z y.2.1
             · rw [if_neg z]
               rw [if_neg z] at h42
               by_cases u : bR 14 μ ∧ μ.1 14 2 = 1
               · rw [if_pos u] at h42; exact absurd rfl h42
               · rw [if_neg u]
                 rcases xs with y | y | y
                 · exact absurd y.2.1 z
                 · rw [y.1, if_neg (by decide), if_neg (fun v => absurd v.1 (by decide))]
                 · rw [y.1, if_neg (by decide), if_neg (fun v => u ⟨y.2.2.1, y.2.2.2.1.trans v.2⟩)])
      · refine zb X_judge_s45 rfl ?_
        refine z_ret X_judge_d68 rfl ?_
        refine ⟨congrArg (fun z => some (Value.int z)) ?_, hz⟩
        unfold opJudge
        rw [show (nI 1).toNatClampNeg = 1 from rfl]
        first
          | rw [if_neg (fun z => (show ¬ isB S.1 b from zB_eq0.mp h20) z.2.1)]
          | rw [if_neg (fun z => (show ¬ tim dh from zB_eq0.mp h27) z.2.2)]
          | (rw [if_pos (And.intro (And.intro (by decide) (by decide)) (And.intro q1 q2))]
             unfold barW
             rw [if_neg (show ¬ hHeld S 1 = 0 by rw [g2.1]; decide), if_pos g2, em, nI_clamp (show m < 2 ^ 31 by omega), eb, eD, nI_clamp (show D < 2 ^ 31 by omega)])
          | (rw [if_pos (And.intro (And.intro (by decide) (by decide)) (And.intro (show isB S.1 b from zB_ne0.mp h20) (show tim dh from zB_ne0.mp h27)))]
             unfold barW
             by_cases z : bE 14 μ
             · rw [if_pos z]
               rcases xs with y | y | y
               · rw [if_pos y.1]
               · exact absurd z y.2.1
               · exact absurd z y.2.1
             · rw [if_neg z]
               rw [if_neg z] at h42
               by_cases u : bR 14 μ ∧ μ.1 14 2 = 1
               · rw [if_pos u] at h42; exact absurd rfl h42
               · rw [if_neg u]
                 rcases xs with y | y | y
                 · exact absurd y.2.1 z
                 · rw [y.1, if_neg (by decide), if_neg (fun v => absurd v.1 (by decide))]
                 · rw [y.1, if_neg (by decide), if_neg (fun v => u ⟨y.2.2.1, y.2.2.2.1.trans v.2⟩)])
    · refine zb X_judge_s30 rfl ?_
      refine z_ret X_judge_d31 rfl ?_
      refine ⟨congrArg (fun z => some (Value.int z)) ?_, hz⟩
      unfold opJudge
      rw [show (nI 1).toNatClampNeg = 1 from rfl]
      first
        | rw [if_neg (fun z => (show ¬ isB S.1 b from zB_eq0.mp h20) z.2.1)]
        | rw [if_neg (fun z => (show ¬ tim dh from zB_eq0.mp h27) z.2.2)]
        | (rw [if_pos (And.intro (And.intro (by decide) (by decide)) (And.intro q1 q2))]
           unfold barW
           rw [if_neg (show ¬ hHeld S 1 = 0 by rw [g2.1]; decide), if_pos g2, em, nI_clamp (show m < 2 ^ 31 by omega), eb, eD, nI_clamp (show D < 2 ^ 31 by omega)])
        | (rw [if_pos (And.intro (And.intro (by decide) (by decide)) (And.intro (show isB S.1 b from zB_ne0.mp h20) (show tim dh from zB_ne0.mp h27)))]
           unfold barW
           by_cases z : bE 14 μ
           · rw [if_pos z]
             rcases xs with y | y | y
             · rw [if_pos y.1]
             · exact absurd z y.2.1
             · exact absurd z y.2.1
           · rw [if_neg z]
             rw [if_neg z] at h42
             by_cases u : bR 14 μ ∧ μ.1 14 2 = 1
             · rw [if_pos u] at h42; exact absurd rfl h42
             · rw [if_neg u]
               rcases xs with y | y | y
               · exact absurd y.2.1 z
               · rw [y.1, if_neg (by decide), if_neg (fun v => absurd v.1 (by decide))]
               · rw [y.1, if_neg (by decide), if_neg (fun v => u ⟨y.2.2.1, y.2.2.2.1.trans v.2⟩)])

set_option maxRecDepth 100000 in
set_option maxHeartbeats 4000000 in
theorem x_refFor_2 {g : zG} {d : Nat} {μ : zMem} {p : Int32} (hd : 2 ≤ d) : zM g d S_refusalFor [.ref 15, .int p] μ (fun r μ' => r = some (.int (if bE 15 μ then -11 else if bR 15 μ ∧ μ.1 15 2 = p then 0 else -12)) ∧ μ' = μ) := by
  refine zM_of (by decide +kernel) rfl rfl (Nat.le_of_ble_eq_true rfl) rfl ?_
  refine zb S_refusalFor_s0 rfl ?_
  refine zcallV S_refusalFor_d1 k8_29 (by omega) (x_isEmpty_2) rfl rfl rfl (Nat.le_of_ble_eq_true rfl) ?_
  rintro _ μx ⟨rfl, hx⟩
  rw [hx]
  clear hx μx
  refine z_eq S_refusalFor_d4 (tgt := 10) rfl (fun h4 => ?_) (fun h4 => ?_)
  · refine zb S_refusalFor_s10 rfl ?_
    refine zcallV S_refusalFor_d12 k8_32 (by omega) (x_isRowOf_2 _ (by omega)) rfl rfl rfl (Nat.le_of_ble_eq_true rfl) ?_
    rintro _ μx ⟨rfl, hx⟩
    rw [hx]
    clear hx μx
    refine z_eq S_refusalFor_d15 (tgt := 22) rfl (fun h15 => ?_) (fun h15 => ?_)
    · refine zb S_refusalFor_s22 rfl ?_
      refine z_ret S_refusalFor_d24 rfl ?_
      refine ⟨?_, rfl⟩
      first
        | (rw [if_pos (show bE 15 μ from zB_ne0.mp h4)]; done)
        | (rw [if_neg (show ¬ bE 15 μ from zB_eq0.mp h4), if_pos (show bR 15 μ ∧ μ.1 15 2 = p from zB_ne0.mp h15)]; done)
        | (rw [if_neg (show ¬ bE 15 μ from zB_eq0.mp h4), if_neg (show ¬ (bR 15 μ ∧ μ.1 15 2 = p) from zB_eq0.mp h15)]; done)
    · refine zb S_refusalFor_s18 rfl ?_
      refine z_ret S_refusalFor_d24 rfl ?_
      refine ⟨?_, rfl⟩
      first
        | (rw [if_pos (show bE 15 μ from zB_ne0.mp h4)]; done)
        | (rw [if_neg (show ¬ bE 15 μ from zB_eq0.mp h4), if_pos (show bR 15 μ ∧ μ.1 15 2 = p from zB_ne0.mp h15)]; done)
        | (rw [if_neg (show ¬ bE 15 μ from zB_eq0.mp h4), if_neg (show ¬ (bR 15 μ ∧ μ.1 15 2 = p) from zB_eq0.mp h15)]; done)
  · refine zb S_refusalFor_s7 rfl ?_
    refine z_ret S_refusalFor_d9 rfl ?_
    refine ⟨?_, rfl⟩
    first
      | (rw [if_pos (show bE 15 μ from zB_ne0.mp h4)]; done)
      | (rw [if_neg (show ¬ bE 15 μ from zB_eq0.mp h4), if_pos (show bR 15 μ ∧ μ.1 15 2 = p from zB_ne0.mp h15)]; done)
      | (rw [if_neg (show ¬ bE 15 μ from zB_eq0.mp h4), if_neg (show ¬ (bR 15 μ ∧ μ.1 15 2 = p) from zB_eq0.mp h15)]; done)

set_option maxRecDepth 100000 in
set_option maxHeartbeats 4000000 in
theorem w_strike_2 {g : zG} {d : Nat} {F : zF} {μ0 : zMem} {dd h w : Int32} {n : Nat} {cc : Nat → Int32} (hn : n ≤ 60) (hsz : μ0.1 15 3 = nI n) (hce : ∀ t, t < 60 → (μ0.2.1 21 t).toInt32 = cc t) (hF : okF F) (hdd : 0 ≤ dd) (hd : 7 ≤ d) : ∀ (j i : Nat) (all : Int32) (bell : Int32) (most : Int32) (x9 : Option Value) (μ : zMem), i + j = fB F → oX F μ → zq sX μ0 μ → (all = strA F dd h n cc i) → ((bell, most) = strM F dd h n cc i) → zW g L_nextToStrike d 14 [some (.ref 5), some (.ref 15), some (.int h), some (.int dd), some (.int w), some (.int all), some (.int bell), some (.int most), some (.int (nI i)), x9] [] μ (fun r μ' => r = some (.int (strC F dd h n cc w)) ∧ zq sX μ0 μ') := by
  intro j
  induction j with
  | zero =>
    intro i all bell most x9 μ hi ho hz hv0 hv1
    have hbd := ho.b
    have h12 := ho.v12
    have h6 := ho.b6
    have hsz2 : μ.1 15 3 = nI n := by rw [hz.1 15 3 rfl]; exact hsz
    have hce2 : ∀ t, t < 60 → (μ.2.1 21 t).toInt32 = cc t := fun t ht => by rw [hz.2]; exact hce t ht
    have hi : fB F = i := by omega
    subst hi
    refine zb L_nextToStrike_s14 rfl ?_
    refine z_cge L_nextToStrike_d23 (tgt := 104) rfl (fun h23 => ?_) (fun h23 => absurd (show μ.1 2 7 ≤ nI (fB F) by first | exact Int32.le_refl _ | (rw [hbd]; exact Int32.le_refl _)) h23)
    refine zb L_nextToStrike_s104 rfl ?_
    refine z_ne L_nextToStrike_d106 (tgt := 112) rfl (fun h106 => ?_) (fun h106 => ?_)
    · refine zb L_nextToStrike_s112 rfl ?_
      refine z_ne L_nextToStrike_d114 (tgt := 120) rfl (fun h114 => ?_) (fun h114 => ?_)
      · refine zb L_nextToStrike_s120 rfl ?_
        refine z_cne L_nextToStrike_d123 (tgt := 131) rfl (fun h123 => ?_) (fun h123 => ?_)
        · refine zb L_nextToStrike_s131 rfl ?_
          refine z_ret L_nextToStrike_d133 rfl ?_
          refine ⟨congrArg (fun z => some (Value.int z)) ?_, hz⟩
          unfold strC
          rw [hv0] at *
          first
            | (rw [if_pos h106]; done)
            | (rw [if_neg h106, if_pos h114]; done)
            | (rw [if_neg h106, if_neg h114, if_pos h123, ← hv1]; done)
            | (rw [if_neg h106, if_neg h114, if_neg h123, ← hv1]; done)
        · refine zb L_nextToStrike_s126 rfl ?_
          refine z_ret L_nextToStrike_d133 rfl ?_
          refine ⟨congrArg (fun z => some (Value.int z)) ?_, hz⟩
          unfold strC
          rw [hv0] at *
          first
            | (rw [if_pos h106]; done)
            | (rw [if_neg h106, if_pos h114]; done)
            | (rw [if_neg h106, if_neg h114, if_pos h123, ← hv1]; done)
            | (rw [if_neg h106, if_neg h114, if_neg h123, ← hv1]; done)
      · refine zb L_nextToStrike_s117 rfl ?_
        refine z_ret L_nextToStrike_d119 rfl ?_
        refine ⟨congrArg (fun z => some (Value.int z)) ?_, hz⟩
        unfold strC
        rw [hv0] at *
        first
          | (rw [if_pos h106]; done)
          | (rw [if_neg h106, if_pos h114]; done)
          | (rw [if_neg h106, if_neg h114, if_pos h123, ← hv1]; done)
          | (rw [if_neg h106, if_neg h114, if_neg h123, ← hv1]; done)
    · refine zb L_nextToStrike_s109 rfl ?_
      refine z_ret L_nextToStrike_d111 rfl ?_
      refine ⟨congrArg (fun z => some (Value.int z)) ?_, hz⟩
      unfold strC
      rw [hv0] at *
      first
        | (rw [if_pos h106]; done)
        | (rw [if_neg h106, if_pos h114]; done)
        | (rw [if_neg h106, if_neg h114, if_pos h123, ← hv1]; done)
        | (rw [if_neg h106, if_neg h114, if_neg h123, ← hv1]; done)
  | succ j ih =>
    intro i all bell most x9 μ hi ho hz hv0 hv1
    have hbd := ho.b
    have h12 := ho.v12
    have h6 := ho.b6
    have hsz2 : μ.1 15 3 = nI n := by rw [hz.1 15 3 rfl]; exact hsz
    have hce2 : ∀ t, t < 60 → (μ.2.1 21 t).toInt32 = cc t := fun t ht => by rw [hz.2]; exact hce t ht
    have hilt : i < fB F := by omega
    have ei : (nI i).toNatClampNeg = i := nI_clamp (by omega)
    have hi60 : i < 60 := by omega
    have hvi : vp_in (nI i) 60 := vp_in_nI (by omega) (by omega)
    have hci := hce2 i hi60
    refine zb L_nextToStrike_s14 rfl ?_
    refine z_cge L_nextToStrike_d23 (tgt := 104) rfl (fun h23 => absurd h23 (show ¬ μ.1 2 7 ≤ nI i by first | exact nI_ge hilt (by omega) | (rw [hbd]; exact nI_ge hilt (by omega)))) (fun h23 => ?_)
    refine zb L_nextToStrike_s26 rfl ?_
    refine z_cge L_nextToStrike_d32 (tgt := 46) rfl (fun h32 => ?_) (fun h32 => ?_)
    · refine zb L_nextToStrike_s46 rfl ?_
      refine z_ceq L_nextToStrike_d57 (tgt := 64) rfl (fun h57 => ?_) (fun h57 => ?_)
      · refine zb L_nextToStrike_s64 rfl ?_
        refine zcallV L_nextToStrike_d67 k5_114 (by omega) (x_hear (b := i) hF hdd (by omega) hilt ho) rfl rfl rfl (Nat.le_of_ble_eq_true rfl) ?_
        rintro _ μ1 ⟨rfl, hz1, l0, hr⟩
        replace hz := hz.tr hz1
        replace ho := ho.q hz1
        refine zb L_nextToStrike_s70 rfl ?_
        refine z_cle L_nextToStrike_d85 (tgt := 98) rfl (fun h85 => ?_) (fun h85 => ?_)
        · refine zb L_nextToStrike_s98 rfl ?_
          rw [nI_1]
          rw [hsz2] at h32
          have hlc : lyC F dd h n cc i = (μ1.1 5 6, μ1.1 5 7) := by
            first
              | (have hlt : i < n := (nI_ltI (by omega) (by omega)).mp (Int32.not_le.mp h32)
                 have k := tp_in (c := cc) hlt
                 rw [ei, hci] at h57 hr
                 first
                   | exact lyC_is (k.2.1 h57) k.1 hr.1 hr.2.1
                   | exact lyC_is (k.2.2 h57) k.1 hr.1 hr.2.1)
              | (have hge : ¬ i < n := fun z => absurd h32 (nI_ge z (by omega))
                 have k := tp_out (c := cc) hge
                 exact lyC_is k.2 k.1 hr.1 hr.2.1)
              | exact absurd rfl h57
          have hsA : strA F dd h n cc (i + 1) = all * μ1.1 5 6 := by
            unfold strA at hv0 ⊢
            rw [zf0, ← hv0, hlc]
          have hsM : strM F dd h n cc (i + 1) = if most < μ1.1 5 7 then (nI i, μ1.1 5 7) else (bell, most) := by
            unfold strM at hv1 ⊢
            rw [zf0, ← hv1, hlc]
          first
            | exact ih (i + 1) _ _ _ _ _ (by omega) ho hz hsA.symm (by rw [hsM, if_pos (Int32.not_le.mp h85)])
            | exact ih (i + 1) _ _ _ _ _ (by omega) ho hz hsA.symm (by rw [hsM, if_neg (Int32.not_lt.mpr h85)])
        · refine zb L_nextToStrike_s88 rfl ?_
          rw [nI_1]
          rw [hsz2] at h32
          have hlc : lyC F dd h n cc i = (μ1.1 5 6, μ1.1 5 7) := by
            first
              | (have hlt : i < n := (nI_ltI (by omega) (by omega)).mp (Int32.not_le.mp h32)
                 have k := tp_in (c := cc) hlt
                 rw [ei, hci] at h57 hr
                 first
                   | exact lyC_is (k.2.1 h57) k.1 hr.1 hr.2.1
                   | exact lyC_is (k.2.2 h57) k.1 hr.1 hr.2.1)
              | (have hge : ¬ i < n := fun z => absurd h32 (nI_ge z (by omega))
                 have k := tp_out (c := cc) hge
                 exact lyC_is k.2 k.1 hr.1 hr.2.1)
              | exact absurd rfl h57
          have hsA : strA F dd h n cc (i + 1) = all * μ1.1 5 6 := by
            unfold strA at hv0 ⊢
            rw [zf0, ← hv0, hlc]
          have hsM : strM F dd h n cc (i + 1) = if most < μ1.1 5 7 then (nI i, μ1.1 5 7) else (bell, most) := by
            unfold strM at hv1 ⊢
            rw [zf0, ← hv1, hlc]
          first
            | exact ih (i + 1) _ _ _ _ _ (by omega) ho hz hsA.symm (by rw [hsM, if_pos (Int32.not_le.mp h85)])
            | exact ih (i + 1) _ _ _ _ _ (by omega) ho hz hsA.symm (by rw [hsM, if_neg (Int32.not_lt.mpr h85)])
      · refine zb L_nextToStrike_s60 rfl ?_
        refine zcallV L_nextToStrike_d67 k5_114 (by omega) (x_hear (b := i) hF hdd (by omega) hilt ho) rfl rfl rfl (Nat.le_of_ble_eq_true rfl) ?_
        rintro _ μ1 ⟨rfl, hz1, l0, hr⟩
        replace hz := hz.tr hz1
        replace ho := ho.q hz1
        refine zb L_nextToStrike_s70 rfl ?_
        refine z_cle L_nextToStrike_d85 (tgt := 98) rfl (fun h85 => ?_) (fun h85 => ?_)
        · refine zb L_nextToStrike_s98 rfl ?_
          rw [nI_1]
          rw [hsz2] at h32
          have hlc : lyC F dd h n cc i = (μ1.1 5 6, μ1.1 5 7) := by
            first
              | (have hlt : i < n := (nI_ltI (by omega) (by omega)).mp (Int32.not_le.mp h32)
                 have k := tp_in (c := cc) hlt
                 rw [ei, hci] at h57 hr
                 first
                   | exact lyC_is (k.2.1 h57) k.1 hr.1 hr.2.1
                   | exact lyC_is (k.2.2 h57) k.1 hr.1 hr.2.1)
              | (have hge : ¬ i < n := fun z => absurd h32 (nI_ge z (by omega))
                 have k := tp_out (c := cc) hge
                 exact lyC_is k.2 k.1 hr.1 hr.2.1)
              | exact absurd rfl h57
          have hsA : strA F dd h n cc (i + 1) = all * μ1.1 5 6 := by
            unfold strA at hv0 ⊢
            rw [zf0, ← hv0, hlc]
          have hsM : strM F dd h n cc (i + 1) = if most < μ1.1 5 7 then (nI i, μ1.1 5 7) else (bell, most) := by
            unfold strM at hv1 ⊢
            rw [zf0, ← hv1, hlc]
          first
            | exact ih (i + 1) _ _ _ _ _ (by omega) ho hz hsA.symm (by rw [hsM, if_pos (Int32.not_le.mp h85)])
            | exact ih (i + 1) _ _ _ _ _ (by omega) ho hz hsA.symm (by rw [hsM, if_neg (Int32.not_lt.mpr h85)])
        · refine zb L_nextToStrike_s88 rfl ?_
          rw [nI_1]
          rw [hsz2] at h32
          have hlc : lyC F dd h n cc i = (μ1.1 5 6, μ1.1 5 7) := by
            first
              | (have hlt : i < n := (nI_ltI (by omega) (by omega)).mp (Int32.not_le.mp h32)
                 have k := tp_in (c := cc) hlt
                 rw [ei, hci] at h57 hr
                 first
                   | exact lyC_is (k.2.1 h57) k.1 hr.1 hr.2.1
                   | exact lyC_is (k.2.2 h57) k.1 hr.1 hr.2.1)
              | (have hge : ¬ i < n := fun z => absurd h32 (nI_ge z (by omega))
                 have k := tp_out (c := cc) hge
                 exact lyC_is k.2 k.1 hr.1 hr.2.1)
              | exact absurd rfl h57
          have hsA : strA F dd h n cc (i + 1) = all * μ1.1 5 6 := by
            unfold strA at hv0 ⊢
            rw [zf0, ← hv0, hlc]
          have hsM : strM F dd h n cc (i + 1) = if most < μ1.1 5 7 then (nI i, μ1.1 5 7) else (bell, most) := by
            unfold strM at hv1 ⊢
            rw [zf0, ← hv1, hlc]
          first
            | exact ih (i + 1) _ _ _ _ _ (by omega) ho hz hsA.symm (by rw [hsM, if_pos (Int32.not_le.mp h85)])
            | exact ih (i + 1) _ _ _ _ _ (by omega) ho hz hsA.symm (by rw [hsM, if_neg (Int32.not_lt.mpr h85)])
    · refine zb1 L_nextToStrike_s35 rfl (by first | exact hvi | (rw [ei]; exact hvi)) ?_
      refine z_ceq L_nextToStrike_d57 (tgt := 64) rfl (fun h57 => ?_) (fun h57 => ?_)
      · refine zb L_nextToStrike_s64 rfl ?_
        refine zcallV L_nextToStrike_d67 k5_114 (by omega) (x_hear (b := i) hF hdd (by omega) hilt ho) rfl rfl rfl (Nat.le_of_ble_eq_true rfl) ?_
        rintro _ μ1 ⟨rfl, hz1, l0, hr⟩
        replace hz := hz.tr hz1
        replace ho := ho.q hz1
        refine zb L_nextToStrike_s70 rfl ?_
        refine z_cle L_nextToStrike_d85 (tgt := 98) rfl (fun h85 => ?_) (fun h85 => ?_)
        · refine zb L_nextToStrike_s98 rfl ?_
          rw [nI_1]
          rw [hsz2] at h32
          have hlc : lyC F dd h n cc i = (μ1.1 5 6, μ1.1 5 7) := by
            first
              | (have hlt : i < n := (nI_ltI (by omega) (by omega)).mp (Int32.not_le.mp h32)
                 have k := tp_in (c := cc) hlt
                 rw [ei, hci] at h57 hr
                 first
                   | exact lyC_is (k.2.1 h57) k.1 hr.1 hr.2.1
                   | exact lyC_is (k.2.2 h57) k.1 hr.1 hr.2.1)
              | (have hge : ¬ i < n := fun z => absurd h32 (nI_ge z (by omega))
                 have k := tp_out (c := cc) hge
                 exact lyC_is k.2 k.1 hr.1 hr.2.1)
              | exact absurd rfl h57
          have hsA : strA F dd h n cc (i + 1) = all * μ1.1 5 6 := by
            unfold strA at hv0 ⊢
            rw [zf0, ← hv0, hlc]
          have hsM : strM F dd h n cc (i + 1) = if most < μ1.1 5 7 then (nI i, μ1.1 5 7) else (bell, most) := by
            unfold strM at hv1 ⊢
            rw [zf0, ← hv1, hlc]
          first
            | exact ih (i + 1) _ _ _ _ _ (by omega) ho hz hsA.symm (by rw [hsM, if_pos (Int32.not_le.mp h85)])
            | exact ih (i + 1) _ _ _ _ _ (by omega) ho hz hsA.symm (by rw [hsM, if_neg (Int32.not_lt.mpr h85)])
        · refine zb L_nextToStrike_s88 rfl ?_
          rw [nI_1]
          rw [hsz2] at h32
          have hlc : lyC F dd h n cc i = (μ1.1 5 6, μ1.1 5 7) := by
            first
              | (have hlt : i < n := (nI_ltI (by omega) (by omega)).mp (Int32.not_le.mp h32)
                 have k := tp_in (c := cc) hlt
                 rw [ei, hci] at h57 hr
                 first
                   | exact lyC_is (k.2.1 h57) k.1 hr.1 hr.2.1
                   | exact lyC_is (k.2.2 h57) k.1 hr.1 hr.2.1)
              | (have hge : ¬ i < n := fun z => absurd h32 (nI_ge z (by omega))
                 have k := tp_out (c := cc) hge
                 exact lyC_is k.2 k.1 hr.1 hr.2.1)
              | exact absurd rfl h57
          have hsA : strA F dd h n cc (i + 1) = all * μ1.1 5 6 := by
            unfold strA at hv0 ⊢
            rw [zf0, ← hv0, hlc]
          have hsM : strM F dd h n cc (i + 1) = if most < μ1.1 5 7 then (nI i, μ1.1 5 7) else (bell, most) := by
            unfold strM at hv1 ⊢
            rw [zf0, ← hv1, hlc]
          first
            | exact ih (i + 1) _ _ _ _ _ (by omega) ho hz hsA.symm (by rw [hsM, if_pos (Int32.not_le.mp h85)])
            | exact ih (i + 1) _ _ _ _ _ (by omega) ho hz hsA.symm (by rw [hsM, if_neg (Int32.not_lt.mpr h85)])
      · refine zb L_nextToStrike_s60 rfl ?_
        refine zcallV L_nextToStrike_d67 k5_114 (by omega) (x_hear (b := i) hF hdd (by omega) hilt ho) rfl rfl rfl (Nat.le_of_ble_eq_true rfl) ?_
        rintro _ μ1 ⟨rfl, hz1, l0, hr⟩
        replace hz := hz.tr hz1
        replace ho := ho.q hz1
        refine zb L_nextToStrike_s70 rfl ?_
        refine z_cle L_nextToStrike_d85 (tgt := 98) rfl (fun h85 => ?_) (fun h85 => ?_)
        · refine zb L_nextToStrike_s98 rfl ?_
          rw [nI_1]
          rw [hsz2] at h32
          have hlc : lyC F dd h n cc i = (μ1.1 5 6, μ1.1 5 7) := by
            first
              | (have hlt : i < n := (nI_ltI (by omega) (by omega)).mp (Int32.not_le.mp h32)
                 have k := tp_in (c := cc) hlt
                 rw [ei, hci] at h57 hr
                 first
                   | exact lyC_is (k.2.1 h57) k.1 hr.1 hr.2.1
                   | exact lyC_is (k.2.2 h57) k.1 hr.1 hr.2.1)
              | (have hge : ¬ i < n := fun z => absurd h32 (nI_ge z (by omega))
                 have k := tp_out (c := cc) hge
                 exact lyC_is k.2 k.1 hr.1 hr.2.1)
              | exact absurd rfl h57
          have hsA : strA F dd h n cc (i + 1) = all * μ1.1 5 6 := by
            unfold strA at hv0 ⊢
            rw [zf0, ← hv0, hlc]
          have hsM : strM F dd h n cc (i + 1) = if most < μ1.1 5 7 then (nI i, μ1.1 5 7) else (bell, most) := by
            unfold strM at hv1 ⊢
            rw [zf0, ← hv1, hlc]
          first
            | exact ih (i + 1) _ _ _ _ _ (by omega) ho hz hsA.symm (by rw [hsM, if_pos (Int32.not_le.mp h85)])
            | exact ih (i + 1) _ _ _ _ _ (by omega) ho hz hsA.symm (by rw [hsM, if_neg (Int32.not_lt.mpr h85)])
        · refine zb L_nextToStrike_s88 rfl ?_
          rw [nI_1]
          rw [hsz2] at h32
          have hlc : lyC F dd h n cc i = (μ1.1 5 6, μ1.1 5 7) := by
            first
              | (have hlt : i < n := (nI_ltI (by omega) (by omega)).mp (Int32.not_le.mp h32)
                 have k := tp_in (c := cc) hlt
                 rw [ei, hci] at h57 hr
                 first
                   | exact lyC_is (k.2.1 h57) k.1 hr.1 hr.2.1
                   | exact lyC_is (k.2.2 h57) k.1 hr.1 hr.2.1)
              | (have hge : ¬ i < n := fun z => absurd h32 (nI_ge z (by omega))
                 have k := tp_out (c := cc) hge
                 exact lyC_is k.2 k.1 hr.1 hr.2.1)
              | exact absurd rfl h57
          have hsA : strA F dd h n cc (i + 1) = all * μ1.1 5 6 := by
            unfold strA at hv0 ⊢
            rw [zf0, ← hv0, hlc]
          have hsM : strM F dd h n cc (i + 1) = if most < μ1.1 5 7 then (nI i, μ1.1 5 7) else (bell, most) := by
            unfold strM at hv1 ⊢
            rw [zf0, ← hv1, hlc]
          first
            | exact ih (i + 1) _ _ _ _ _ (by omega) ho hz hsA.symm (by rw [hsM, if_pos (Int32.not_le.mp h85)])
            | exact ih (i + 1) _ _ _ _ _ (by omega) ho hz hsA.symm (by rw [hsM, if_neg (Int32.not_lt.mpr h85)])

set_option maxRecDepth 100000 in
set_option maxHeartbeats 4000000 in
theorem x_strikeN_2 {g : zG} {d : Nat} {F : zF} {μ0 : zMem} {dd h w : Int32} {n : Nat} {cc : Nat → Int32} (hn : n ≤ 60) (hsz : μ0.1 15 3 = nI n) (hce : ∀ t, t < 60 → (μ0.2.1 21 t).toInt32 = cc t) (hF : okF F) (hdd : 0 ≤ dd) (hd : 7 ≤ d) (ho : oX F μ0) : zM g d L_nextToStrike [.ref 5, .ref 15, .int h, .int dd, .int w] μ0 (fun r μ' => r = some (.int (strC F dd h n cc w)) ∧ zq sX μ0 μ') := by
  refine zM_of (by decide +kernel) rfl rfl (Nat.le_of_ble_eq_true rfl) rfl ?_
  refine zb L_nextToStrike_s0 rfl ?_
  exact w_strike_2 hn hsz hce hF hdd hd (fB F) 0 _ _ _ _ μ0 (by omega) ho zq.rf rfl rfl

set_option maxRecDepth 100000 in
set_option maxHeartbeats 4000000 in
theorem xs_strike_2 {g : zG} {d : Nat} {S : zS} {μ : zMem} {hd w : Int32} (hF : okF S.1) (hd9 : 8 ≤ d) (hS : xS S μ) (hok : okH S) : zM g d X_strike [.ref 1, .int (nI 2), .int hd, .int w] μ (fun r μ' => r = some (.int (opStrike S (nI 2) hd w)) ∧ zq sX μ μ') := by
  refine zM_of (by decide +kernel) rfl rfl (Nat.le_of_ble_eq_true rfl) rfl ?_
  obtain ⟨ho, h2, hT, hC, hD, hI, hA, hH⟩ := hS
  have hS : xS S μ := ⟨ho, h2, hT, hC, hD, hI, hA, hH⟩
  have hb := ho.b
  have hv := ho.v
  have hB6 := ho.b6
  have hV12 := ho.v12
  have hz : zq sX μ μ := zq.rf
  have xs := xsh (s := 2) hS hok (by omega)
  have hF9 := hF
  refine zb X_strike_s0 rfl ?_
  refine zcallV X_strike_d2 k10_93 (by omega) (x_shelf_2 (by omega)) rfl rfl rfl (Nat.le_of_ble_eq_true rfl) ?_
  rintro _ μx ⟨rfl, hx⟩
  rw [hx]
  clear hx μx
  refine zb X_strike_s5 rfl ?_
  refine z_null X_strike_d9 ?_
  refine zb X_strike_s12 rfl ?_
  refine zcallS X_strike_d13 k10_237 (by omega) (x_isHourDays _) rfl rfl (Nat.le_of_ble_eq_true rfl) ?_
  rintro _ μx ⟨rfl, hx⟩
  rw [hx]
  clear hx μx
  refine z_eq X_strike_d16 (tgt := 27) rfl (fun h16 => ?_) (fun h16 => ?_)
  · refine zb X_strike_s27 rfl ?_
    refine z_ret X_strike_d28 rfl ?_
    refine ⟨congrArg (fun z => some (Value.int z)) ?_, hz⟩
    unfold opStrike
    rw [show (nI 2).toNatClampNeg = 2 from rfl]
    first
      | rw [if_neg (fun z => (show ¬ htim hd from zB_eq0.mp h16) z.2.1)]
      | rw [if_neg (fun z => (show ¬ (0 ≤ w ∧ w ≤ 2) from zB_eq0.mp h24) z.2.2)]
      | (rw [if_pos (And.intro (And.intro (by decide) (by decide)) (And.intro (show htim hd from zB_ne0.mp h16) (show 0 ≤ w ∧ w ≤ 2 from zB_ne0.mp h24)))]
         first
           | (unfold barW
              rw [if_neg (show ¬ hHeld S 2 = 0 by rw [g2.1]; decide), if_pos g2, em, nI_clamp (by omega), str_eq hF ho.b6 ho.v12]
              rfl)
           | (unfold barW
              by_cases z : bE 15 μ
              · rw [if_pos z]
                rcases xs with y | y | y
                · rw [if_pos y.1]
                · exact absurd z y.2.1
                · exact absurd z y.2.1
              · rw [if_neg z]
                rw [if_neg z] at h39
                by_cases u : bR 15 μ ∧ μ.1 15 2 = 1
                · rw [if_pos u] at h39; exact absurd rfl h39
                · rw [if_neg u]
                  rcases xs with y | y | y
                  · exact absurd y.2.1 z
                  · rw [y.1, if_neg (by decide), if_neg (fun v => absurd v.1 (by decide))]
                  · rw [y.1, if_neg (by decide), if_neg (fun v => u ⟨y.2.2.1, y.2.2.2.1.trans v.2⟩)]))
  · refine zb X_strike_s19 rfl ?_
    refine zcallS X_strike_d21 k10_170 (by omega) (x_isWithin _ _) rfl rfl (Nat.le_of_ble_eq_true rfl) ?_
    rintro _ μx ⟨rfl, hx⟩
    rw [hx]
    clear hx μx
    refine z_ne X_strike_d24 (tgt := 29) rfl (fun h24 => ?_) (fun h24 => ?_)
    · refine zb X_strike_s29 rfl ?_
      refine zcallV X_strike_d32 k10_247 (by omega) (x_refFor_2 (by omega)) rfl rfl rfl (Nat.le_of_ble_eq_true rfl) ?_
      rintro _ μx ⟨rfl, hx⟩
      rw [hx]
      clear hx μx
      refine zb X_strike_s35 rfl ?_
      refine z_eq X_strike_d39 (tgt := 47) rfl (fun h39 => ?_) (fun h39 => ?_)
      · have g1 : ¬ bE 15 μ ∧ bR 15 μ ∧ μ.1 15 2 = 1 := by
          by_cases z : bE 15 μ
          · rw [if_pos z] at h39; exact absurd h39 (by decide)
          · rw [if_neg z] at h39
            by_cases y : bR 15 μ ∧ μ.1 15 2 = 1
            · exact ⟨z, y⟩
            · rw [if_neg y] at h39; exact absurd h39 (by decide)
        have g2 : hHeld S 2 = 2 ∧ hSort S 2 = 1 := by
          rcases xs with z | z | z
          · exact absurd z.2.1 g1.1
          · exact absurd g1.2.1 z.2.2.1
          · exact And.intro z.1 (z.2.2.2.1.symm.trans g1.2.2)
        obtain ⟨m, hm, em, hrow⟩ : ∃ m, m ≤ 60 ∧ hSize S 2 = nI m ∧ (∀ i, i < 60 → (hInt S 2 i).toInt64 = hCell S 2 i) := by
          rcases hok 2 (by omega) with z | z | z
          · rw [g2.1] at z; exact absurd z (by decide)
          · rw [g2.1] at z; exact absurd z.1 (by decide)
          · obtain ⟨m, h1, h2⟩ := z.2.2.1
            exact ⟨m, h1, h2, z.2.2.2 g2.2⟩
        have hszS : μ.1 15 3 = nI m := (xS_hz (s := 2) hS (by omega) g2.1).trans em
        have hceS : ∀ t, t < 60 → (μ.2.1 21 t).toInt32 = hInt S 2 t := xS_hc (s := 2) hS (by omega)
        have q2 : htim hd := zB_ne0.mp h16
        refine zb2 X_strike_s47 rfl (by decide) (by decide) ?_
        refine zcallV X_strike_d62 k10_250 (by omega) (x_strikeN_2 (dd := hro hd) hm hszS hceS hF (hro_nn q2.1) (by omega) ho) rfl rfl rfl (Nat.le_of_ble_eq_true rfl) ?_
        rintro _ μ1 ⟨rfl, hz1⟩
        replace hz := hz.tr hz1
        replace ho := ho.q hz1
        clear hz1
        refine z_ret X_strike_d65 rfl ?_
        refine ⟨congrArg (fun z => some (Value.int z)) ?_, hz⟩
        unfold opStrike
        rw [show (nI 2).toNatClampNeg = 2 from rfl]
        first
          | rw [if_neg (fun z => (show ¬ htim hd from zB_eq0.mp h16) z.2.1)]
          | rw [if_neg (fun z => (show ¬ (0 ≤ w ∧ w ≤ 2) from zB_eq0.mp h24) z.2.2)]
          | (rw [if_pos (And.intro (And.intro (by decide) (by decide)) (And.intro (show htim hd from zB_ne0.mp h16) (show 0 ≤ w ∧ w ≤ 2 from zB_ne0.mp h24)))]
             first
               | (unfold barW
                  rw [if_neg (show ¬ hHeld S 2 = 0 by rw [g2.1]; decide), if_pos g2, em, nI_clamp (by omega), str_eq hF ho.b6 ho.v12]
                  rfl)
               | (unfold barW
                  by_cases z : bE 15 μ
                  · rw [if_pos z]
                    rcases xs with y | y | y
                    · rw [if_pos y.1]
                    · exact absurd z y.2.1
                    · exact absurd z y.2.1
                  · rw [if_neg z]
                    rw [if_neg z] at h39
                    by_cases u : bR 15 μ ∧ μ.1 15 2 = 1
                    · rw [if_pos u] at h39; exact absurd rfl h39
                    · rw [if_neg u]
                      rcases xs with y | y | y
                      · exact absurd y.2.1 z
                      · rw [y.1, if_neg (by decide), if_neg (fun v => absurd v.1 (by decide))]
                      · rw [y.1, if_neg (by decide), if_neg (fun v => u ⟨y.2.2.1, y.2.2.2.1.trans v.2⟩)]))
      · refine zb X_strike_s42 rfl ?_
        refine z_ret X_strike_d65 rfl ?_
        refine ⟨congrArg (fun z => some (Value.int z)) ?_, hz⟩
        unfold opStrike
        rw [show (nI 2).toNatClampNeg = 2 from rfl]
        first
          | rw [if_neg (fun z => (show ¬ htim hd from zB_eq0.mp h16) z.2.1)]
          | rw [if_neg (fun z => (show ¬ (0 ≤ w ∧ w ≤ 2) from zB_eq0.mp h24) z.2.2)]
          | (rw [if_pos (And.intro (And.intro (by decide) (by decide)) (And.intro (show htim hd from zB_ne0.mp h16) (show 0 ≤ w ∧ w ≤ 2 from zB_ne0.mp h24)))]
             first
               | (unfold barW
                  rw [if_neg (show ¬ hHeld S 2 = 0 by rw [g2.1]; decide), if_pos g2, em, nI_clamp (by omega), str_eq hF ho.b6 ho.v12]
                  rfl)
               | (unfold barW
                  by_cases z : bE 15 μ
                  · rw [if_pos z]
                    rcases xs with y | y | y
                    · rw [if_pos y.1]
                    · exact absurd z y.2.1
                    · exact absurd z y.2.1
                  · rw [if_neg z]
                    rw [if_neg z] at h39
                    by_cases u : bR 15 μ ∧ μ.1 15 2 = 1
                    · rw [if_pos u] at h39; exact absurd rfl h39
                    · rw [if_neg u]
                      rcases xs with y | y | y
                      · exact absurd y.2.1 z
                      · rw [y.1, if_neg (by decide), if_neg (fun v => absurd v.1 (by decide))]
                      · rw [y.1, if_neg (by decide), if_neg (fun v => u ⟨y.2.2.1, y.2.2.2.1.trans v.2⟩)]))
    · refine zb X_strike_s27 rfl ?_
      refine z_ret X_strike_d28 rfl ?_
      refine ⟨congrArg (fun z => some (Value.int z)) ?_, hz⟩
      unfold opStrike
      rw [show (nI 2).toNatClampNeg = 2 from rfl]
      first
        | rw [if_neg (fun z => (show ¬ htim hd from zB_eq0.mp h16) z.2.1)]
        | rw [if_neg (fun z => (show ¬ (0 ≤ w ∧ w ≤ 2) from zB_eq0.mp h24) z.2.2)]
        | (rw [if_pos (And.intro (And.intro (by decide) (by decide)) (And.intro (show htim hd from zB_ne0.mp h16) (show 0 ≤ w ∧ w ≤ 2 from zB_ne0.mp h24)))]
           first
             | (unfold barW
                rw [if_neg (show ¬ hHeld S 2 = 0 by rw [g2.1]; decide), if_pos g2, em, nI_clamp (by omega), str_eq hF ho.b6 ho.v12]
                rfl)
             | (unfold barW
                by_cases z : bE 15 μ
                · rw [if_pos z]
                  rcases xs with y | y | y
                  · rw [if_pos y.1]
                  · exact absurd z y.2.1
                  · exact absurd z y.2.1
                · rw [if_neg z]
                  rw [if_neg z] at h39
                  by_cases u : bR 15 μ ∧ μ.1 15 2 = 1
                  · rw [if_pos u] at h39; exact absurd rfl h39
                  · rw [if_neg u]
                    rcases xs with y | y | y
                    · exact absurd y.2.1 z
                    · rw [y.1, if_neg (by decide), if_neg (fun v => absurd v.1 (by decide))]
                    · rw [y.1, if_neg (by decide), if_neg (fun v => u ⟨y.2.2.1, y.2.2.2.1.trans v.2⟩)]))

set_option maxRecDepth 100000 in
set_option maxHeartbeats 4000000 in
theorem w_judge_2 {g : zG} {d : Nat} {F : zF} {μ0 : zMem} {b D : Nat} {h : Int32} {n : Nat} {cc : Nat → Int32} (hn : n ≤ 60) (hsz : μ0.1 15 3 = nI n) (hce : ∀ t, t < 60 → (μ0.2.1 21 t).toInt32 = cc t) (hrow : ∀ i, i < 60 → (cc i).toInt64 = μ0.2.1 21 i) (hF : okF F) (hb : b < fB F) (hD : D ≤ 998) (hd : 6 ≤ d) : ∀ (j i : Nat) (μ : zMem), i + j = n → oX F μ → zq sX μ0 μ → (zfind (fun i => ¬ judP F b D h cc i) i j = judW F b D h cc n) → zW g L_firstNotSo d 3 [some (.ref 5), some (.ref 15), some (.int (nI b)), some (.int (nI D)), some (.int h), some (.int (nI i))] [] μ (fun r μ' => r = some (.int (judW F b D h cc n)) ∧ zq sX μ0 μ') := by
  intro j
  induction j with
  | zero =>
    intro i  μ hi ho hz hv0
    have h6 := ho.b6
    have hsz2 : μ.1 15 3 = nI n := by rw [hz.1 15 3 rfl]; exact hsz
    have hce2 : ∀ t, t < 60 → (μ.2.1 21 t).toInt32 = cc t := fun t ht => by rw [hz.2]; exact hce t ht
    have hi : n = i := by omega
    subst hi
    refine zb L_firstNotSo_s3 rfl ?_
    refine z_cge L_firstNotSo_d9 (tgt := 67) rfl (fun h9 => ?_) (fun h9 => absurd (show μ.1 15 3 ≤ nI n by rw [hsz2]; exact Int32.le_refl _) h9)
    refine zb L_firstNotSo_s67 rfl ?_
    refine z_ret L_firstNotSo_d69 rfl ?_
    exact ⟨by rw [← hv0]; rfl, hz⟩
  | succ j ih =>
    intro i  μ hi ho hz hv0
    have h6 := ho.b6
    have hsz2 : μ.1 15 3 = nI n := by rw [hz.1 15 3 rfl]; exact hsz
    have hce2 : ∀ t, t < 60 → (μ.2.1 21 t).toInt32 = cc t := fun t ht => by rw [hz.2]; exact hce t ht
    have hilt : i < n := by omega
    have ei : (nI i).toNatClampNeg = i := nI_clamp (by omega)
    have hi60 : i < 60 := by omega
    have hvi : vp_in (nI i) 60 := vp_in_nI (by omega) (by omega)
    have hvb : vp_in (nI b) 6 := vp_in_nI (by omega) (by omega)
    have eb : (nI b).toNatClampNeg = b := nI_clamp (by omega)
    have e54 := ho.e54
    have hcL : μ.2.1 21 i = (cc i).toInt64 := by rw [hz.2]; exact (hrow i hi60).symm
    simp only [zfind] at hv0
    refine zb L_firstNotSo_s3 rfl ?_
    refine z_cge L_firstNotSo_d9 (tgt := 67) rfl (fun h9 => absurd h9 (show ¬ μ.1 15 3 ≤ nI i by rw [hsz2]; exact nI_ge hilt (by omega))) (fun h9 => ?_)
    refine zb L_firstNotSo_s12 rfl ?_
    rw [nI_add]
    refine z_cgt L_firstNotSo_d19 (tgt := 58) rfl (fun h19 => ?_) (fun h19 => ?_)
    · refine zb L_firstNotSo_s58 rfl ?_
      refine z_ret L_firstNotSo_d60 rfl ?_
      have hj : ¬ judP F b D h cc i := fun z => by
        first
          | exact absurd h19 (Int32.not_lt.mpr (nI_le (b := 998) z.1 (by omega)))
          | exact h55 (lg_eq.mpr (congrArg Int32.toInt64 z.2))
      rw [if_pos hj] at hv0
      exact ⟨by rw [hv0], hz⟩
    · refine zb1 L_firstNotSo_s22 rfl (by first | exact hvi | exact hvb) ?_
      rw [nI_add, e54, eb]
      refine zcallV L_firstNotSo_d42 k5_60 (by omega) (x_offOf hF (by omega) ho) rfl rfl rfl (Nat.le_of_ble_eq_true rfl) ?_
      rintro _ μ1 ⟨rfl, hz1⟩
      replace hz := hz.tr hz1
      replace ho := ho.q hz1
      refine zb1 L_firstNotSo_s45 rfl (by first | exact hvi | exact hvb) ?_
      have hcL2 : μ1.2.1 21 (nI i).toNatClampNeg = (cc i).toInt64 := by rw [ei, hz1.2]; exact hcL
      rw [hcL2]
      refine z_eq L_firstNotSo_d55 (tgt := 61) rfl (fun h55 => ?_) (fun h55 => ?_)
      · refine zb L_firstNotSo_s61 rfl ?_
        rw [nI_1]
        have hj : judP F b D h cc i := ⟨(nI_leI (b := 998) (by omega) (by omega)).mp (Int32.not_lt.mp h19), i64_inj (lg_eq.mp h55)⟩
        rw [if_neg (fun z => z hj)] at hv0
        exact ih (i + 1) _ (by omega) ho hz hv0
      · refine zb L_firstNotSo_s58 rfl ?_
        refine z_ret L_firstNotSo_d60 rfl ?_
        have hj : ¬ judP F b D h cc i := fun z => by
          first
            | exact absurd h19 (Int32.not_lt.mpr (nI_le (b := 998) z.1 (by omega)))
            | exact h55 (lg_eq.mpr (congrArg Int32.toInt64 z.2))
        rw [if_pos hj] at hv0
        exact ⟨by rw [hv0], hz⟩

set_option maxRecDepth 100000 in
set_option maxHeartbeats 4000000 in
theorem x_judgeN_2 {g : zG} {d : Nat} {F : zF} {μ0 : zMem} {b D : Nat} {h : Int32} {n : Nat} {cc : Nat → Int32} (hn : n ≤ 60) (hsz : μ0.1 15 3 = nI n) (hce : ∀ t, t < 60 → (μ0.2.1 21 t).toInt32 = cc t) (hrow : ∀ i, i < 60 → (cc i).toInt64 = μ0.2.1 21 i) (hF : okF F) (hb : b < fB F) (hD : D ≤ 998) (hd : 6 ≤ d) (ho : oX F μ0) : zM g d L_firstNotSo [.ref 5, .ref 15, .int (nI b), .int (nI D), .int h] μ0 (fun r μ' => r = some (.int (judW F b D h cc n)) ∧ zq sX μ0 μ') := by
  refine zM_of (by decide +kernel) rfl rfl (Nat.le_of_ble_eq_true rfl) rfl ?_
  refine zb L_firstNotSo_s0 rfl ?_
  exact w_judge_2 hn hsz hce hrow hF hb hD hd n 0 μ0 (by omega) ho zq.rf rfl

set_option maxRecDepth 100000 in
set_option maxHeartbeats 4000000 in
theorem xs_judge_2 {g : zG} {d : Nat} {S : zS} {μ : zMem} {b dh : Int32} (hF : okF S.1) (hd9 : 8 ≤ d) (hS : xS S μ) (hok : okH S) : zM g d X_judge [.ref 1, .int (nI 2), .int b, .int dh] μ (fun r μ' => r = some (.int (opJudge S (nI 2) b dh)) ∧ zq sX μ μ') := by
  refine zM_of (by decide +kernel) rfl rfl (Nat.le_of_ble_eq_true rfl) rfl ?_
  obtain ⟨ho, h2, hT, hC, hD, hI, hA, hH⟩ := hS
  have hS : xS S μ := ⟨ho, h2, hT, hC, hD, hI, hA, hH⟩
  have hb := ho.b
  have hv := ho.v
  have hB6 := ho.b6
  have hV12 := ho.v12
  have hz : zq sX μ μ := zq.rf
  have xs := xsh (s := 2) hS hok (by omega)
  have hF9 := hF
  refine zb X_judge_s0 rfl ?_
  refine zcallV X_judge_d2 k10_93 (by omega) (x_shelf_2 (by omega)) rfl rfl rfl (Nat.le_of_ble_eq_true rfl) ?_
  rintro _ μx ⟨rfl, hx⟩
  rw [hx]
  clear hx μx
  refine zb X_judge_s5 rfl ?_
  refine z_null X_judge_d9 ?_
  refine zb X_judge_s12 rfl ?_
  refine zcallV X_judge_d17 k10_167 (by omega) (x_hasBell _ ho) rfl rfl rfl (Nat.le_of_ble_eq_true rfl) ?_
  rintro _ μx ⟨rfl, hx⟩
  rw [hx]
  clear hx μx
  refine z_eq X_judge_d20 (tgt := 30) rfl (fun h20 => ?_) (fun h20 => ?_)
  · refine zb X_judge_s30 rfl ?_
    refine z_ret X_judge_d31 rfl ?_
    refine ⟨congrArg (fun z => some (Value.int z)) ?_, hz⟩
    unfold opJudge
    rw [show (nI 2).toNatClampNeg = 2 from rfl]
    first
      | rw [if_neg (fun z => (show ¬ isB S.1 b from zB_eq0.mp h20) z.2.1)]
      | rw [if_neg (fun z => (show ¬ tim dh from zB_eq0.mp h27) z.2.2)]
      | (rw [if_pos (And.intro (And.intro (by decide) (by decide)) (And.intro q1 q2))]
         unfold barW
         rw [if_neg (show ¬ hHeld S 2 = 0 by rw [g2.1]; decide), if_pos g2, em, nI_clamp (show m < 2 ^ 31 by omega), eb, eD, nI_clamp (show D < 2 ^ 31 by omega)])
      | (rw [if_pos (And.intro (And.intro (by decide) (by decide)) (And.intro (show isB S.1 b from zB_ne0.mp h20) (show tim dh from zB_ne0.mp h27)))]
         unfold barW
         by_cases z : bE 15 μ
         · rw [if_pos z]
           rcases xs with y | y | y
           · rw [if_pos y.1]
           · exact absurd z y.2.1
           · exact absurd z y.2.1
         · rw [if_neg z]
           rw [if_neg z] at h42
           by_cases u : bR 15 μ ∧ μ.1 15 2 = 1
           · rw [if_pos u] at h42; exact absurd rfl h42
           · rw [if_neg u]
             rcases xs with y | y | y
             · exact absurd y.2.1 z
             · rw [y.1, if_neg (by decide), if_neg (fun v => absurd v.1 (by decide))]
             · rw [y.1, if_neg (by decide), if_neg (fun v => u ⟨y.2.2.1, y.2.2.2.1.trans v.2⟩)])
  · refine zb X_judge_s23 rfl ?_
    refine zcallS X_judge_d24 k10_160 (by omega) (x_isDayHour _) rfl rfl (Nat.le_of_ble_eq_true rfl) ?_
    rintro _ μx ⟨rfl, hx⟩
    rw [hx]
    clear hx μx
    refine z_ne X_judge_d27 (tgt := 32) rfl (fun h27 => ?_) (fun h27 => ?_)
    · refine zb X_judge_s32 rfl ?_
      refine zcallV X_judge_d35 k10_247 (by omega) (x_refFor_2 (by omega)) rfl rfl rfl (Nat.le_of_ble_eq_true rfl) ?_
      rintro _ μx ⟨rfl, hx⟩
      rw [hx]
      clear hx μx
      refine zb X_judge_s38 rfl ?_
      refine z_eq X_judge_d42 (tgt := 50) rfl (fun h42 => ?_) (fun h42 => ?_)
      · have g1 : ¬ bE 15 μ ∧ bR 15 μ ∧ μ.1 15 2 = 1 := by
          by_cases z : bE 15 μ
          · rw [if_pos z] at h42; exact absurd h42 (by decide)
          · rw [if_neg z] at h42
            by_cases y : bR 15 μ ∧ μ.1 15 2 = 1
            · exact ⟨z, y⟩
            · rw [if_neg y] at h42; exact absurd h42 (by decide)
        have g2 : hHeld S 2 = 2 ∧ hSort S 2 = 1 := by
          rcases xs with z | z | z
          · exact absurd z.2.1 g1.1
          · exact absurd g1.2.1 z.2.2.1
          · exact And.intro z.1 (z.2.2.2.1.symm.trans g1.2.2)
        obtain ⟨m, hm, em, hrow⟩ : ∃ m, m ≤ 60 ∧ hSize S 2 = nI m ∧ (∀ i, i < 60 → (hInt S 2 i).toInt64 = hCell S 2 i) := by
          rcases hok 2 (by omega) with z | z | z
          · rw [g2.1] at z; exact absurd z (by decide)
          · rw [g2.1] at z; exact absurd z.1 (by decide)
          · obtain ⟨m, h1, h2⟩ := z.2.2.1
            exact ⟨m, h1, h2, z.2.2.2 g2.2⟩
        have hszS : μ.1 15 3 = nI m := (xS_hz (s := 2) hS (by omega) g2.1).trans em
        have hceS : ∀ t, t < 60 → (μ.2.1 21 t).toInt32 = hInt S 2 t := xS_hc (s := 2) hS (by omega)
        have q1 : isB S.1 b := zB_ne0.mp h20
        have q2 : tim dh := zB_ne0.mp h27
        obtain ⟨b, hbB, rfl, eb⟩ := zix q1.1 q1.2 (by omega)
        obtain ⟨D, hD, eD⟩ := nI_of2 (M := 998) (n := 998) rfl (Int32.not_lt.mpr (tim_nn q2)) q2.2.1
        have hrow2 : ∀ i, i < 60 → (hInt S 2 i).toInt64 = μ.2.1 21 i := fun i hi => (hrow i hi).trans ((hS.2.2.2.2.2.2.2 2 (by omega)).2 i hi).symm
        refine zb2 X_judge_s50 rfl (by decide) (by decide) ?_
        rw [show dh - dh / 100 * 100 = hro dh from rfl, eD]
        refine zcallV X_judge_d65 k10_254 (by omega) (x_judgeN_2 (h := hro dh) hm hszS hceS hrow2 hF hbB hD (by omega) ho) rfl rfl rfl (Nat.le_of_ble_eq_true rfl) ?_
        rintro _ μ1 ⟨rfl, hz1⟩
        replace hz := hz.tr hz1
        replace ho := ho.q hz1
        clear hz1
        refine z_ret X_judge_d68 rfl ?_
        refine ⟨congrArg (fun z => some (Value.int z)) ?_, hz⟩
        unfold opJudge
        rw [show (nI 2).toNatClampNeg = 2 from rfl]
        first
          | rw [if_neg (fun z => (show ¬ isB S.1 b from zB_eq0.mp h20) z.2.1)]
          | rw [if_neg (fun z => (show ¬ tim dh from zB_eq0.mp h27) z.2.2)]
          | (rw [if_pos (And.intro (And.intro (by decide) (by decide)) (And.intro q1 q2))]
             unfold barW
             rw [if_neg (show ¬ hHeld S 2 = 0 by rw [g2.1]; decide), if_pos g2, em, nI_clamp (show m < 2 ^ 31 by omega), eb, eD, nI_clamp (show D < 2 ^ 31 by omega)])
          | (rw [if_pos (And.intro (And.intro (by decide) (by decide)) (And.intro (show isB S.1 b from zB_ne0.mp h20) (show tim dh from zB_ne0.mp h27)))]
             unfold barW
             by_cases z : bE 15 μ
             · rw [if_pos z]
               rcases xs with y | y | y
               · rw [if_pos y.1]
               · exact absurd z y.2.1
               · exact absurd z y.2.1
             · rw [if_neg z]
               rw [if_neg z] at h42
               by_cases u : bR 15 μ ∧ μ.1 15 2 = 1
               · rw [if_pos u] at h42; exact absurd rfl h42
               · rw [if_neg u]
                 rcases xs with y | y | y
                 · exact absurd y.2.1 z
                 · rw [y.1, if_neg (by decide), if_neg (fun v => absurd v.1 (by decide))]
                 · rw [y.1, if_neg (by decide), if_neg (fun v => u ⟨y.2.2.1, y.2.2.2.1.trans v.2⟩)])
      · refine zb X_judge_s45 rfl ?_
        refine z_ret X_judge_d68 rfl ?_
        refine ⟨congrArg (fun z => some (Value.int z)) ?_, hz⟩
        unfold opJudge
        rw [show (nI 2).toNatClampNeg = 2 from rfl]
        first
          | rw [if_neg (fun z => (show ¬ isB S.1 b from zB_eq0.mp h20) z.2.1)]
          | rw [if_neg (fun z => (show ¬ tim dh from zB_eq0.mp h27) z.2.2)]
          | (rw [if_pos (And.intro (And.intro (by decide) (by decide)) (And.intro q1 q2))]
             unfold barW
             rw [if_neg (show ¬ hHeld S 2 = 0 by rw [g2.1]; decide), if_pos g2, em, nI_clamp (show m < 2 ^ 31 by omega), eb, eD, nI_clamp (show D < 2 ^ 31 by omega)])
          | (rw [if_pos (And.intro (And.intro (by decide) (by decide)) (And.intro (show isB S.1 b from zB_ne0.mp h20) (show tim dh from zB_ne0.mp h27)))]
             unfold barW
             by_cases z : bE 15 μ
             · rw [if_pos z]
               rcases xs with y | y | y
               · rw [if_pos y.1]
               · exact absurd z y.2.1
               · exact absurd z y.2.1
             · rw [if_neg z]
               rw [if_neg z] at h42
               by_cases u : bR 15 μ ∧ μ.1 15 2 = 1
               · rw [if_pos u] at h42; exact absurd rfl h42
               · rw [if_neg u]
                 rcases xs with y | y | y
                 · exact absurd y.2.1 z
                 · rw [y.1, if_neg (by decide), if_neg (fun v => absurd v.1 (by decide))]
                 · rw [y.1, if_neg (by decide), if_neg (fun v => u ⟨y.2.2.1, y.2.2.2.1.trans v.2⟩)])
    · refine zb X_judge_s30 rfl ?_
      refine z_ret X_judge_d31 rfl ?_
      refine ⟨congrArg (fun z => some (Value.int z)) ?_, hz⟩
      unfold opJudge
      rw [show (nI 2).toNatClampNeg = 2 from rfl]
      first
        | rw [if_neg (fun z => (show ¬ isB S.1 b from zB_eq0.mp h20) z.2.1)]
        | rw [if_neg (fun z => (show ¬ tim dh from zB_eq0.mp h27) z.2.2)]
        | (rw [if_pos (And.intro (And.intro (by decide) (by decide)) (And.intro q1 q2))]
           unfold barW
           rw [if_neg (show ¬ hHeld S 2 = 0 by rw [g2.1]; decide), if_pos g2, em, nI_clamp (show m < 2 ^ 31 by omega), eb, eD, nI_clamp (show D < 2 ^ 31 by omega)])
        | (rw [if_pos (And.intro (And.intro (by decide) (by decide)) (And.intro (show isB S.1 b from zB_ne0.mp h20) (show tim dh from zB_ne0.mp h27)))]
           unfold barW
           by_cases z : bE 15 μ
           · rw [if_pos z]
             rcases xs with y | y | y
             · rw [if_pos y.1]
             · exact absurd z y.2.1
             · exact absurd z y.2.1
           · rw [if_neg z]
             rw [if_neg z] at h42
             by_cases u : bR 15 μ ∧ μ.1 15 2 = 1
             · rw [if_pos u] at h42; exact absurd rfl h42
             · rw [if_neg u]
               rcases xs with y | y | y
               · exact absurd y.2.1 z
               · rw [y.1, if_neg (by decide), if_neg (fun v => absurd v.1 (by decide))]
               · rw [y.1, if_neg (by decide), if_neg (fun v => u ⟨y.2.2.1, y.2.2.2.1.trans v.2⟩)])

set_option maxRecDepth 100000 in
set_option maxHeartbeats 4000000 in
theorem x_refFor_3 {g : zG} {d : Nat} {μ : zMem} {p : Int32} (hd : 2 ≤ d) : zM g d S_refusalFor [.ref 16, .int p] μ (fun r μ' => r = some (.int (if bE 16 μ then -11 else if bR 16 μ ∧ μ.1 16 2 = p then 0 else -12)) ∧ μ' = μ) := by
  refine zM_of (by decide +kernel) rfl rfl (Nat.le_of_ble_eq_true rfl) rfl ?_
  refine zb S_refusalFor_s0 rfl ?_
  refine zcallV S_refusalFor_d1 k8_29 (by omega) (x_isEmpty_3) rfl rfl rfl (Nat.le_of_ble_eq_true rfl) ?_
  rintro _ μx ⟨rfl, hx⟩
  rw [hx]
  clear hx μx
  refine z_eq S_refusalFor_d4 (tgt := 10) rfl (fun h4 => ?_) (fun h4 => ?_)
  · refine zb S_refusalFor_s10 rfl ?_
    refine zcallV S_refusalFor_d12 k8_32 (by omega) (x_isRowOf_3 _ (by omega)) rfl rfl rfl (Nat.le_of_ble_eq_true rfl) ?_
    rintro _ μx ⟨rfl, hx⟩
    rw [hx]
    clear hx μx
    refine z_eq S_refusalFor_d15 (tgt := 22) rfl (fun h15 => ?_) (fun h15 => ?_)
    · refine zb S_refusalFor_s22 rfl ?_
      refine z_ret S_refusalFor_d24 rfl ?_
      refine ⟨?_, rfl⟩
      first
        | (rw [if_pos (show bE 16 μ from zB_ne0.mp h4)]; done)
        | (rw [if_neg (show ¬ bE 16 μ from zB_eq0.mp h4), if_pos (show bR 16 μ ∧ μ.1 16 2 = p from zB_ne0.mp h15)]; done)
        | (rw [if_neg (show ¬ bE 16 μ from zB_eq0.mp h4), if_neg (show ¬ (bR 16 μ ∧ μ.1 16 2 = p) from zB_eq0.mp h15)]; done)
    · refine zb S_refusalFor_s18 rfl ?_
      refine z_ret S_refusalFor_d24 rfl ?_
      refine ⟨?_, rfl⟩
      first
        | (rw [if_pos (show bE 16 μ from zB_ne0.mp h4)]; done)
        | (rw [if_neg (show ¬ bE 16 μ from zB_eq0.mp h4), if_pos (show bR 16 μ ∧ μ.1 16 2 = p from zB_ne0.mp h15)]; done)
        | (rw [if_neg (show ¬ bE 16 μ from zB_eq0.mp h4), if_neg (show ¬ (bR 16 μ ∧ μ.1 16 2 = p) from zB_eq0.mp h15)]; done)
  · refine zb S_refusalFor_s7 rfl ?_
    refine z_ret S_refusalFor_d9 rfl ?_
    refine ⟨?_, rfl⟩
    first
      | (rw [if_pos (show bE 16 μ from zB_ne0.mp h4)]; done)
      | (rw [if_neg (show ¬ bE 16 μ from zB_eq0.mp h4), if_pos (show bR 16 μ ∧ μ.1 16 2 = p from zB_ne0.mp h15)]; done)
      | (rw [if_neg (show ¬ bE 16 μ from zB_eq0.mp h4), if_neg (show ¬ (bR 16 μ ∧ μ.1 16 2 = p) from zB_eq0.mp h15)]; done)

set_option maxRecDepth 100000 in
set_option maxHeartbeats 4000000 in
theorem w_strike_3 {g : zG} {d : Nat} {F : zF} {μ0 : zMem} {dd h w : Int32} {n : Nat} {cc : Nat → Int32} (hn : n ≤ 60) (hsz : μ0.1 16 3 = nI n) (hce : ∀ t, t < 60 → (μ0.2.1 22 t).toInt32 = cc t) (hF : okF F) (hdd : 0 ≤ dd) (hd : 7 ≤ d) : ∀ (j i : Nat) (all : Int32) (bell : Int32) (most : Int32) (x9 : Option Value) (μ : zMem), i + j = fB F → oX F μ → zq sX μ0 μ → (all = strA F dd h n cc i) → ((bell, most) = strM F dd h n cc i) → zW g L_nextToStrike d 14 [some (.ref 5), some (.ref 16), some (.int h), some (.int dd), some (.int w), some (.int all), some (.int bell), some (.int most), some (.int (nI i)), x9] [] μ (fun r μ' => r = some (.int (strC F dd h n cc w)) ∧ zq sX μ0 μ') := by
  intro j
  induction j with
  | zero =>
    intro i all bell most x9 μ hi ho hz hv0 hv1
    have hbd := ho.b
    have h12 := ho.v12
    have h6 := ho.b6
    have hsz2 : μ.1 16 3 = nI n := by rw [hz.1 16 3 rfl]; exact hsz
    have hce2 : ∀ t, t < 60 → (μ.2.1 22 t).toInt32 = cc t := fun t ht => by rw [hz.2]; exact hce t ht
    have hi : fB F = i := by omega
    subst hi
    refine zb L_nextToStrike_s14 rfl ?_
    refine z_cge L_nextToStrike_d23 (tgt := 104) rfl (fun h23 => ?_) (fun h23 => absurd (show μ.1 2 7 ≤ nI (fB F) by first | exact Int32.le_refl _ | (rw [hbd]; exact Int32.le_refl _)) h23)
    refine zb L_nextToStrike_s104 rfl ?_
    refine z_ne L_nextToStrike_d106 (tgt := 112) rfl (fun h106 => ?_) (fun h106 => ?_)
    · refine zb L_nextToStrike_s112 rfl ?_
      refine z_ne L_nextToStrike_d114 (tgt := 120) rfl (fun h114 => ?_) (fun h114 => ?_)
      · refine zb L_nextToStrike_s120 rfl ?_
        refine z_cne L_nextToStrike_d123 (tgt := 131) rfl (fun h123 => ?_) (fun h123 => ?_)
        · refine zb L_nextToStrike_s131 rfl ?_
          refine z_ret L_nextToStrike_d133 rfl ?_
          refine ⟨congrArg (fun z => some (Value.int z)) ?_, hz⟩
          unfold strC
          rw [hv0] at *
          first
            | (rw [if_pos h106]; done)
            | (rw [if_neg h106, if_pos h114]; done)
            | (rw [if_neg h106, if_neg h114, if_pos h123, ← hv1]; done)
            | (rw [if_neg h106, if_neg h114, if_neg h123, ← hv1]; done)
        · refine zb L_nextToStrike_s126 rfl ?_
          refine z_ret L_nextToStrike_d133 rfl ?_
          refine ⟨congrArg (fun z => some (Value.int z)) ?_, hz⟩
          unfold strC
          rw [hv0] at *
          first
            | (rw [if_pos h106]; done)
            | (rw [if_neg h106, if_pos h114]; done)
            | (rw [if_neg h106, if_neg h114, if_pos h123, ← hv1]; done)
            | (rw [if_neg h106, if_neg h114, if_neg h123, ← hv1]; done)
      · refine zb L_nextToStrike_s117 rfl ?_
        refine z_ret L_nextToStrike_d119 rfl ?_
        refine ⟨congrArg (fun z => some (Value.int z)) ?_, hz⟩
        unfold strC
        rw [hv0] at *
        first
          | (rw [if_pos h106]; done)
          | (rw [if_neg h106, if_pos h114]; done)
          | (rw [if_neg h106, if_neg h114, if_pos h123, ← hv1]; done)
          | (rw [if_neg h106, if_neg h114, if_neg h123, ← hv1]; done)
    · refine zb L_nextToStrike_s109 rfl ?_
      refine z_ret L_nextToStrike_d111 rfl ?_
      refine ⟨congrArg (fun z => some (Value.int z)) ?_, hz⟩
      unfold strC
      rw [hv0] at *
      first
        | (rw [if_pos h106]; done)
        | (rw [if_neg h106, if_pos h114]; done)
        | (rw [if_neg h106, if_neg h114, if_pos h123, ← hv1]; done)
        | (rw [if_neg h106, if_neg h114, if_neg h123, ← hv1]; done)
  | succ j ih =>
    intro i all bell most x9 μ hi ho hz hv0 hv1
    have hbd := ho.b
    have h12 := ho.v12
    have h6 := ho.b6
    have hsz2 : μ.1 16 3 = nI n := by rw [hz.1 16 3 rfl]; exact hsz
    have hce2 : ∀ t, t < 60 → (μ.2.1 22 t).toInt32 = cc t := fun t ht => by rw [hz.2]; exact hce t ht
    have hilt : i < fB F := by omega
    have ei : (nI i).toNatClampNeg = i := nI_clamp (by omega)
    have hi60 : i < 60 := by omega
    have hvi : vp_in (nI i) 60 := vp_in_nI (by omega) (by omega)
    have hci := hce2 i hi60
    refine zb L_nextToStrike_s14 rfl ?_
    refine z_cge L_nextToStrike_d23 (tgt := 104) rfl (fun h23 => absurd h23 (show ¬ μ.1 2 7 ≤ nI i by first | exact nI_ge hilt (by omega) | (rw [hbd]; exact nI_ge hilt (by omega)))) (fun h23 => ?_)
    refine zb L_nextToStrike_s26 rfl ?_
    refine z_cge L_nextToStrike_d32 (tgt := 46) rfl (fun h32 => ?_) (fun h32 => ?_)
    · refine zb L_nextToStrike_s46 rfl ?_
      refine z_ceq L_nextToStrike_d57 (tgt := 64) rfl (fun h57 => ?_) (fun h57 => ?_)
      · refine zb L_nextToStrike_s64 rfl ?_
        refine zcallV L_nextToStrike_d67 k5_114 (by omega) (x_hear (b := i) hF hdd (by omega) hilt ho) rfl rfl rfl (Nat.le_of_ble_eq_true rfl) ?_
        rintro _ μ1 ⟨rfl, hz1, l0, hr⟩
        replace hz := hz.tr hz1
        replace ho := ho.q hz1
        refine zb L_nextToStrike_s70 rfl ?_
        refine z_cle L_nextToStrike_d85 (tgt := 98) rfl (fun h85 => ?_) (fun h85 => ?_)
        · refine zb L_nextToStrike_s98 rfl ?_
          rw [nI_1]
          rw [hsz2] at h32
          have hlc : lyC F dd h n cc i = (μ1.1 5 6, μ1.1 5 7) := by
            first
              | (have hlt : i < n := (nI_ltI (by omega) (by omega)).mp (Int32.not_le.mp h32)
                 have k := tp_in (c := cc) hlt
                 rw [ei, hci] at h57 hr
                 first
                   | exact lyC_is (k.2.1 h57) k.1 hr.1 hr.2.1
                   | exact lyC_is (k.2.2 h57) k.1 hr.1 hr.2.1)
              | (have hge : ¬ i < n := fun z => absurd h32 (nI_ge z (by omega))
                 have k := tp_out (c := cc) hge
                 exact lyC_is k.2 k.1 hr.1 hr.2.1)
              | exact absurd rfl h57
          have hsA : strA F dd h n cc (i + 1) = all * μ1.1 5 6 := by
            unfold strA at hv0 ⊢
            rw [zf0, ← hv0, hlc]
          have hsM : strM F dd h n cc (i + 1) = if most < μ1.1 5 7 then (nI i, μ1.1 5 7) else (bell, most) := by
            unfold strM at hv1 ⊢
            rw [zf0, ← hv1, hlc]
          first
            | exact ih (i + 1) _ _ _ _ _ (by omega) ho hz hsA.symm (by rw [hsM, if_pos (Int32.not_le.mp h85)])
            | exact ih (i + 1) _ _ _ _ _ (by omega) ho hz hsA.symm (by rw [hsM, if_neg (Int32.not_lt.mpr h85)])
        · refine zb L_nextToStrike_s88 rfl ?_
          rw [nI_1]
          rw [hsz2] at h32
          have hlc : lyC F dd h n cc i = (μ1.1 5 6, μ1.1 5 7) := by
            first
              | (have hlt : i < n := (nI_ltI (by omega) (by omega)).mp (Int32.not_le.mp h32)
                 have k := tp_in (c := cc) hlt
                 rw [ei, hci] at h57 hr
                 first
                   | exact lyC_is (k.2.1 h57) k.1 hr.1 hr.2.1
                   | exact lyC_is (k.2.2 h57) k.1 hr.1 hr.2.1)
              | (have hge : ¬ i < n := fun z => absurd h32 (nI_ge z (by omega))
                 have k := tp_out (c := cc) hge
                 exact lyC_is k.2 k.1 hr.1 hr.2.1)
              | exact absurd rfl h57
          have hsA : strA F dd h n cc (i + 1) = all * μ1.1 5 6 := by
            unfold strA at hv0 ⊢
            rw [zf0, ← hv0, hlc]
          have hsM : strM F dd h n cc (i + 1) = if most < μ1.1 5 7 then (nI i, μ1.1 5 7) else (bell, most) := by
            unfold strM at hv1 ⊢
            rw [zf0, ← hv1, hlc]
          first
            | exact ih (i + 1) _ _ _ _ _ (by omega) ho hz hsA.symm (by rw [hsM, if_pos (Int32.not_le.mp h85)])
            | exact ih (i + 1) _ _ _ _ _ (by omega) ho hz hsA.symm (by rw [hsM, if_neg (Int32.not_lt.mpr h85)])
      · refine zb L_nextToStrike_s60 rfl ?_
        refine zcallV L_nextToStrike_d67 k5_114 (by omega) (x_hear (b := i) hF hdd (by omega) hilt ho) rfl rfl rfl (Nat.le_of_ble_eq_true rfl) ?_
        rintro _ μ1 ⟨rfl, hz1, l0, hr⟩
        replace hz := hz.tr hz1
        replace ho := ho.q hz1
        refine zb L_nextToStrike_s70 rfl ?_
        refine z_cle L_nextToStrike_d85 (tgt := 98) rfl (fun h85 => ?_) (fun h85 => ?_)
        · refine zb L_nextToStrike_s98 rfl ?_
          rw [nI_1]
          rw [hsz2] at h32
          have hlc : lyC F dd h n cc i = (μ1.1 5 6, μ1.1 5 7) := by
            first
              | (have hlt : i < n := (nI_ltI (by omega) (by omega)).mp (Int32.not_le.mp h32)
                 have k := tp_in (c := cc) hlt
                 rw [ei, hci] at h57 hr
                 first
                   | exact lyC_is (k.2.1 h57) k.1 hr.1 hr.2.1
                   | exact lyC_is (k.2.2 h57) k.1 hr.1 hr.2.1)
              | (have hge : ¬ i < n := fun z => absurd h32 (nI_ge z (by omega))
                 have k := tp_out (c := cc) hge
                 exact lyC_is k.2 k.1 hr.1 hr.2.1)
              | exact absurd rfl h57
          have hsA : strA F dd h n cc (i + 1) = all * μ1.1 5 6 := by
            unfold strA at hv0 ⊢
            rw [zf0, ← hv0, hlc]
          have hsM : strM F dd h n cc (i + 1) = if most < μ1.1 5 7 then (nI i, μ1.1 5 7) else (bell, most) := by
            unfold strM at hv1 ⊢
            rw [zf0, ← hv1, hlc]
          first
            | exact ih (i + 1) _ _ _ _ _ (by omega) ho hz hsA.symm (by rw [hsM, if_pos (Int32.not_le.mp h85)])
            | exact ih (i + 1) _ _ _ _ _ (by omega) ho hz hsA.symm (by rw [hsM, if_neg (Int32.not_lt.mpr h85)])
        · refine zb L_nextToStrike_s88 rfl ?_
          rw [nI_1]
          rw [hsz2] at h32
          have hlc : lyC F dd h n cc i = (μ1.1 5 6, μ1.1 5 7) := by
            first
              | (have hlt : i < n := (nI_ltI (by omega) (by omega)).mp (Int32.not_le.mp h32)
                 have k := tp_in (c := cc) hlt
                 rw [ei, hci] at h57 hr
                 first
                   | exact lyC_is (k.2.1 h57) k.1 hr.1 hr.2.1
                   | exact lyC_is (k.2.2 h57) k.1 hr.1 hr.2.1)
              | (have hge : ¬ i < n := fun z => absurd h32 (nI_ge z (by omega))
                 have k := tp_out (c := cc) hge
                 exact lyC_is k.2 k.1 hr.1 hr.2.1)
              | exact absurd rfl h57
          have hsA : strA F dd h n cc (i + 1) = all * μ1.1 5 6 := by
            unfold strA at hv0 ⊢
            rw [zf0, ← hv0, hlc]
          have hsM : strM F dd h n cc (i + 1) = if most < μ1.1 5 7 then (nI i, μ1.1 5 7) else (bell, most) := by
            unfold strM at hv1 ⊢
            rw [zf0, ← hv1, hlc]
          first
            | exact ih (i + 1) _ _ _ _ _ (by omega) ho hz hsA.symm (by rw [hsM, if_pos (Int32.not_le.mp h85)])
            | exact ih (i + 1) _ _ _ _ _ (by omega) ho hz hsA.symm (by rw [hsM, if_neg (Int32.not_lt.mpr h85)])
    · refine zb1 L_nextToStrike_s35 rfl (by first | exact hvi | (rw [ei]; exact hvi)) ?_
      refine z_ceq L_nextToStrike_d57 (tgt := 64) rfl (fun h57 => ?_) (fun h57 => ?_)
      · refine zb L_nextToStrike_s64 rfl ?_
        refine zcallV L_nextToStrike_d67 k5_114 (by omega) (x_hear (b := i) hF hdd (by omega) hilt ho) rfl rfl rfl (Nat.le_of_ble_eq_true rfl) ?_
        rintro _ μ1 ⟨rfl, hz1, l0, hr⟩
        replace hz := hz.tr hz1
        replace ho := ho.q hz1
        refine zb L_nextToStrike_s70 rfl ?_
        refine z_cle L_nextToStrike_d85 (tgt := 98) rfl (fun h85 => ?_) (fun h85 => ?_)
        · refine zb L_nextToStrike_s98 rfl ?_
          rw [nI_1]
          rw [hsz2] at h32
          have hlc : lyC F dd h n cc i = (μ1.1 5 6, μ1.1 5 7) := by
            first
              | (have hlt : i < n := (nI_ltI (by omega) (by omega)).mp (Int32.not_le.mp h32)
                 have k := tp_in (c := cc) hlt
                 rw [ei, hci] at h57 hr
                 first
                   | exact lyC_is (k.2.1 h57) k.1 hr.1 hr.2.1
                   | exact lyC_is (k.2.2 h57) k.1 hr.1 hr.2.1)
              | (have hge : ¬ i < n := fun z => absurd h32 (nI_ge z (by omega))
                 have k := tp_out (c := cc) hge
                 exact lyC_is k.2 k.1 hr.1 hr.2.1)
              | exact absurd rfl h57
          have hsA : strA F dd h n cc (i + 1) = all * μ1.1 5 6 := by
            unfold strA at hv0 ⊢
            rw [zf0, ← hv0, hlc]
          have hsM : strM F dd h n cc (i + 1) = if most < μ1.1 5 7 then (nI i, μ1.1 5 7) else (bell, most) := by
            unfold strM at hv1 ⊢
            rw [zf0, ← hv1, hlc]
          first
            | exact ih (i + 1) _ _ _ _ _ (by omega) ho hz hsA.symm (by rw [hsM, if_pos (Int32.not_le.mp h85)])
            | exact ih (i + 1) _ _ _ _ _ (by omega) ho hz hsA.symm (by rw [hsM, if_neg (Int32.not_lt.mpr h85)])
        · refine zb L_nextToStrike_s88 rfl ?_
          rw [nI_1]
          rw [hsz2] at h32
          have hlc : lyC F dd h n cc i = (μ1.1 5 6, μ1.1 5 7) := by
            first
              | (have hlt : i < n := (nI_ltI (by omega) (by omega)).mp (Int32.not_le.mp h32)
                 have k := tp_in (c := cc) hlt
                 rw [ei, hci] at h57 hr
                 first
                   | exact lyC_is (k.2.1 h57) k.1 hr.1 hr.2.1
                   | exact lyC_is (k.2.2 h57) k.1 hr.1 hr.2.1)
              | (have hge : ¬ i < n := fun z => absurd h32 (nI_ge z (by omega))
                 have k := tp_out (c := cc) hge
                 exact lyC_is k.2 k.1 hr.1 hr.2.1)
              | exact absurd rfl h57
          have hsA : strA F dd h n cc (i + 1) = all * μ1.1 5 6 := by
            unfold strA at hv0 ⊢
            rw [zf0, ← hv0, hlc]
          have hsM : strM F dd h n cc (i + 1) = if most < μ1.1 5 7 then (nI i, μ1.1 5 7) else (bell, most) := by
            unfold strM at hv1 ⊢
            rw [zf0, ← hv1, hlc]
          first
            | exact ih (i + 1) _ _ _ _ _ (by omega) ho hz hsA.symm (by rw [hsM, if_pos (Int32.not_le.mp h85)])
            | exact ih (i + 1) _ _ _ _ _ (by omega) ho hz hsA.symm (by rw [hsM, if_neg (Int32.not_lt.mpr h85)])
      · refine zb L_nextToStrike_s60 rfl ?_
        refine zcallV L_nextToStrike_d67 k5_114 (by omega) (x_hear (b := i) hF hdd (by omega) hilt ho) rfl rfl rfl (Nat.le_of_ble_eq_true rfl) ?_
        rintro _ μ1 ⟨rfl, hz1, l0, hr⟩
        replace hz := hz.tr hz1
        replace ho := ho.q hz1
        refine zb L_nextToStrike_s70 rfl ?_
        refine z_cle L_nextToStrike_d85 (tgt := 98) rfl (fun h85 => ?_) (fun h85 => ?_)
        · refine zb L_nextToStrike_s98 rfl ?_
          rw [nI_1]
          rw [hsz2] at h32
          have hlc : lyC F dd h n cc i = (μ1.1 5 6, μ1.1 5 7) := by
            first
              | (have hlt : i < n := (nI_ltI (by omega) (by omega)).mp (Int32.not_le.mp h32)
                 have k := tp_in (c := cc) hlt
                 rw [ei, hci] at h57 hr
                 first
                   | exact lyC_is (k.2.1 h57) k.1 hr.1 hr.2.1
                   | exact lyC_is (k.2.2 h57) k.1 hr.1 hr.2.1)
              | (have hge : ¬ i < n := fun z => absurd h32 (nI_ge z (by omega))
                 have k := tp_out (c := cc) hge
                 exact lyC_is k.2 k.1 hr.1 hr.2.1)
              | exact absurd rfl h57
          have hsA : strA F dd h n cc (i + 1) = all * μ1.1 5 6 := by
            unfold strA at hv0 ⊢
            rw [zf0, ← hv0, hlc]
          have hsM : strM F dd h n cc (i + 1) = if most < μ1.1 5 7 then (nI i, μ1.1 5 7) else (bell, most) := by
            unfold strM at hv1 ⊢
            rw [zf0, ← hv1, hlc]
          first
            | exact ih (i + 1) _ _ _ _ _ (by omega) ho hz hsA.symm (by rw [hsM, if_pos (Int32.not_le.mp h85)])
            | exact ih (i + 1) _ _ _ _ _ (by omega) ho hz hsA.symm (by rw [hsM, if_neg (Int32.not_lt.mpr h85)])
        · refine zb L_nextToStrike_s88 rfl ?_
          rw [nI_1]
          rw [hsz2] at h32
          have hlc : lyC F dd h n cc i = (μ1.1 5 6, μ1.1 5 7) := by
            first
              | (have hlt : i < n := (nI_ltI (by omega) (by omega)).mp (Int32.not_le.mp h32)
                 have k := tp_in (c := cc) hlt
                 rw [ei, hci] at h57 hr
                 first
                   | exact lyC_is (k.2.1 h57) k.1 hr.1 hr.2.1
                   | exact lyC_is (k.2.2 h57) k.1 hr.1 hr.2.1)
              | (have hge : ¬ i < n := fun z => absurd h32 (nI_ge z (by omega))
                 have k := tp_out (c := cc) hge
                 exact lyC_is k.2 k.1 hr.1 hr.2.1)
              | exact absurd rfl h57
          have hsA : strA F dd h n cc (i + 1) = all * μ1.1 5 6 := by
            unfold strA at hv0 ⊢
            rw [zf0, ← hv0, hlc]
          have hsM : strM F dd h n cc (i + 1) = if most < μ1.1 5 7 then (nI i, μ1.1 5 7) else (bell, most) := by
            unfold strM at hv1 ⊢
            rw [zf0, ← hv1, hlc]
          first
            | exact ih (i + 1) _ _ _ _ _ (by omega) ho hz hsA.symm (by rw [hsM, if_pos (Int32.not_le.mp h85)])
            | exact ih (i + 1) _ _ _ _ _ (by omega) ho hz hsA.symm (by rw [hsM, if_neg (Int32.not_lt.mpr h85)])

set_option maxRecDepth 100000 in
set_option maxHeartbeats 4000000 in
theorem x_strikeN_3 {g : zG} {d : Nat} {F : zF} {μ0 : zMem} {dd h w : Int32} {n : Nat} {cc : Nat → Int32} (hn : n ≤ 60) (hsz : μ0.1 16 3 = nI n) (hce : ∀ t, t < 60 → (μ0.2.1 22 t).toInt32 = cc t) (hF : okF F) (hdd : 0 ≤ dd) (hd : 7 ≤ d) (ho : oX F μ0) : zM g d L_nextToStrike [.ref 5, .ref 16, .int h, .int dd, .int w] μ0 (fun r μ' => r = some (.int (strC F dd h n cc w)) ∧ zq sX μ0 μ') := by
  refine zM_of (by decide +kernel) rfl rfl (Nat.le_of_ble_eq_true rfl) rfl ?_
  refine zb L_nextToStrike_s0 rfl ?_
  exact w_strike_3 hn hsz hce hF hdd hd (fB F) 0 _ _ _ _ μ0 (by omega) ho zq.rf rfl rfl

set_option maxRecDepth 100000 in
set_option maxHeartbeats 4000000 in
theorem xs_strike_3 {g : zG} {d : Nat} {S : zS} {μ : zMem} {hd w : Int32} (hF : okF S.1) (hd9 : 8 ≤ d) (hS : xS S μ) (hok : okH S) : zM g d X_strike [.ref 1, .int (nI 3), .int hd, .int w] μ (fun r μ' => r = some (.int (opStrike S (nI 3) hd w)) ∧ zq sX μ μ') := by
  refine zM_of (by decide +kernel) rfl rfl (Nat.le_of_ble_eq_true rfl) rfl ?_
  obtain ⟨ho, h2, hT, hC, hD, hI, hA, hH⟩ := hS
  have hS : xS S μ := ⟨ho, h2, hT, hC, hD, hI, hA, hH⟩
  have hb := ho.b
  have hv := ho.v
  have hB6 := ho.b6
  have hV12 := ho.v12
  have hz : zq sX μ μ := zq.rf
  have xs := xsh (s := 3) hS hok (by omega)
  have hF9 := hF
  refine zb X_strike_s0 rfl ?_
  refine zcallV X_strike_d2 k10_93 (by omega) (x_shelf_3 (by omega)) rfl rfl rfl (Nat.le_of_ble_eq_true rfl) ?_
  rintro _ μx ⟨rfl, hx⟩
  rw [hx]
  clear hx μx
  refine zb X_strike_s5 rfl ?_
  refine z_null X_strike_d9 ?_
  refine zb X_strike_s12 rfl ?_
  refine zcallS X_strike_d13 k10_237 (by omega) (x_isHourDays _) rfl rfl (Nat.le_of_ble_eq_true rfl) ?_
  rintro _ μx ⟨rfl, hx⟩
  rw [hx]
  clear hx μx
  refine z_eq X_strike_d16 (tgt := 27) rfl (fun h16 => ?_) (fun h16 => ?_)
  · refine zb X_strike_s27 rfl ?_
    refine z_ret X_strike_d28 rfl ?_
    refine ⟨congrArg (fun z => some (Value.int z)) ?_, hz⟩
    unfold opStrike
    rw [show (nI 3).toNatClampNeg = 3 from rfl]
    first
      | rw [if_neg (fun z => (show ¬ htim hd from zB_eq0.mp h16) z.2.1)]
      | rw [if_neg (fun z => (show ¬ (0 ≤ w ∧ w ≤ 2) from zB_eq0.mp h24) z.2.2)]
      | (rw [if_pos (And.intro (And.intro (by decide) (by decide)) (And.intro (show htim hd from zB_ne0.mp h16) (show 0 ≤ w ∧ w ≤ 2 from zB_ne0.mp h24)))]
         first
           | (unfold barW
              rw [if_neg (show ¬ hHeld S 3 = 0 by rw [g2.1]; decide), if_pos g2, em, nI_clamp (by omega), str_eq hF ho.b6 ho.v12]
              rfl)
           | (unfold barW
              by_cases z : bE 16 μ
              · rw [if_pos z]
                rcases xs with y | y | y
                · rw [if_pos y.1]
                · exact absurd z y.2.1
                · exact absurd z y.2.1
              · rw [if_neg z]
                rw [if_neg z] at h39
                by_cases u : bR 16 μ ∧ μ.1 16 2 = 1
                · rw [if_pos u] at h39; exact absurd rfl h39
                · rw [if_neg u]
                  rcases xs with y | y | y
                  · exact absurd y.2.1 z
                  · rw [y.1, if_neg (by decide), if_neg (fun v => absurd v.1 (by decide))]
                  · rw [y.1, if_neg (by decide), if_neg (fun v => u ⟨y.2.2.1, y.2.2.2.1.trans v.2⟩)]))
  · refine zb X_strike_s19 rfl ?_
    refine zcallS X_strike_d21 k10_170 (by omega) (x_isWithin _ _) rfl rfl (Nat.le_of_ble_eq_true rfl) ?_
    rintro _ μx ⟨rfl, hx⟩
    rw [hx]
    clear hx μx
    refine z_ne X_strike_d24 (tgt := 29) rfl (fun h24 => ?_) (fun h24 => ?_)
    · refine zb X_strike_s29 rfl ?_
      refine zcallV X_strike_d32 k10_247 (by omega) (x_refFor_3 (by omega)) rfl rfl rfl (Nat.le_of_ble_eq_true rfl) ?_
      rintro _ μx ⟨rfl, hx⟩
      rw [hx]
      clear hx μx
      refine zb X_strike_s35 rfl ?_
      refine z_eq X_strike_d39 (tgt := 47) rfl (fun h39 => ?_) (fun h39 => ?_)
      · have g1 : ¬ bE 16 μ ∧ bR 16 μ ∧ μ.1 16 2 = 1 := by
          by_cases z : bE 16 μ
          · rw [if_pos z] at h39; exact absurd h39 (by decide)
          · rw [if_neg z] at h39
            by_cases y : bR 16 μ ∧ μ.1 16 2 = 1
            · exact ⟨z, y⟩
            · rw [if_neg y] at h39; exact absurd h39 (by decide)
        have g2 : hHeld S 3 = 2 ∧ hSort S 3 = 1 := by
          rcases xs with z | z | z
          · exact absurd z.2.1 g1.1
          · exact absurd g1.2.1 z.2.2.1
          · exact And.intro z.1 (z.2.2.2.1.symm.trans g1.2.2)
        obtain ⟨m, hm, em, hrow⟩ : ∃ m, m ≤ 60 ∧ hSize S 3 = nI m ∧ (∀ i, i < 60 → (hInt S 3 i).toInt64 = hCell S 3 i) := by
          rcases hok 3 (by omega) with z | z | z
          · rw [g2.1] at z; exact absurd z (by decide)
          · rw [g2.1] at z; exact absurd z.1 (by decide)
          · obtain ⟨m, h1, h2⟩ := z.2.2.1
            exact ⟨m, h1, h2, z.2.2.2 g2.2⟩
        have hszS : μ.1 16 3 = nI m := (xS_hz (s := 3) hS (by omega) g2.1).trans em
        have hceS : ∀ t, t < 60 → (μ.2.1 22 t).toInt32 = hInt S 3 t := xS_hc (s := 3) hS (by omega)
        have q2 : htim hd := zB_ne0.mp h16
        refine zb2 X_strike_s47 rfl (by decide) (by decide) ?_
        refine zcallV X_strike_d62 k10_250 (by omega) (x_strikeN_3 (dd := hro hd) hm hszS hceS hF (hro_nn q2.1) (by omega) ho) rfl rfl rfl (Nat.le_of_ble_eq_true rfl) ?_
        rintro _ μ1 ⟨rfl, hz1⟩
        replace hz := hz.tr hz1
        replace ho := ho.q hz1
        clear hz1
        refine z_ret X_strike_d65 rfl ?_
        refine ⟨congrArg (fun z => some (Value.int z)) ?_, hz⟩
        unfold opStrike
        rw [show (nI 3).toNatClampNeg = 3 from rfl]
        first
          | rw [if_neg (fun z => (show ¬ htim hd from zB_eq0.mp h16) z.2.1)]
          | rw [if_neg (fun z => (show ¬ (0 ≤ w ∧ w ≤ 2) from zB_eq0.mp h24) z.2.2)]
          | (rw [if_pos (And.intro (And.intro (by decide) (by decide)) (And.intro (show htim hd from zB_ne0.mp h16) (show 0 ≤ w ∧ w ≤ 2 from zB_ne0.mp h24)))]
             first
               | (unfold barW
                  rw [if_neg (show ¬ hHeld S 3 = 0 by rw [g2.1]; decide), if_pos g2, em, nI_clamp (by omega), str_eq hF ho.b6 ho.v12]
                  rfl)
               | (unfold barW
                  by_cases z : bE 16 μ
                  · rw [if_pos z]
                    rcases xs with y | y | y
                    · rw [if_pos y.1]
                    · exact absurd z y.2.1
                    · exact absurd z y.2.1
                  · rw [if_neg z]
                    rw [if_neg z] at h39
                    by_cases u : bR 16 μ ∧ μ.1 16 2 = 1
                    · rw [if_pos u] at h39; exact absurd rfl h39
                    · rw [if_neg u]
                      rcases xs with y | y | y
                      · exact absurd y.2.1 z
                      · rw [y.1, if_neg (by decide), if_neg (fun v => absurd v.1 (by decide))]
                      · rw [y.1, if_neg (by decide), if_neg (fun v => u ⟨y.2.2.1, y.2.2.2.1.trans v.2⟩)]))
      · refine zb X_strike_s42 rfl ?_
        refine z_ret X_strike_d65 rfl ?_
        refine ⟨congrArg (fun z => some (Value.int z)) ?_, hz⟩
        unfold opStrike
        rw [show (nI 3).toNatClampNeg = 3 from rfl]
        first
          | rw [if_neg (fun z => (show ¬ htim hd from zB_eq0.mp h16) z.2.1)]
          | rw [if_neg (fun z => (show ¬ (0 ≤ w ∧ w ≤ 2) from zB_eq0.mp h24) z.2.2)]
          | (rw [if_pos (And.intro (And.intro (by decide) (by decide)) (And.intro (show htim hd from zB_ne0.mp h16) (show 0 ≤ w ∧ w ≤ 2 from zB_ne0.mp h24)))]
             first
               | (unfold barW
                  rw [if_neg (show ¬ hHeld S 3 = 0 by rw [g2.1]; decide), if_pos g2, em, nI_clamp (by omega), str_eq hF ho.b6 ho.v12]
                  rfl)
               | (unfold barW
                  by_cases z : bE 16 μ
                  · rw [if_pos z]
                    rcases xs with y | y | y
                    · rw [if_pos y.1]
                    · exact absurd z y.2.1
                    · exact absurd z y.2.1
                  · rw [if_neg z]
                    rw [if_neg z] at h39
                    by_cases u : bR 16 μ ∧ μ.1 16 2 = 1
                    · rw [if_pos u] at h39; exact absurd rfl h39
                    · rw [if_neg u]
                      rcases xs with y | y | y
                      · exact absurd y.2.1 z
                      · rw [y.1, if_neg (by decide), if_neg (fun v => absurd v.1 (by decide))]
                      · rw [y.1, if_neg (by decide), if_neg (fun v => u ⟨y.2.2.1, y.2.2.2.1.trans v.2⟩)]))
    · refine zb X_strike_s27 rfl ?_
      refine z_ret X_strike_d28 rfl ?_
      refine ⟨congrArg (fun z => some (Value.int z)) ?_, hz⟩
      unfold opStrike
      rw [show (nI 3).toNatClampNeg = 3 from rfl]
      first
        | rw [if_neg (fun z => (show ¬ htim hd from zB_eq0.mp h16) z.2.1)]
        | rw [if_neg (fun z => (show ¬ (0 ≤ w ∧ w ≤ 2) from zB_eq0.mp h24) z.2.2)]
        | (rw [if_pos (And.intro (And.intro (by decide) (by decide)) (And.intro (show htim hd from zB_ne0.mp h16) (show 0 ≤ w ∧ w ≤ 2 from zB_ne0.mp h24)))]
           first
             | (unfold barW
                rw [if_neg (show ¬ hHeld S 3 = 0 by rw [g2.1]; decide), if_pos g2, em, nI_clamp (by omega), str_eq hF ho.b6 ho.v12]
                rfl)
             | (unfold barW
                by_cases z : bE 16 μ
                · rw [if_pos z]
                  rcases xs with y | y | y
                  · rw [if_pos y.1]
                  · exact absurd z y.2.1
                  · exact absurd z y.2.1
                · rw [if_neg z]
                  rw [if_neg z] at h39
                  by_cases u : bR 16 μ ∧ μ.1 16 2 = 1
                  · rw [if_pos u] at h39; exact absurd rfl h39
                  · rw [if_neg u]
                    rcases xs with y | y | y
                    · exact absurd y.2.1 z
                    · rw [y.1, if_neg (by decide), if_neg (fun v => absurd v.1 (by decide))]
                    · rw [y.1, if_neg (by decide), if_neg (fun v => u ⟨y.2.2.1, y.2.2.2.1.trans v.2⟩)]))

set_option maxRecDepth 100000 in
set_option maxHeartbeats 4000000 in
theorem w_judge_3 {g : zG} {d : Nat} {F : zF} {μ0 : zMem} {b D : Nat} {h : Int32} {n : Nat} {cc : Nat → Int32} (hn : n ≤ 60) (hsz : μ0.1 16 3 = nI n) (hce : ∀ t, t < 60 → (μ0.2.1 22 t).toInt32 = cc t) (hrow : ∀ i, i < 60 → (cc i).toInt64 = μ0.2.1 22 i) (hF : okF F) (hb : b < fB F) (hD : D ≤ 998) (hd : 6 ≤ d) : ∀ (j i : Nat) (μ : zMem), i + j = n → oX F μ → zq sX μ0 μ → (zfind (fun i => ¬ judP F b D h cc i) i j = judW F b D h cc n) → zW g L_firstNotSo d 3 [some (.ref 5), some (.ref 16), some (.int (nI b)), some (.int (nI D)), some (.int h), some (.int (nI i))] [] μ (fun r μ' => r = some (.int (judW F b D h cc n)) ∧ zq sX μ0 μ') := by
  intro j
  induction j with
  | zero =>
    intro i  μ hi ho hz hv0
    have h6 := ho.b6
    have hsz2 : μ.1 16 3 = nI n := by rw [hz.1 16 3 rfl]; exact hsz
    have hce2 : ∀ t, t < 60 → (μ.2.1 22 t).toInt32 = cc t := fun t ht => by rw [hz.2]; exact hce t ht
    have hi : n = i := by omega
    subst hi
    refine zb L_firstNotSo_s3 rfl ?_
    refine z_cge L_firstNotSo_d9 (tgt := 67) rfl (fun h9 => ?_) (fun h9 => absurd (show μ.1 16 3 ≤ nI n by rw [hsz2]; exact Int32.le_refl _) h9)
    refine zb L_firstNotSo_s67 rfl ?_
    refine z_ret L_firstNotSo_d69 rfl ?_
    exact ⟨by rw [← hv0]; rfl, hz⟩
  | succ j ih =>
    intro i  μ hi ho hz hv0
    have h6 := ho.b6
    have hsz2 : μ.1 16 3 = nI n := by rw [hz.1 16 3 rfl]; exact hsz
    have hce2 : ∀ t, t < 60 → (μ.2.1 22 t).toInt32 = cc t := fun t ht => by rw [hz.2]; exact hce t ht
    have hilt : i < n := by omega
    have ei : (nI i).toNatClampNeg = i := nI_clamp (by omega)
    have hi60 : i < 60 := by omega
    have hvi : vp_in (nI i) 60 := vp_in_nI (by omega) (by omega)
    have hvb : vp_in (nI b) 6 := vp_in_nI (by omega) (by omega)
    have eb : (nI b).toNatClampNeg = b := nI_clamp (by omega)
    have e54 := ho.e54
    have hcL : μ.2.1 22 i = (cc i).toInt64 := by rw [hz.2]; exact (hrow i hi60).symm
    simp only [zfind] at hv0
    refine zb L_firstNotSo_s3 rfl ?_
    refine z_cge L_firstNotSo_d9 (tgt := 67) rfl (fun h9 => absurd h9 (show ¬ μ.1 16 3 ≤ nI i by rw [hsz2]; exact nI_ge hilt (by omega))) (fun h9 => ?_)
    refine zb L_firstNotSo_s12 rfl ?_
    rw [nI_add]
    refine z_cgt L_firstNotSo_d19 (tgt := 58) rfl (fun h19 => ?_) (fun h19 => ?_)
    · refine zb L_firstNotSo_s58 rfl ?_
      refine z_ret L_firstNotSo_d60 rfl ?_
      have hj : ¬ judP F b D h cc i := fun z => by
        first
          | exact absurd h19 (Int32.not_lt.mpr (nI_le (b := 998) z.1 (by omega)))
          | exact h55 (lg_eq.mpr (congrArg Int32.toInt64 z.2))
      rw [if_pos hj] at hv0
      exact ⟨by rw [hv0], hz⟩
    · refine zb1 L_firstNotSo_s22 rfl (by first | exact hvi | exact hvb) ?_
      rw [nI_add, e54, eb]
      refine zcallV L_firstNotSo_d42 k5_60 (by omega) (x_offOf hF (by omega) ho) rfl rfl rfl (Nat.le_of_ble_eq_true rfl) ?_
      rintro _ μ1 ⟨rfl, hz1⟩
      replace hz := hz.tr hz1
      replace ho := ho.q hz1
      refine zb1 L_firstNotSo_s45 rfl (by first | exact hvi | exact hvb) ?_
      have hcL2 : μ1.2.1 22 (nI i).toNatClampNeg = (cc i).toInt64 := by rw [ei, hz1.2]; exact hcL
      rw [hcL2]
      refine z_eq L_firstNotSo_d55 (tgt := 61) rfl (fun h55 => ?_) (fun h55 => ?_)
      · refine zb L_firstNotSo_s61 rfl ?_
        rw [nI_1]
        have hj : judP F b D h cc i := ⟨(nI_leI (b := 998) (by omega) (by omega)).mp (Int32.not_lt.mp h19), i64_inj (lg_eq.mp h55)⟩
        rw [if_neg (fun z => z hj)] at hv0
        exact ih (i + 1) _ (by omega) ho hz hv0
      · refine zb L_firstNotSo_s58 rfl ?_
        refine z_ret L_firstNotSo_d60 rfl ?_
        have hj : ¬ judP F b D h cc i := fun z => by
          first
            | exact absurd h19 (Int32.not_lt.mpr (nI_le (b := 998) z.1 (by omega)))
            | exact h55 (lg_eq.mpr (congrArg Int32.toInt64 z.2))
        rw [if_pos hj] at hv0
        exact ⟨by rw [hv0], hz⟩

set_option maxRecDepth 100000 in
set_option maxHeartbeats 4000000 in
theorem x_judgeN_3 {g : zG} {d : Nat} {F : zF} {μ0 : zMem} {b D : Nat} {h : Int32} {n : Nat} {cc : Nat → Int32} (hn : n ≤ 60) (hsz : μ0.1 16 3 = nI n) (hce : ∀ t, t < 60 → (μ0.2.1 22 t).toInt32 = cc t) (hrow : ∀ i, i < 60 → (cc i).toInt64 = μ0.2.1 22 i) (hF : okF F) (hb : b < fB F) (hD : D ≤ 998) (hd : 6 ≤ d) (ho : oX F μ0) : zM g d L_firstNotSo [.ref 5, .ref 16, .int (nI b), .int (nI D), .int h] μ0 (fun r μ' => r = some (.int (judW F b D h cc n)) ∧ zq sX μ0 μ') := by
  refine zM_of (by decide +kernel) rfl rfl (Nat.le_of_ble_eq_true rfl) rfl ?_
  refine zb L_firstNotSo_s0 rfl ?_
  exact w_judge_3 hn hsz hce hrow hF hb hD hd n 0 μ0 (by omega) ho zq.rf rfl

set_option maxRecDepth 100000 in
set_option maxHeartbeats 4000000 in
theorem xs_judge_3 {g : zG} {d : Nat} {S : zS} {μ : zMem} {b dh : Int32} (hF : okF S.1) (hd9 : 8 ≤ d) (hS : xS S μ) (hok : okH S) : zM g d X_judge [.ref 1, .int (nI 3), .int b, .int dh] μ (fun r μ' => r = some (.int (opJudge S (nI 3) b dh)) ∧ zq sX μ μ') := by
  refine zM_of (by decide +kernel) rfl rfl (Nat.le_of_ble_eq_true rfl) rfl ?_
  obtain ⟨ho, h2, hT, hC, hD, hI, hA, hH⟩ := hS
  have hS : xS S μ := ⟨ho, h2, hT, hC, hD, hI, hA, hH⟩
  have hb := ho.b
  have hv := ho.v
  have hB6 := ho.b6
  have hV12 := ho.v12
  have hz : zq sX μ μ := zq.rf
  have xs := xsh (s := 3) hS hok (by omega)
  have hF9 := hF
  refine zb X_judge_s0 rfl ?_
  refine zcallV X_judge_d2 k10_93 (by omega) (x_shelf_3 (by omega)) rfl rfl rfl (Nat.le_of_ble_eq_true rfl) ?_
  rintro _ μx ⟨rfl, hx⟩
  rw [hx]
  clear hx μx
  refine zb X_judge_s5 rfl ?_
  refine z_null X_judge_d9 ?_
  refine zb X_judge_s12 rfl ?_
  refine zcallV X_judge_d17 k10_167 (by omega) (x_hasBell _ ho) rfl rfl rfl (Nat.le_of_ble_eq_true rfl) ?_
  rintro _ μx ⟨rfl, hx⟩
  rw [hx]
  clear hx μx
  refine z_eq X_judge_d20 (tgt := 30) rfl (fun h20 => ?_) (fun h20 => ?_)
  · refine zb X_judge_s30 rfl ?_
    refine z_ret X_judge_d31 rfl ?_
    refine ⟨congrArg (fun z => some (Value.int z)) ?_, hz⟩
    unfold opJudge
    rw [show (nI 3).toNatClampNeg = 3 from rfl]
    first
      | rw [if_neg (fun z => (show ¬ isB S.1 b from zB_eq0.mp h20) z.2.1)]
      | rw [if_neg (fun z => (show ¬ tim dh from zB_eq0.mp h27) z.2.2)]
      | (rw [if_pos (And.intro (And.intro (by decide) (by decide)) (And.intro q1 q2))]
         unfold barW
         rw [if_neg (show ¬ hHeld S 3 = 0 by rw [g2.1]; decide), if_pos g2, em, nI_clamp (show m < 2 ^ 31 by omega), eb, eD, nI_clamp (show D < 2 ^ 31 by omega)])
      | (rw [if_pos (And.intro (And.intro (by decide) (by decide)) (And.intro (show isB S.1 b from zB_ne0.mp h20) (show tim dh from zB_ne0.mp h27)))]
         unfold barW
         by_cases z : bE 16 μ
         · rw [if_pos z]
           rcases xs with y | y | y
           · rw [if_pos y.1]
           · exact absurd z y.2.1
           · exact absurd z y.2.1
         · rw [if_neg z]
           rw [if_neg z] at h42
           by_cases u : bR 16 μ ∧ μ.1 16 2 = 1
           · rw [if_pos u] at h42; exact absurd rfl h42
           · rw [if_neg u]
             rcases xs with y | y | y
             · exact absurd y.2.1 z
             · rw [y.1, if_neg (by decide), if_neg (fun v => absurd v.1 (by decide))]
             · rw [y.1, if_neg (by decide), if_neg (fun v => u ⟨y.2.2.1, y.2.2.2.1.trans v.2⟩)])
  · refine zb X_judge_s23 rfl ?_
    refine zcallS X_judge_d24 k10_160 (by omega) (x_isDayHour _) rfl rfl (Nat.le_of_ble_eq_true rfl) ?_
    rintro _ μx ⟨rfl, hx⟩
    rw [hx]
    clear hx μx
    refine z_ne X_judge_d27 (tgt := 32) rfl (fun h27 => ?_) (fun h27 => ?_)
    · refine zb X_judge_s32 rfl ?_
      refine zcallV X_judge_d35 k10_247 (by omega) (x_refFor_3 (by omega)) rfl rfl rfl (Nat.le_of_ble_eq_true rfl) ?_
      rintro _ μx ⟨rfl, hx⟩
      rw [hx]
      clear hx μx
      refine zb X_judge_s38 rfl ?_
      refine z_eq X_judge_d42 (tgt := 50) rfl (fun h42 => ?_) (fun h42 => ?_)
      · have g1 : ¬ bE 16 μ ∧ bR 16 μ ∧ μ.1 16 2 = 1 := by
          by_cases z : bE 16 μ
          · rw [if_pos z] at h42; exact absurd h42 (by decide)
          · rw [if_neg z] at h42
            by_cases y : bR 16 μ ∧ μ.1 16 2 = 1
            · exact ⟨z, y⟩
            · rw [if_neg y] at h42; exact absurd h42 (by decide)
        have g2 : hHeld S 3 = 2 ∧ hSort S 3 = 1 := by
          rcases xs with z | z | z
          · exact absurd z.2.1 g1.1
          · exact absurd g1.2.1 z.2.2.1
          · exact And.intro z.1 (z.2.2.2.1.symm.trans g1.2.2)
        obtain ⟨m, hm, em, hrow⟩ : ∃ m, m ≤ 60 ∧ hSize S 3 = nI m ∧ (∀ i, i < 60 → (hInt S 3 i).toInt64 = hCell S 3 i) := by
          rcases hok 3 (by omega) with z | z | z
          · rw [g2.1] at z; exact absurd z (by decide)
          · rw [g2.1] at z; exact absurd z.1 (by decide)
          · obtain ⟨m, h1, h2⟩ := z.2.2.1
            exact ⟨m, h1, h2, z.2.2.2 g2.2⟩
        have hszS : μ.1 16 3 = nI m := (xS_hz (s := 3) hS (by omega) g2.1).trans em
        have hceS : ∀ t, t < 60 → (μ.2.1 22 t).toInt32 = hInt S 3 t := xS_hc (s := 3) hS (by omega)
        have q1 : isB S.1 b := zB_ne0.mp h20
        have q2 : tim dh := zB_ne0.mp h27
        obtain ⟨b, hbB, rfl, eb⟩ := zix q1.1 q1.2 (by omega)
        obtain ⟨D, hD, eD⟩ := nI_of2 (M := 998) (n := 998) rfl (Int32.not_lt.mpr (tim_nn q2)) q2.2.1
        have hrow2 : ∀ i, i < 60 → (hInt S 3 i).toInt64 = μ.2.1 22 i := fun i hi => (hrow i hi).trans ((hS.2.2.2.2.2.2.2 3 (by omega)).2 i hi).symm
        refine zb2 X_judge_s50 rfl (by decide) (by decide) ?_
        rw [show dh - dh / 100 * 100 = hro dh from rfl, eD]
        refine zcallV X_judge_d65 k10_254 (by omega) (x_judgeN_3 (h := hro dh) hm hszS hceS hrow2 hF hbB hD (by omega) ho) rfl rfl rfl (Nat.le_of_ble_eq_true rfl) ?_
        rintro _ μ1 ⟨rfl, hz1⟩
        replace hz := hz.tr hz1
        replace ho := ho.q hz1
        clear hz1
        refine z_ret X_judge_d68 rfl ?_
        refine ⟨congrArg (fun z => some (Value.int z)) ?_, hz⟩
        unfold opJudge
        rw [show (nI 3).toNatClampNeg = 3 from rfl]
        first
          | rw [if_neg (fun z => (show ¬ isB S.1 b from zB_eq0.mp h20) z.2.1)]
          | rw [if_neg (fun z => (show ¬ tim dh from zB_eq0.mp h27) z.2.2)]
          | (rw [if_pos (And.intro (And.intro (by decide) (by decide)) (And.intro q1 q2))]
             unfold barW
             rw [if_neg (show ¬ hHeld S 3 = 0 by rw [g2.1]; decide), if_pos g2, em, nI_clamp (show m < 2 ^ 31 by omega), eb, eD, nI_clamp (show D < 2 ^ 31 by omega)])
          | (rw [if_pos (And.intro (And.intro (by decide) (by decide)) (And.intro (show isB S.1 b from zB_ne0.mp h20) (show tim dh from zB_ne0.mp h27)))]
             unfold barW
             by_cases z : bE 16 μ
             · rw [if_pos z]
               rcases xs with y | y | y
               · rw [if_pos y.1]
               · exact absurd z y.2.1
               · exact absurd z y.2.1
             · rw [if_neg z]
               rw [if_neg z] at h42
               by_cases u : bR 16 μ ∧ μ.1 16 2 = 1
               · rw [if_pos u] at h42; exact absurd rfl h42
               · rw [if_neg u]
                 rcases xs with y | y | y
                 · exact absurd y.2.1 z
                 · rw [y.1, if_neg (by decide), if_neg (fun v => absurd v.1 (by decide))]
                 · rw [y.1, if_neg (by decide), if_neg (fun v => u ⟨y.2.2.1, y.2.2.2.1.trans v.2⟩)])
      · refine zb X_judge_s45 rfl ?_
        refine z_ret X_judge_d68 rfl ?_
        refine ⟨congrArg (fun z => some (Value.int z)) ?_, hz⟩
        unfold opJudge
        rw [show (nI 3).toNatClampNeg = 3 from rfl]
        first
          | rw [if_neg (fun z => (show ¬ isB S.1 b from zB_eq0.mp h20) z.2.1)]
          | rw [if_neg (fun z => (show ¬ tim dh from zB_eq0.mp h27) z.2.2)]
          | (rw [if_pos (And.intro (And.intro (by decide) (by decide)) (And.intro q1 q2))]
             unfold barW
             rw [if_neg (show ¬ hHeld S 3 = 0 by rw [g2.1]; decide), if_pos g2, em, nI_clamp (show m < 2 ^ 31 by omega), eb, eD, nI_clamp (show D < 2 ^ 31 by omega)])
          | (rw [if_pos (And.intro (And.intro (by decide) (by decide)) (And.intro (show isB S.1 b from zB_ne0.mp h20) (show tim dh from zB_ne0.mp h27)))]
             unfold barW
             by_cases z : bE 16 μ
             · rw [if_pos z]
               rcases xs with y | y | y
               · rw [if_pos y.1]
               · exact absurd z y.2.1
               · exact absurd z y.2.1
             · rw [if_neg z]
               rw [if_neg z] at h42
               by_cases u : bR 16 μ ∧ μ.1 16 2 = 1
               · rw [if_pos u] at h42; exact absurd rfl h42
               · rw [if_neg u]
                 rcases xs with y | y | y
                 · exact absurd y.2.1 z
                 · rw [y.1, if_neg (by decide), if_neg (fun v => absurd v.1 (by decide))]
                 · rw [y.1, if_neg (by decide), if_neg (fun v => u ⟨y.2.2.1, y.2.2.2.1.trans v.2⟩)])
    · refine zb X_judge_s30 rfl ?_
      refine z_ret X_judge_d31 rfl ?_
      refine ⟨congrArg (fun z => some (Value.int z)) ?_, hz⟩
      unfold opJudge
      rw [show (nI 3).toNatClampNeg = 3 from rfl]
      first
        | rw [if_neg (fun z => (show ¬ isB S.1 b from zB_eq0.mp h20) z.2.1)]
        | rw [if_neg (fun z => (show ¬ tim dh from zB_eq0.mp h27) z.2.2)]
        | (rw [if_pos (And.intro (And.intro (by decide) (by decide)) (And.intro q1 q2))]
           unfold barW
           rw [if_neg (show ¬ hHeld S 3 = 0 by rw [g2.1]; decide), if_pos g2, em, nI_clamp (show m < 2 ^ 31 by omega), eb, eD, nI_clamp (show D < 2 ^ 31 by omega)])
        | (rw [if_pos (And.intro (And.intro (by decide) (by decide)) (And.intro (show isB S.1 b from zB_ne0.mp h20) (show tim dh from zB_ne0.mp h27)))]
           unfold barW
           by_cases z : bE 16 μ
           · rw [if_pos z]
             rcases xs with y | y | y
             · rw [if_pos y.1]
             · exact absurd z y.2.1
             · exact absurd z y.2.1
           · rw [if_neg z]
             rw [if_neg z] at h42
             by_cases u : bR 16 μ ∧ μ.1 16 2 = 1
             · rw [if_pos u] at h42; exact absurd rfl h42
             · rw [if_neg u]
               rcases xs with y | y | y
               · exact absurd y.2.1 z
               · rw [y.1, if_neg (by decide), if_neg (fun v => absurd v.1 (by decide))]
               · rw [y.1, if_neg (by decide), if_neg (fun v => u ⟨y.2.2.1, y.2.2.2.1.trans v.2⟩)])

set_option maxRecDepth 100000 in
set_option maxHeartbeats 4000000 in
theorem x_refFor_4 {g : zG} {d : Nat} {μ : zMem} {p : Int32} (hd : 2 ≤ d) : zM g d S_refusalFor [.ref 17, .int p] μ (fun r μ' => r = some (.int (if bE 17 μ then -11 else if bR 17 μ ∧ μ.1 17 2 = p then 0 else -12)) ∧ μ' = μ) := by
  refine zM_of (by decide +kernel) rfl rfl (Nat.le_of_ble_eq_true rfl) rfl ?_
  refine zb S_refusalFor_s0 rfl ?_
  refine zcallV S_refusalFor_d1 k8_29 (by omega) (x_isEmpty_4) rfl rfl rfl (Nat.le_of_ble_eq_true rfl) ?_
  rintro _ μx ⟨rfl, hx⟩
  rw [hx]
  clear hx μx
  refine z_eq S_refusalFor_d4 (tgt := 10) rfl (fun h4 => ?_) (fun h4 => ?_)
  · refine zb S_refusalFor_s10 rfl ?_
    refine zcallV S_refusalFor_d12 k8_32 (by omega) (x_isRowOf_4 _ (by omega)) rfl rfl rfl (Nat.le_of_ble_eq_true rfl) ?_
    rintro _ μx ⟨rfl, hx⟩
    rw [hx]
    clear hx μx
    refine z_eq S_refusalFor_d15 (tgt := 22) rfl (fun h15 => ?_) (fun h15 => ?_)
    · refine zb S_refusalFor_s22 rfl ?_
      refine z_ret S_refusalFor_d24 rfl ?_
      refine ⟨?_, rfl⟩
      first
        | (rw [if_pos (show bE 17 μ from zB_ne0.mp h4)]; done)
        | (rw [if_neg (show ¬ bE 17 μ from zB_eq0.mp h4), if_pos (show bR 17 μ ∧ μ.1 17 2 = p from zB_ne0.mp h15)]; done)
        | (rw [if_neg (show ¬ bE 17 μ from zB_eq0.mp h4), if_neg (show ¬ (bR 17 μ ∧ μ.1 17 2 = p) from zB_eq0.mp h15)]; done)
    · refine zb S_refusalFor_s18 rfl ?_
      refine z_ret S_refusalFor_d24 rfl ?_
      refine ⟨?_, rfl⟩
      first
        | (rw [if_pos (show bE 17 μ from zB_ne0.mp h4)]; done)
        | (rw [if_neg (show ¬ bE 17 μ from zB_eq0.mp h4), if_pos (show bR 17 μ ∧ μ.1 17 2 = p from zB_ne0.mp h15)]; done)
        | (rw [if_neg (show ¬ bE 17 μ from zB_eq0.mp h4), if_neg (show ¬ (bR 17 μ ∧ μ.1 17 2 = p) from zB_eq0.mp h15)]; done)
  · refine zb S_refusalFor_s7 rfl ?_
    refine z_ret S_refusalFor_d9 rfl ?_
    refine ⟨?_, rfl⟩
    first
      | (rw [if_pos (show bE 17 μ from zB_ne0.mp h4)]; done)
      | (rw [if_neg (show ¬ bE 17 μ from zB_eq0.mp h4), if_pos (show bR 17 μ ∧ μ.1 17 2 = p from zB_ne0.mp h15)]; done)
      | (rw [if_neg (show ¬ bE 17 μ from zB_eq0.mp h4), if_neg (show ¬ (bR 17 μ ∧ μ.1 17 2 = p) from zB_eq0.mp h15)]; done)

set_option maxRecDepth 100000 in
set_option maxHeartbeats 4000000 in
theorem w_strike_4 {g : zG} {d : Nat} {F : zF} {μ0 : zMem} {dd h w : Int32} {n : Nat} {cc : Nat → Int32} (hn : n ≤ 60) (hsz : μ0.1 17 3 = nI n) (hce : ∀ t, t < 60 → (μ0.2.1 23 t).toInt32 = cc t) (hF : okF F) (hdd : 0 ≤ dd) (hd : 7 ≤ d) : ∀ (j i : Nat) (all : Int32) (bell : Int32) (most : Int32) (x9 : Option Value) (μ : zMem), i + j = fB F → oX F μ → zq sX μ0 μ → (all = strA F dd h n cc i) → ((bell, most) = strM F dd h n cc i) → zW g L_nextToStrike d 14 [some (.ref 5), some (.ref 17), some (.int h), some (.int dd), some (.int w), some (.int all), some (.int bell), some (.int most), some (.int (nI i)), x9] [] μ (fun r μ' => r = some (.int (strC F dd h n cc w)) ∧ zq sX μ0 μ') := by
  intro j
  induction j with
  | zero =>
    intro i all bell most x9 μ hi ho hz hv0 hv1
    have hbd := ho.b
    have h12 := ho.v12
    have h6 := ho.b6
    have hsz2 : μ.1 17 3 = nI n := by rw [hz.1 17 3 rfl]; exact hsz
    have hce2 : ∀ t, t < 60 → (μ.2.1 23 t).toInt32 = cc t := fun t ht => by rw [hz.2]; exact hce t ht
    have hi : fB F = i := by omega
    subst hi
    refine zb L_nextToStrike_s14 rfl ?_
    refine z_cge L_nextToStrike_d23 (tgt := 104) rfl (fun h23 => ?_) (fun h23 => absurd (show μ.1 2 7 ≤ nI (fB F) by first | exact Int32.le_refl _ | (rw [hbd]; exact Int32.le_refl _)) h23)
    refine zb L_nextToStrike_s104 rfl ?_
    refine z_ne L_nextToStrike_d106 (tgt := 112) rfl (fun h106 => ?_) (fun h106 => ?_)
    · refine zb L_nextToStrike_s112 rfl ?_
      refine z_ne L_nextToStrike_d114 (tgt := 120) rfl (fun h114 => ?_) (fun h114 => ?_)
      · refine zb L_nextToStrike_s120 rfl ?_
        refine z_cne L_nextToStrike_d123 (tgt := 131) rfl (fun h123 => ?_) (fun h123 => ?_)
        · refine zb L_nextToStrike_s131 rfl ?_
          refine z_ret L_nextToStrike_d133 rfl ?_
          refine ⟨congrArg (fun z => some (Value.int z)) ?_, hz⟩
          unfold strC
          rw [hv0] at *
          first
            | (rw [if_pos h106]; done)
            | (rw [if_neg h106, if_pos h114]; done)
            | (rw [if_neg h106, if_neg h114, if_pos h123, ← hv1]; done)
            | (rw [if_neg h106, if_neg h114, if_neg h123, ← hv1]; done)
        · refine zb L_nextToStrike_s126 rfl ?_
          refine z_ret L_nextToStrike_d133 rfl ?_
          refine ⟨congrArg (fun z => some (Value.int z)) ?_, hz⟩
          unfold strC
          rw [hv0] at *
          first
            | (rw [if_pos h106]; done)
            | (rw [if_neg h106, if_pos h114]; done)
            | (rw [if_neg h106, if_neg h114, if_pos h123, ← hv1]; done)
            | (rw [if_neg h106, if_neg h114, if_neg h123, ← hv1]; done)
      · refine zb L_nextToStrike_s117 rfl ?_
        refine z_ret L_nextToStrike_d119 rfl ?_
        refine ⟨congrArg (fun z => some (Value.int z)) ?_, hz⟩
        unfold strC
        rw [hv0] at *
        first
          | (rw [if_pos h106]; done)
          | (rw [if_neg h106, if_pos h114]; done)
          | (rw [if_neg h106, if_neg h114, if_pos h123, ← hv1]; done)
          | (rw [if_neg h106, if_neg h114, if_neg h123, ← hv1]; done)
    · refine zb L_nextToStrike_s109 rfl ?_
      refine z_ret L_nextToStrike_d111 rfl ?_
      refine ⟨congrArg (fun z => some (Value.int z)) ?_, hz⟩
      unfold strC
      rw [hv0] at *
      first
        | (rw [if_pos h106]; done)
        | (rw [if_neg h106, if_pos h114]; done)
        | (rw [if_neg h106, if_neg h114, if_pos h123, ← hv1]; done)
        | (rw [if_neg h106, if_neg h114, if_neg h123, ← hv1]; done)
  | succ j ih =>
    intro i all bell most x9 μ hi ho hz hv0 hv1
    have hbd := ho.b
    have h12 := ho.v12
    have h6 := ho.b6
    have hsz2 : μ.1 17 3 = nI n := by rw [hz.1 17 3 rfl]; exact hsz
    have hce2 : ∀ t, t < 60 → (μ.2.1 23 t).toInt32 = cc t := fun t ht => by rw [hz.2]; exact hce t ht
    have hilt : i < fB F := by omega
    have ei : (nI i).toNatClampNeg = i := nI_clamp (by omega)
    have hi60 : i < 60 := by omega
    have hvi : vp_in (nI i) 60 := vp_in_nI (by omega) (by omega)
    have hci := hce2 i hi60
    refine zb L_nextToStrike_s14 rfl ?_
    refine z_cge L_nextToStrike_d23 (tgt := 104) rfl (fun h23 => absurd h23 (show ¬ μ.1 2 7 ≤ nI i by first | exact nI_ge hilt (by omega) | (rw [hbd]; exact nI_ge hilt (by omega)))) (fun h23 => ?_)
    refine zb L_nextToStrike_s26 rfl ?_
    refine z_cge L_nextToStrike_d32 (tgt := 46) rfl (fun h32 => ?_) (fun h32 => ?_)
    · refine zb L_nextToStrike_s46 rfl ?_
      refine z_ceq L_nextToStrike_d57 (tgt := 64) rfl (fun h57 => ?_) (fun h57 => ?_)
      · refine zb L_nextToStrike_s64 rfl ?_
        refine zcallV L_nextToStrike_d67 k5_114 (by omega) (x_hear (b := i) hF hdd (by omega) hilt ho) rfl rfl rfl (Nat.le_of_ble_eq_true rfl) ?_
        rintro _ μ1 ⟨rfl, hz1, l0, hr⟩
        replace hz := hz.tr hz1
        replace ho := ho.q hz1
        refine zb L_nextToStrike_s70 rfl ?_
        refine z_cle L_nextToStrike_d85 (tgt := 98) rfl (fun h85 => ?_) (fun h85 => ?_)
        · refine zb L_nextToStrike_s98 rfl ?_
          rw [nI_1]
          rw [hsz2] at h32
          have hlc : lyC F dd h n cc i = (μ1.1 5 6, μ1.1 5 7) := by
            first
              | (have hlt : i < n := (nI_ltI (by omega) (by omega)).mp (Int32.not_le.mp h32)
                 have k := tp_in (c := cc) hlt
                 rw [ei, hci] at h57 hr
                 first
                   | exact lyC_is (k.2.1 h57) k.1 hr.1 hr.2.1
                   | exact lyC_is (k.2.2 h57) k.1 hr.1 hr.2.1)
              | (have hge : ¬ i < n := fun z => absurd h32 (nI_ge z (by omega))
                 have k := tp_out (c := cc) hge
                 exact lyC_is k.2 k.1 hr.1 hr.2.1)
              | exact absurd rfl h57
          have hsA : strA F dd h n cc (i + 1) = all * μ1.1 5 6 := by
            unfold strA at hv0 ⊢
            rw [zf0, ← hv0, hlc]
          have hsM : strM F dd h n cc (i + 1) = if most < μ1.1 5 7 then (nI i, μ1.1 5 7) else (bell, most) := by
            unfold strM at hv1 ⊢
            rw [zf0, ← hv1, hlc]
          first
            | exact ih (i + 1) _ _ _ _ _ (by omega) ho hz hsA.symm (by rw [hsM, if_pos (Int32.not_le.mp h85)])
            | exact ih (i + 1) _ _ _ _ _ (by omega) ho hz hsA.symm (by rw [hsM, if_neg (Int32.not_lt.mpr h85)])
        · refine zb L_nextToStrike_s88 rfl ?_
          rw [nI_1]
          rw [hsz2] at h32
          have hlc : lyC F dd h n cc i = (μ1.1 5 6, μ1.1 5 7) := by
            first
              | (have hlt : i < n := (nI_ltI (by omega) (by omega)).mp (Int32.not_le.mp h32)
                 have k := tp_in (c := cc) hlt
                 rw [ei, hci] at h57 hr
                 first
                   | exact lyC_is (k.2.1 h57) k.1 hr.1 hr.2.1
                   | exact lyC_is (k.2.2 h57) k.1 hr.1 hr.2.1)
              | (have hge : ¬ i < n := fun z => absurd h32 (nI_ge z (by omega))
                 have k := tp_out (c := cc) hge
                 exact lyC_is k.2 k.1 hr.1 hr.2.1)
              | exact absurd rfl h57
          have hsA : strA F dd h n cc (i + 1) = all * μ1.1 5 6 := by
            unfold strA at hv0 ⊢
            rw [zf0, ← hv0, hlc]
          have hsM : strM F dd h n cc (i + 1) = if most < μ1.1 5 7 then (nI i, μ1.1 5 7) else (bell, most) := by
            unfold strM at hv1 ⊢
            rw [zf0, ← hv1, hlc]
          first
            | exact ih (i + 1) _ _ _ _ _ (by omega) ho hz hsA.symm (by rw [hsM, if_pos (Int32.not_le.mp h85)])
            | exact ih (i + 1) _ _ _ _ _ (by omega) ho hz hsA.symm (by rw [hsM, if_neg (Int32.not_lt.mpr h85)])
      · refine zb L_nextToStrike_s60 rfl ?_
        refine zcallV L_nextToStrike_d67 k5_114 (by omega) (x_hear (b := i) hF hdd (by omega) hilt ho) rfl rfl rfl (Nat.le_of_ble_eq_true rfl) ?_
        rintro _ μ1 ⟨rfl, hz1, l0, hr⟩
        replace hz := hz.tr hz1
        replace ho := ho.q hz1
        refine zb L_nextToStrike_s70 rfl ?_
        refine z_cle L_nextToStrike_d85 (tgt := 98) rfl (fun h85 => ?_) (fun h85 => ?_)
        · refine zb L_nextToStrike_s98 rfl ?_
          rw [nI_1]
          rw [hsz2] at h32
          have hlc : lyC F dd h n cc i = (μ1.1 5 6, μ1.1 5 7) := by
            first
              | (have hlt : i < n := (nI_ltI (by omega) (by omega)).mp (Int32.not_le.mp h32)
                 have k := tp_in (c := cc) hlt
                 rw [ei, hci] at h57 hr
                 first
                   | exact lyC_is (k.2.1 h57) k.1 hr.1 hr.2.1
                   | exact lyC_is (k.2.2 h57) k.1 hr.1 hr.2.1)
              | (have hge : ¬ i < n := fun z => absurd h32 (nI_ge z (by omega))
                 have k := tp_out (c := cc) hge
                 exact lyC_is k.2 k.1 hr.1 hr.2.1)
              | exact absurd rfl h57
          have hsA : strA F dd h n cc (i + 1) = all * μ1.1 5 6 := by
            unfold strA at hv0 ⊢
            rw [zf0, ← hv0, hlc]
          have hsM : strM F dd h n cc (i + 1) = if most < μ1.1 5 7 then (nI i, μ1.1 5 7) else (bell, most) := by
            unfold strM at hv1 ⊢
            rw [zf0, ← hv1, hlc]
          first
            | exact ih (i + 1) _ _ _ _ _ (by omega) ho hz hsA.symm (by rw [hsM, if_pos (Int32.not_le.mp h85)])
            | exact ih (i + 1) _ _ _ _ _ (by omega) ho hz hsA.symm (by rw [hsM, if_neg (Int32.not_lt.mpr h85)])
        · refine zb L_nextToStrike_s88 rfl ?_
          rw [nI_1]
          rw [hsz2] at h32
          have hlc : lyC F dd h n cc i = (μ1.1 5 6, μ1.1 5 7) := by
            first
              | (have hlt : i < n := (nI_ltI (by omega) (by omega)).mp (Int32.not_le.mp h32)
                 have k := tp_in (c := cc) hlt
                 rw [ei, hci] at h57 hr
                 first
                   | exact lyC_is (k.2.1 h57) k.1 hr.1 hr.2.1
                   | exact lyC_is (k.2.2 h57) k.1 hr.1 hr.2.1)
              | (have hge : ¬ i < n := fun z => absurd h32 (nI_ge z (by omega))
                 have k := tp_out (c := cc) hge
                 exact lyC_is k.2 k.1 hr.1 hr.2.1)
              | exact absurd rfl h57
          have hsA : strA F dd h n cc (i + 1) = all * μ1.1 5 6 := by
            unfold strA at hv0 ⊢
            rw [zf0, ← hv0, hlc]
          have hsM : strM F dd h n cc (i + 1) = if most < μ1.1 5 7 then (nI i, μ1.1 5 7) else (bell, most) := by
            unfold strM at hv1 ⊢
            rw [zf0, ← hv1, hlc]
          first
            | exact ih (i + 1) _ _ _ _ _ (by omega) ho hz hsA.symm (by rw [hsM, if_pos (Int32.not_le.mp h85)])
            | exact ih (i + 1) _ _ _ _ _ (by omega) ho hz hsA.symm (by rw [hsM, if_neg (Int32.not_lt.mpr h85)])
    · refine zb1 L_nextToStrike_s35 rfl (by first | exact hvi | (rw [ei]; exact hvi)) ?_
      refine z_ceq L_nextToStrike_d57 (tgt := 64) rfl (fun h57 => ?_) (fun h57 => ?_)
      · refine zb L_nextToStrike_s64 rfl ?_
        refine zcallV L_nextToStrike_d67 k5_114 (by omega) (x_hear (b := i) hF hdd (by omega) hilt ho) rfl rfl rfl (Nat.le_of_ble_eq_true rfl) ?_
        rintro _ μ1 ⟨rfl, hz1, l0, hr⟩
        replace hz := hz.tr hz1
        replace ho := ho.q hz1
        refine zb L_nextToStrike_s70 rfl ?_
        refine z_cle L_nextToStrike_d85 (tgt := 98) rfl (fun h85 => ?_) (fun h85 => ?_)
        · refine zb L_nextToStrike_s98 rfl ?_
          rw [nI_1]
          rw [hsz2] at h32
          have hlc : lyC F dd h n cc i = (μ1.1 5 6, μ1.1 5 7) := by
            first
              | (have hlt : i < n := (nI_ltI (by omega) (by omega)).mp (Int32.not_le.mp h32)
                 have k := tp_in (c := cc) hlt
                 rw [ei, hci] at h57 hr
                 first
                   | exact lyC_is (k.2.1 h57) k.1 hr.1 hr.2.1
                   | exact lyC_is (k.2.2 h57) k.1 hr.1 hr.2.1)
              | (have hge : ¬ i < n := fun z => absurd h32 (nI_ge z (by omega))
                 have k := tp_out (c := cc) hge
                 exact lyC_is k.2 k.1 hr.1 hr.2.1)
              | exact absurd rfl h57
          have hsA : strA F dd h n cc (i + 1) = all * μ1.1 5 6 := by
            unfold strA at hv0 ⊢
            rw [zf0, ← hv0, hlc]
          have hsM : strM F dd h n cc (i + 1) = if most < μ1.1 5 7 then (nI i, μ1.1 5 7) else (bell, most) := by
            unfold strM at hv1 ⊢
            rw [zf0, ← hv1, hlc]
          first
            | exact ih (i + 1) _ _ _ _ _ (by omega) ho hz hsA.symm (by rw [hsM, if_pos (Int32.not_le.mp h85)])
            | exact ih (i + 1) _ _ _ _ _ (by omega) ho hz hsA.symm (by rw [hsM, if_neg (Int32.not_lt.mpr h85)])
        · refine zb L_nextToStrike_s88 rfl ?_
          rw [nI_1]
          rw [hsz2] at h32
          have hlc : lyC F dd h n cc i = (μ1.1 5 6, μ1.1 5 7) := by
            first
              | (have hlt : i < n := (nI_ltI (by omega) (by omega)).mp (Int32.not_le.mp h32)
                 have k := tp_in (c := cc) hlt
                 rw [ei, hci] at h57 hr
                 first
                   | exact lyC_is (k.2.1 h57) k.1 hr.1 hr.2.1
                   | exact lyC_is (k.2.2 h57) k.1 hr.1 hr.2.1)
              | (have hge : ¬ i < n := fun z => absurd h32 (nI_ge z (by omega))
                 have k := tp_out (c := cc) hge
                 exact lyC_is k.2 k.1 hr.1 hr.2.1)
              | exact absurd rfl h57
          have hsA : strA F dd h n cc (i + 1) = all * μ1.1 5 6 := by
            unfold strA at hv0 ⊢
            rw [zf0, ← hv0, hlc]
          have hsM : strM F dd h n cc (i + 1) = if most < μ1.1 5 7 then (nI i, μ1.1 5 7) else (bell, most) := by
            unfold strM at hv1 ⊢
            rw [zf0, ← hv1, hlc]
          first
            | exact ih (i + 1) _ _ _ _ _ (by omega) ho hz hsA.symm (by rw [hsM, if_pos (Int32.not_le.mp h85)])
            | exact ih (i + 1) _ _ _ _ _ (by omega) ho hz hsA.symm (by rw [hsM, if_neg (Int32.not_lt.mpr h85)])
      · refine zb L_nextToStrike_s60 rfl ?_
        refine zcallV L_nextToStrike_d67 k5_114 (by omega) (x_hear (b := i) hF hdd (by omega) hilt ho) rfl rfl rfl (Nat.le_of_ble_eq_true rfl) ?_
        rintro _ μ1 ⟨rfl, hz1, l0, hr⟩
        replace hz := hz.tr hz1
        replace ho := ho.q hz1
        refine zb L_nextToStrike_s70 rfl ?_
        refine z_cle L_nextToStrike_d85 (tgt := 98) rfl (fun h85 => ?_) (fun h85 => ?_)
        · refine zb L_nextToStrike_s98 rfl ?_
          rw [nI_1]
          rw [hsz2] at h32
          have hlc : lyC F dd h n cc i = (μ1.1 5 6, μ1.1 5 7) := by
            first
              | (have hlt : i < n := (nI_ltI (by omega) (by omega)).mp (Int32.not_le.mp h32)
                 have k := tp_in (c := cc) hlt
                 rw [ei, hci] at h57 hr
                 first
                   | exact lyC_is (k.2.1 h57) k.1 hr.1 hr.2.1
                   | exact lyC_is (k.2.2 h57) k.1 hr.1 hr.2.1)
              | (have hge : ¬ i < n := fun z => absurd h32 (nI_ge z (by omega))
                 have k := tp_out (c := cc) hge
                 exact lyC_is k.2 k.1 hr.1 hr.2.1)
              | exact absurd rfl h57
          have hsA : strA F dd h n cc (i + 1) = all * μ1.1 5 6 := by
            unfold strA at hv0 ⊢
            rw [zf0, ← hv0, hlc]
          have hsM : strM F dd h n cc (i + 1) = if most < μ1.1 5 7 then (nI i, μ1.1 5 7) else (bell, most) := by
            unfold strM at hv1 ⊢
            rw [zf0, ← hv1, hlc]
          first
            | exact ih (i + 1) _ _ _ _ _ (by omega) ho hz hsA.symm (by rw [hsM, if_pos (Int32.not_le.mp h85)])
            | exact ih (i + 1) _ _ _ _ _ (by omega) ho hz hsA.symm (by rw [hsM, if_neg (Int32.not_lt.mpr h85)])
        · refine zb L_nextToStrike_s88 rfl ?_
          rw [nI_1]
          rw [hsz2] at h32
          have hlc : lyC F dd h n cc i = (μ1.1 5 6, μ1.1 5 7) := by
            first
              | (have hlt : i < n := (nI_ltI (by omega) (by omega)).mp (Int32.not_le.mp h32)
                 have k := tp_in (c := cc) hlt
                 rw [ei, hci] at h57 hr
                 first
                   | exact lyC_is (k.2.1 h57) k.1 hr.1 hr.2.1
                   | exact lyC_is (k.2.2 h57) k.1 hr.1 hr.2.1)
              | (have hge : ¬ i < n := fun z => absurd h32 (nI_ge z (by omega))
                 have k := tp_out (c := cc) hge
                 exact lyC_is k.2 k.1 hr.1 hr.2.1)
              | exact absurd rfl h57
          have hsA : strA F dd h n cc (i + 1) = all * μ1.1 5 6 := by
            unfold strA at hv0 ⊢
            rw [zf0, ← hv0, hlc]
          have hsM : strM F dd h n cc (i + 1) = if most < μ1.1 5 7 then (nI i, μ1.1 5 7) else (bell, most) := by
            unfold strM at hv1 ⊢
            rw [zf0, ← hv1, hlc]
          first
            | exact ih (i + 1) _ _ _ _ _ (by omega) ho hz hsA.symm (by rw [hsM, if_pos (Int32.not_le.mp h85)])
            | exact ih (i + 1) _ _ _ _ _ (by omega) ho hz hsA.symm (by rw [hsM, if_neg (Int32.not_lt.mpr h85)])

set_option maxRecDepth 100000 in
set_option maxHeartbeats 4000000 in
theorem x_strikeN_4 {g : zG} {d : Nat} {F : zF} {μ0 : zMem} {dd h w : Int32} {n : Nat} {cc : Nat → Int32} (hn : n ≤ 60) (hsz : μ0.1 17 3 = nI n) (hce : ∀ t, t < 60 → (μ0.2.1 23 t).toInt32 = cc t) (hF : okF F) (hdd : 0 ≤ dd) (hd : 7 ≤ d) (ho : oX F μ0) : zM g d L_nextToStrike [.ref 5, .ref 17, .int h, .int dd, .int w] μ0 (fun r μ' => r = some (.int (strC F dd h n cc w)) ∧ zq sX μ0 μ') := by
  refine zM_of (by decide +kernel) rfl rfl (Nat.le_of_ble_eq_true rfl) rfl ?_
  refine zb L_nextToStrike_s0 rfl ?_
  exact w_strike_4 hn hsz hce hF hdd hd (fB F) 0 _ _ _ _ μ0 (by omega) ho zq.rf rfl rfl

set_option maxRecDepth 100000 in
set_option maxHeartbeats 4000000 in
theorem xs_strike_4 {g : zG} {d : Nat} {S : zS} {μ : zMem} {hd w : Int32} (hF : okF S.1) (hd9 : 8 ≤ d) (hS : xS S μ) (hok : okH S) : zM g d X_strike [.ref 1, .int (nI 4), .int hd, .int w] μ (fun r μ' => r = some (.int (opStrike S (nI 4) hd w)) ∧ zq sX μ μ') := by
  refine zM_of (by decide +kernel) rfl rfl (Nat.le_of_ble_eq_true rfl) rfl ?_
  obtain ⟨ho, h2, hT, hC, hD, hI, hA, hH⟩ := hS
  have hS : xS S μ := ⟨ho, h2, hT, hC, hD, hI, hA, hH⟩
  have hb := ho.b
  have hv := ho.v
  have hB6 := ho.b6
  have hV12 := ho.v12
  have hz : zq sX μ μ := zq.rf
  have xs := xsh (s := 4) hS hok (by omega)
  have hF9 := hF
  refine zb X_strike_s0 rfl ?_
  refine zcallV X_strike_d2 k10_93 (by omega) (x_shelf_4 (by omega)) rfl rfl rfl (Nat.le_of_ble_eq_true rfl) ?_
  rintro _ μx ⟨rfl, hx⟩
  rw [hx]
  clear hx μx
  refine zb X_strike_s5 rfl ?_
  refine z_null X_strike_d9 ?_
  refine zb X_strike_s12 rfl ?_
  refine zcallS X_strike_d13 k10_237 (by omega) (x_isHourDays _) rfl rfl (Nat.le_of_ble_eq_true rfl) ?_
  rintro _ μx ⟨rfl, hx⟩
  rw [hx]
  clear hx μx
  refine z_eq X_strike_d16 (tgt := 27) rfl (fun h16 => ?_) (fun h16 => ?_)
  · refine zb X_strike_s27 rfl ?_
    refine z_ret X_strike_d28 rfl ?_
    refine ⟨congrArg (fun z => some (Value.int z)) ?_, hz⟩
    unfold opStrike
    rw [show (nI 4).toNatClampNeg = 4 from rfl]
    first
      | rw [if_neg (fun z => (show ¬ htim hd from zB_eq0.mp h16) z.2.1)]
      | rw [if_neg (fun z => (show ¬ (0 ≤ w ∧ w ≤ 2) from zB_eq0.mp h24) z.2.2)]
      | (rw [if_pos (And.intro (And.intro (by decide) (by decide)) (And.intro (show htim hd from zB_ne0.mp h16) (show 0 ≤ w ∧ w ≤ 2 from zB_ne0.mp h24)))]
         first
           | (unfold barW
              rw [if_neg (show ¬ hHeld S 4 = 0 by rw [g2.1]; decide), if_pos g2, em, nI_clamp (by omega), str_eq hF ho.b6 ho.v12]
              rfl)
           | (unfold barW
              by_cases z : bE 17 μ
              · rw [if_pos z]
                rcases xs with y | y | y
                · rw [if_pos y.1]
                · exact absurd z y.2.1
                · exact absurd z y.2.1
              · rw [if_neg z]
                rw [if_neg z] at h39
                by_cases u : bR 17 μ ∧ μ.1 17 2 = 1
                · rw [if_pos u] at h39; exact absurd rfl h39
                · rw [if_neg u]
                  rcases xs with y | y | y
                  · exact absurd y.2.1 z
                  · rw [y.1, if_neg (by decide), if_neg (fun v => absurd v.1 (by decide))]
                  · rw [y.1, if_neg (by decide), if_neg (fun v => u ⟨y.2.2.1, y.2.2.2.1.trans v.2⟩)]))
  · refine zb X_strike_s19 rfl ?_
    refine zcallS X_strike_d21 k10_170 (by omega) (x_isWithin _ _) rfl rfl (Nat.le_of_ble_eq_true rfl) ?_
    rintro _ μx ⟨rfl, hx⟩
    rw [hx]
    clear hx μx
    refine z_ne X_strike_d24 (tgt := 29) rfl (fun h24 => ?_) (fun h24 => ?_)
    · refine zb X_strike_s29 rfl ?_
      refine zcallV X_strike_d32 k10_247 (by omega) (x_refFor_4 (by omega)) rfl rfl rfl (Nat.le_of_ble_eq_true rfl) ?_
      rintro _ μx ⟨rfl, hx⟩
      rw [hx]
      clear hx μx
      refine zb X_strike_s35 rfl ?_
      refine z_eq X_strike_d39 (tgt := 47) rfl (fun h39 => ?_) (fun h39 => ?_)
      · have g1 : ¬ bE 17 μ ∧ bR 17 μ ∧ μ.1 17 2 = 1 := by
          by_cases z : bE 17 μ
          · rw [if_pos z] at h39; exact absurd h39 (by decide)
          · rw [if_neg z] at h39
            by_cases y : bR 17 μ ∧ μ.1 17 2 = 1
            · exact ⟨z, y⟩
            · rw [if_neg y] at h39; exact absurd h39 (by decide)
        have g2 : hHeld S 4 = 2 ∧ hSort S 4 = 1 := by
          rcases xs with z | z | z
          · exact absurd z.2.1 g1.1
          · exact absurd g1.2.1 z.2.2.1
          · exact And.intro z.1 (z.2.2.2.1.symm.trans g1.2.2)
        obtain ⟨m, hm, em, hrow⟩ : ∃ m, m ≤ 60 ∧ hSize S 4 = nI m ∧ (∀ i, i < 60 → (hInt S 4 i).toInt64 = hCell S 4 i) := by
          rcases hok 4 (by omega) with z | z | z
          · rw [g2.1] at z; exact absurd z (by decide)
          · rw [g2.1] at z; exact absurd z.1 (by decide)
          · obtain ⟨m, h1, h2⟩ := z.2.2.1
            exact ⟨m, h1, h2, z.2.2.2 g2.2⟩
        have hszS : μ.1 17 3 = nI m := (xS_hz (s := 4) hS (by omega) g2.1).trans em
        have hceS : ∀ t, t < 60 → (μ.2.1 23 t).toInt32 = hInt S 4 t := xS_hc (s := 4) hS (by omega)
        have q2 : htim hd := zB_ne0.mp h16
        refine zb2 X_strike_s47 rfl (by decide) (by decide) ?_
        refine zcallV X_strike_d62 k10_250 (by omega) (x_strikeN_4 (dd := hro hd) hm hszS hceS hF (hro_nn q2.1) (by omega) ho) rfl rfl rfl (Nat.le_of_ble_eq_true rfl) ?_
        rintro _ μ1 ⟨rfl, hz1⟩
        replace hz := hz.tr hz1
        replace ho := ho.q hz1
        clear hz1
        refine z_ret X_strike_d65 rfl ?_
        refine ⟨congrArg (fun z => some (Value.int z)) ?_, hz⟩
        unfold opStrike
        rw [show (nI 4).toNatClampNeg = 4 from rfl]
        first
          | rw [if_neg (fun z => (show ¬ htim hd from zB_eq0.mp h16) z.2.1)]
          | rw [if_neg (fun z => (show ¬ (0 ≤ w ∧ w ≤ 2) from zB_eq0.mp h24) z.2.2)]
          | (rw [if_pos (And.intro (And.intro (by decide) (by decide)) (And.intro (show htim hd from zB_ne0.mp h16) (show 0 ≤ w ∧ w ≤ 2 from zB_ne0.mp h24)))]
             first
               | (unfold barW
                  rw [if_neg (show ¬ hHeld S 4 = 0 by rw [g2.1]; decide), if_pos g2, em, nI_clamp (by omega), str_eq hF ho.b6 ho.v12]
                  rfl)
               | (unfold barW
                  by_cases z : bE 17 μ
                  · rw [if_pos z]
                    rcases xs with y | y | y
                    · rw [if_pos y.1]
                    · exact absurd z y.2.1
                    · exact absurd z y.2.1
                  · rw [if_neg z]
                    rw [if_neg z] at h39
                    by_cases u : bR 17 μ ∧ μ.1 17 2 = 1
                    · rw [if_pos u] at h39; exact absurd rfl h39
                    · rw [if_neg u]
                      rcases xs with y | y | y
                      · exact absurd y.2.1 z
                      · rw [y.1, if_neg (by decide), if_neg (fun v => absurd v.1 (by decide))]
                      · rw [y.1, if_neg (by decide), if_neg (fun v => u ⟨y.2.2.1, y.2.2.2.1.trans v.2⟩)]))
      · refine zb X_strike_s42 rfl ?_
        refine z_ret X_strike_d65 rfl ?_
        refine ⟨congrArg (fun z => some (Value.int z)) ?_, hz⟩
        unfold opStrike
        rw [show (nI 4).toNatClampNeg = 4 from rfl]
        first
          | rw [if_neg (fun z => (show ¬ htim hd from zB_eq0.mp h16) z.2.1)]
          | rw [if_neg (fun z => (show ¬ (0 ≤ w ∧ w ≤ 2) from zB_eq0.mp h24) z.2.2)]
          | (rw [if_pos (And.intro (And.intro (by decide) (by decide)) (And.intro (show htim hd from zB_ne0.mp h16) (show 0 ≤ w ∧ w ≤ 2 from zB_ne0.mp h24)))]
             first
               | (unfold barW
                  rw [if_neg (show ¬ hHeld S 4 = 0 by rw [g2.1]; decide), if_pos g2, em, nI_clamp (by omega), str_eq hF ho.b6 ho.v12]
                  rfl)
               | (unfold barW
                  by_cases z : bE 17 μ
                  · rw [if_pos z]
                    rcases xs with y | y | y
                    · rw [if_pos y.1]
                    · exact absurd z y.2.1
                    · exact absurd z y.2.1
                  · rw [if_neg z]
                    rw [if_neg z] at h39
                    by_cases u : bR 17 μ ∧ μ.1 17 2 = 1
                    · rw [if_pos u] at h39; exact absurd rfl h39
                    · rw [if_neg u]
                      rcases xs with y | y | y
                      · exact absurd y.2.1 z
                      · rw [y.1, if_neg (by decide), if_neg (fun v => absurd v.1 (by decide))]
                      · rw [y.1, if_neg (by decide), if_neg (fun v => u ⟨y.2.2.1, y.2.2.2.1.trans v.2⟩)]))
    · refine zb X_strike_s27 rfl ?_
      refine z_ret X_strike_d28 rfl ?_
      refine ⟨congrArg (fun z => some (Value.int z)) ?_, hz⟩
      unfold opStrike
      rw [show (nI 4).toNatClampNeg = 4 from rfl]
      first
        | rw [if_neg (fun z => (show ¬ htim hd from zB_eq0.mp h16) z.2.1)]
        | rw [if_neg (fun z => (show ¬ (0 ≤ w ∧ w ≤ 2) from zB_eq0.mp h24) z.2.2)]
        | (rw [if_pos (And.intro (And.intro (by decide) (by decide)) (And.intro (show htim hd from zB_ne0.mp h16) (show 0 ≤ w ∧ w ≤ 2 from zB_ne0.mp h24)))]
           first
             | (unfold barW
                rw [if_neg (show ¬ hHeld S 4 = 0 by rw [g2.1]; decide), if_pos g2, em, nI_clamp (by omega), str_eq hF ho.b6 ho.v12]
                rfl)
             | (unfold barW
                by_cases z : bE 17 μ
                · rw [if_pos z]
                  rcases xs with y | y | y
                  · rw [if_pos y.1]
                  · exact absurd z y.2.1
                  · exact absurd z y.2.1
                · rw [if_neg z]
                  rw [if_neg z] at h39
                  by_cases u : bR 17 μ ∧ μ.1 17 2 = 1
                  · rw [if_pos u] at h39; exact absurd rfl h39
                  · rw [if_neg u]
                    rcases xs with y | y | y
                    · exact absurd y.2.1 z
                    · rw [y.1, if_neg (by decide), if_neg (fun v => absurd v.1 (by decide))]
                    · rw [y.1, if_neg (by decide), if_neg (fun v => u ⟨y.2.2.1, y.2.2.2.1.trans v.2⟩)]))

set_option maxRecDepth 100000 in
set_option maxHeartbeats 4000000 in
theorem w_judge_4 {g : zG} {d : Nat} {F : zF} {μ0 : zMem} {b D : Nat} {h : Int32} {n : Nat} {cc : Nat → Int32} (hn : n ≤ 60) (hsz : μ0.1 17 3 = nI n) (hce : ∀ t, t < 60 → (μ0.2.1 23 t).toInt32 = cc t) (hrow : ∀ i, i < 60 → (cc i).toInt64 = μ0.2.1 23 i) (hF : okF F) (hb : b < fB F) (hD : D ≤ 998) (hd : 6 ≤ d) : ∀ (j i : Nat) (μ : zMem), i + j = n → oX F μ → zq sX μ0 μ → (zfind (fun i => ¬ judP F b D h cc i) i j = judW F b D h cc n) → zW g L_firstNotSo d 3 [some (.ref 5), some (.ref 17), some (.int (nI b)), some (.int (nI D)), some (.int h), some (.int (nI i))] [] μ (fun r μ' => r = some (.int (judW F b D h cc n)) ∧ zq sX μ0 μ') := by
  intro j
  induction j with
  | zero =>
    intro i  μ hi ho hz hv0
    have h6 := ho.b6
    have hsz2 : μ.1 17 3 = nI n := by rw [hz.1 17 3 rfl]; exact hsz
    have hce2 : ∀ t, t < 60 → (μ.2.1 23 t).toInt32 = cc t := fun t ht => by rw [hz.2]; exact hce t ht
    have hi : n = i := by omega
    subst hi
    refine zb L_firstNotSo_s3 rfl ?_
    refine z_cge L_firstNotSo_d9 (tgt := 67) rfl (fun h9 => ?_) (fun h9 => absurd (show μ.1 17 3 ≤ nI n by rw [hsz2]; exact Int32.le_refl _) h9)
    refine zb L_firstNotSo_s67 rfl ?_
    refine z_ret L_firstNotSo_d69 rfl ?_
    exact ⟨by rw [← hv0]; rfl, hz⟩
  | succ j ih =>
    intro i  μ hi ho hz hv0
    have h6 := ho.b6
    have hsz2 : μ.1 17 3 = nI n := by rw [hz.1 17 3 rfl]; exact hsz
    have hce2 : ∀ t, t < 60 → (μ.2.1 23 t).toInt32 = cc t := fun t ht => by rw [hz.2]; exact hce t ht
    have hilt : i < n := by omega
    have ei : (nI i).toNatClampNeg = i := nI_clamp (by omega)
    have hi60 : i < 60 := by omega
    have hvi : vp_in (nI i) 60 := vp_in_nI (by omega) (by omega)
    have hvb : vp_in (nI b) 6 := vp_in_nI (by omega) (by omega)
    have eb : (nI b).toNatClampNeg = b := nI_clamp (by omega)
    have e54 := ho.e54
    have hcL : μ.2.1 23 i = (cc i).toInt64 := by rw [hz.2]; exact (hrow i hi60).symm
    simp only [zfind] at hv0
    refine zb L_firstNotSo_s3 rfl ?_
    refine z_cge L_firstNotSo_d9 (tgt := 67) rfl (fun h9 => absurd h9 (show ¬ μ.1 17 3 ≤ nI i by rw [hsz2]; exact nI_ge hilt (by omega))) (fun h9 => ?_)
    refine zb L_firstNotSo_s12 rfl ?_
    rw [nI_add]
    refine z_cgt L_firstNotSo_d19 (tgt := 58) rfl (fun h19 => ?_) (fun h19 => ?_)
    · refine zb L_firstNotSo_s58 rfl ?_
      refine z_ret L_firstNotSo_d60 rfl ?_
      have hj : ¬ judP F b D h cc i := fun z => by
        first
          | exact absurd h19 (Int32.not_lt.mpr (nI_le (b := 998) z.1 (by omega)))
          | exact h55 (lg_eq.mpr (congrArg Int32.toInt64 z.2))
      rw [if_pos hj] at hv0
      exact ⟨by rw [hv0], hz⟩
    · refine zb1 L_firstNotSo_s22 rfl (by first | exact hvi | exact hvb) ?_
      rw [nI_add, e54, eb]
      refine zcallV L_firstNotSo_d42 k5_60 (by omega) (x_offOf hF (by omega) ho) rfl rfl rfl (Nat.le_of_ble_eq_true rfl) ?_
      rintro _ μ1 ⟨rfl, hz1⟩
      replace hz := hz.tr hz1
      replace ho := ho.q hz1
      refine zb1 L_firstNotSo_s45 rfl (by first | exact hvi | exact hvb) ?_
      have hcL2 : μ1.2.1 23 (nI i).toNatClampNeg = (cc i).toInt64 := by rw [ei, hz1.2]; exact hcL
      rw [hcL2]
      refine z_eq L_firstNotSo_d55 (tgt := 61) rfl (fun h55 => ?_) (fun h55 => ?_)
      · refine zb L_firstNotSo_s61 rfl ?_
        rw [nI_1]
        have hj : judP F b D h cc i := ⟨(nI_leI (b := 998) (by omega) (by omega)).mp (Int32.not_lt.mp h19), i64_inj (lg_eq.mp h55)⟩
        rw [if_neg (fun z => z hj)] at hv0
        exact ih (i + 1) _ (by omega) ho hz hv0
      · refine zb L_firstNotSo_s58 rfl ?_
        refine z_ret L_firstNotSo_d60 rfl ?_
        have hj : ¬ judP F b D h cc i := fun z => by
          first
            | exact absurd h19 (Int32.not_lt.mpr (nI_le (b := 998) z.1 (by omega)))
            | exact h55 (lg_eq.mpr (congrArg Int32.toInt64 z.2))
        rw [if_pos hj] at hv0
        exact ⟨by rw [hv0], hz⟩

set_option maxRecDepth 100000 in
set_option maxHeartbeats 4000000 in
theorem x_judgeN_4 {g : zG} {d : Nat} {F : zF} {μ0 : zMem} {b D : Nat} {h : Int32} {n : Nat} {cc : Nat → Int32} (hn : n ≤ 60) (hsz : μ0.1 17 3 = nI n) (hce : ∀ t, t < 60 → (μ0.2.1 23 t).toInt32 = cc t) (hrow : ∀ i, i < 60 → (cc i).toInt64 = μ0.2.1 23 i) (hF : okF F) (hb : b < fB F) (hD : D ≤ 998) (hd : 6 ≤ d) (ho : oX F μ0) : zM g d L_firstNotSo [.ref 5, .ref 17, .int (nI b), .int (nI D), .int h] μ0 (fun r μ' => r = some (.int (judW F b D h cc n)) ∧ zq sX μ0 μ') := by
  refine zM_of (by decide +kernel) rfl rfl (Nat.le_of_ble_eq_true rfl) rfl ?_
  refine zb L_firstNotSo_s0 rfl ?_
  exact w_judge_4 hn hsz hce hrow hF hb hD hd n 0 μ0 (by omega) ho zq.rf rfl

set_option maxRecDepth 100000 in
set_option maxHeartbeats 4000000 in
theorem xs_judge_4 {g : zG} {d : Nat} {S : zS} {μ : zMem} {b dh : Int32} (hF : okF S.1) (hd9 : 8 ≤ d) (hS : xS S μ) (hok : okH S) : zM g d X_judge [.ref 1, .int (nI 4), .int b, .int dh] μ (fun r μ' => r = some (.int (opJudge S (nI 4) b dh)) ∧ zq sX μ μ') := by
  refine zM_of (by decide +kernel) rfl rfl (Nat.le_of_ble_eq_true rfl) rfl ?_
  obtain ⟨ho, h2, hT, hC, hD, hI, hA, hH⟩ := hS
  have hS : xS S μ := ⟨ho, h2, hT, hC, hD, hI, hA, hH⟩
  have hb := ho.b
  have hv := ho.v
  have hB6 := ho.b6
  have hV12 := ho.v12
  have hz : zq sX μ μ := zq.rf
  have xs := xsh (s := 4) hS hok (by omega)
  have hF9 := hF
  refine zb X_judge_s0 rfl ?_
  refine zcallV X_judge_d2 k10_93 (by omega) (x_shelf_4 (by omega)) rfl rfl rfl (Nat.le_of_ble_eq_true rfl) ?_
  rintro _ μx ⟨rfl, hx⟩
  rw [hx]
  clear hx μx
  refine zb X_judge_s5 rfl ?_
  refine z_null X_judge_d9 ?_
  refine zb X_judge_s12 rfl ?_
  refine zcallV X_judge_d17 k10_167 (by omega) (x_hasBell _ ho) rfl rfl rfl (Nat.le_of_ble_eq_true rfl) ?_
  rintro _ μx ⟨rfl, hx⟩
  rw [hx]
  clear hx μx
  refine z_eq X_judge_d20 (tgt := 30) rfl (fun h20 => ?_) (fun h20 => ?_)
  · refine zb X_judge_s30 rfl ?_
    refine z_ret X_judge_d31 rfl ?_
    refine ⟨congrArg (fun z => some (Value.int z)) ?_, hz⟩
    unfold opJudge
    rw [show (nI 4).toNatClampNeg = 4 from rfl]
    first
      | rw [if_neg (fun z => (show ¬ isB S.1 b from zB_eq0.mp h20) z.2.1)]
      | rw [if_neg (fun z => (show ¬ tim dh from zB_eq0.mp h27) z.2.2)]
      | (rw [if_pos (And.intro (And.intro (by decide) (by decide)) (And.intro q1 q2))]
         unfold barW
         rw [if_neg (show ¬ hHeld S 4 = 0 by rw [g2.1]; decide), if_pos g2, em, nI_clamp (show m < 2 ^ 31 by omega), eb, eD, nI_clamp (show D < 2 ^ 31 by omega)])
      | (rw [if_pos (And.intro (And.intro (by decide) (by decide)) (And.intro (show isB S.1 b from zB_ne0.mp h20) (show tim dh from zB_ne0.mp h27)))]
         unfold barW
         by_cases z : bE 17 μ
         · rw [if_pos z]
           rcases xs with y | y | y
           · rw [if_pos y.1]
           · exact absurd z y.2.1
           · exact absurd z y.2.1
         · rw [if_neg z]
           rw [if_neg z] at h42
           by_cases u : bR 17 μ ∧ μ.1 17 2 = 1
           · rw [if_pos u] at h42; exact absurd rfl h42
           · rw [if_neg u]
             rcases xs with y | y | y
             · exact absurd y.2.1 z
             · rw [y.1, if_neg (by decide), if_neg (fun v => absurd v.1 (by decide))]
             · rw [y.1, if_neg (by decide), if_neg (fun v => u ⟨y.2.2.1, y.2.2.2.1.trans v.2⟩)])
  · refine zb X_judge_s23 rfl ?_
    refine zcallS X_judge_d24 k10_160 (by omega) (x_isDayHour _) rfl rfl (Nat.le_of_ble_eq_true rfl) ?_
    rintro _ μx ⟨rfl, hx⟩
    rw [hx]
    clear hx μx
    refine z_ne X_judge_d27 (tgt := 32) rfl (fun h27 => ?_) (fun h27 => ?_)
    · refine zb X_judge_s32 rfl ?_
      refine zcallV X_judge_d35 k10_247 (by omega) (x_refFor_4 (by omega)) rfl rfl rfl (Nat.le_of_ble_eq_true rfl) ?_
      rintro _ μx ⟨rfl, hx⟩
      rw [hx]
      clear hx μx
      refine zb X_judge_s38 rfl ?_
      refine z_eq X_judge_d42 (tgt := 50) rfl (fun h42 => ?_) (fun h42 => ?_)
      · have g1 : ¬ bE 17 μ ∧ bR 17 μ ∧ μ.1 17 2 = 1 := by
          by_cases z : bE 17 μ
          · rw [if_pos z] at h42; exact absurd h42 (by decide)
          · rw [if_neg z] at h42
            by_cases y : bR 17 μ ∧ μ.1 17 2 = 1
            · exact ⟨z, y⟩
            · rw [if_neg y] at h42; exact absurd h42 (by decide)
        have g2 : hHeld S 4 = 2 ∧ hSort S 4 = 1 := by
          rcases xs with z | z | z
          · exact absurd z.2.1 g1.1
          · exact absurd g1.2.1 z.2.2.1
          · exact And.intro z.1 (z.2.2.2.1.symm.trans g1.2.2)
        obtain ⟨m, hm, em, hrow⟩ : ∃ m, m ≤ 60 ∧ hSize S 4 = nI m ∧ (∀ i, i < 60 → (hInt S 4 i).toInt64 = hCell S 4 i) := by
          rcases hok 4 (by omega) with z | z | z
          · rw [g2.1] at z; exact absurd z (by decide)
          · rw [g2.1] at z; exact absurd z.1 (by decide)
          · obtain ⟨m, h1, h2⟩ := z.2.2.1
            exact ⟨m, h1, h2, z.2.2.2 g2.2⟩
        have hszS : μ.1 17 3 = nI m := (xS_hz (s := 4) hS (by omega) g2.1).trans em
        have hceS : ∀ t, t < 60 → (μ.2.1 23 t).toInt32 = hInt S 4 t := xS_hc (s := 4) hS (by omega)
        have q1 : isB S.1 b := zB_ne0.mp h20
        have q2 : tim dh := zB_ne0.mp h27
        obtain ⟨b, hbB, rfl, eb⟩ := zix q1.1 q1.2 (by omega)
        obtain ⟨D, hD, eD⟩ := nI_of2 (M := 998) (n := 998) rfl (Int32.not_lt.mpr (tim_nn q2)) q2.2.1
        have hrow2 : ∀ i, i < 60 → (hInt S 4 i).toInt64 = μ.2.1 23 i := fun i hi => (hrow i hi).trans ((hS.2.2.2.2.2.2.2 4 (by omega)).2 i hi).symm
        refine zb2 X_judge_s50 rfl (by decide) (by decide) ?_
        rw [show dh - dh / 100 * 100 = hro dh from rfl, eD]
        refine zcallV X_judge_d65 k10_254 (by omega) (x_judgeN_4 (h := hro dh) hm hszS hceS hrow2 hF hbB hD (by omega) ho) rfl rfl rfl (Nat.le_of_ble_eq_true rfl) ?_
        rintro _ μ1 ⟨rfl, hz1⟩
        replace hz := hz.tr hz1
        replace ho := ho.q hz1
        clear hz1
        refine z_ret X_judge_d68 rfl ?_
        refine ⟨congrArg (fun z => some (Value.int z)) ?_, hz⟩
        unfold opJudge
        rw [show (nI 4).toNatClampNeg = 4 from rfl]
        first
          | rw [if_neg (fun z => (show ¬ isB S.1 b from zB_eq0.mp h20) z.2.1)]
          | rw [if_neg (fun z => (show ¬ tim dh from zB_eq0.mp h27) z.2.2)]
          | (rw [if_pos (And.intro (And.intro (by decide) (by decide)) (And.intro q1 q2))]
             unfold barW
             rw [if_neg (show ¬ hHeld S 4 = 0 by rw [g2.1]; decide), if_pos g2, em, nI_clamp (show m < 2 ^ 31 by omega), eb, eD, nI_clamp (show D < 2 ^ 31 by omega)])
          | (rw [if_pos (And.intro (And.intro (by decide) (by decide)) (And.intro (show isB S.1 b from zB_ne0.mp h20) (show tim dh from zB_ne0.mp h27)))]
             unfold barW
             by_cases z : bE 17 μ
             · rw [if_pos z]
               rcases xs with y | y | y
               · rw [if_pos y.1]
               · exact absurd z y.2.1
               · exact absurd z y.2.1
             · rw [if_neg z]
               rw [if_neg z] at h42
               by_cases u : bR 17 μ ∧ μ.1 17 2 = 1
               · rw [if_pos u] at h42; exact absurd rfl h42
               · rw [if_neg u]
                 rcases xs with y | y | y
                 · exact absurd y.2.1 z
                 · rw [y.1, if_neg (by decide), if_neg (fun v => absurd v.1 (by decide))]
                 · rw [y.1, if_neg (by decide), if_neg (fun v => u ⟨y.2.2.1, y.2.2.2.1.trans v.2⟩)])
      · refine zb X_judge_s45 rfl ?_
        refine z_ret X_judge_d68 rfl ?_
        refine ⟨congrArg (fun z => some (Value.int z)) ?_, hz⟩
        unfold opJudge
        rw [show (nI 4).toNatClampNeg = 4 from rfl]
        first
          | rw [if_neg (fun z => (show ¬ isB S.1 b from zB_eq0.mp h20) z.2.1)]
          | rw [if_neg (fun z => (show ¬ tim dh from zB_eq0.mp h27) z.2.2)]
          | (rw [if_pos (And.intro (And.intro (by decide) (by decide)) (And.intro q1 q2))]
             unfold barW
             rw [if_neg (show ¬ hHeld S 4 = 0 by rw [g2.1]; decide), if_pos g2, em, nI_clamp (show m < 2 ^ 31 by omega), eb, eD, nI_clamp (show D < 2 ^ 31 by omega)])
          | (rw [if_pos (And.intro (And.intro (by decide) (by decide)) (And.intro (show isB S.1 b from zB_ne0.mp h20) (show tim dh from zB_ne0.mp h27)))]
             unfold barW
             by_cases z : bE 17 μ
             · rw [if_pos z]
               rcases xs with y | y | y
               · rw [if_pos y.1]
               · exact absurd z y.2.1
               · exact absurd z y.2.1
             · rw [if_neg z]
               rw [if_neg z] at h42
               by_cases u : bR 17 μ ∧ μ.1 17 2 = 1
               · rw [if_pos u] at h42; exact absurd rfl h42
               · rw [if_neg u]
                 rcases xs with y | y | y
                 · exact absurd y.2.1 z
                 · rw [y.1, if_neg (by decide), if_neg (fun v => absurd v.1 (by decide))]
                 · rw [y.1, if_neg (by decide), if_neg (fun v => u ⟨y.2.2.1, y.2.2.2.1.trans v.2⟩)])
    · refine zb X_judge_s30 rfl ?_
      refine z_ret X_judge_d31 rfl ?_
      refine ⟨congrArg (fun z => some (Value.int z)) ?_, hz⟩
      unfold opJudge
      rw [show (nI 4).toNatClampNeg = 4 from rfl]
      first
        | rw [if_neg (fun z => (show ¬ isB S.1 b from zB_eq0.mp h20) z.2.1)]
        | rw [if_neg (fun z => (show ¬ tim dh from zB_eq0.mp h27) z.2.2)]
        | (rw [if_pos (And.intro (And.intro (by decide) (by decide)) (And.intro q1 q2))]
           unfold barW
           rw [if_neg (show ¬ hHeld S 4 = 0 by rw [g2.1]; decide), if_pos g2, em, nI_clamp (show m < 2 ^ 31 by omega), eb, eD, nI_clamp (show D < 2 ^ 31 by omega)])
        | (rw [if_pos (And.intro (And.intro (by decide) (by decide)) (And.intro (show isB S.1 b from zB_ne0.mp h20) (show tim dh from zB_ne0.mp h27)))]
           unfold barW
           by_cases z : bE 17 μ
           · rw [if_pos z]
             rcases xs with y | y | y
             · rw [if_pos y.1]
             · exact absurd z y.2.1
             · exact absurd z y.2.1
           · rw [if_neg z]
             rw [if_neg z] at h42
             by_cases u : bR 17 μ ∧ μ.1 17 2 = 1
             · rw [if_pos u] at h42; exact absurd rfl h42
             · rw [if_neg u]
               rcases xs with y | y | y
               · exact absurd y.2.1 z
               · rw [y.1, if_neg (by decide), if_neg (fun v => absurd v.1 (by decide))]
               · rw [y.1, if_neg (by decide), if_neg (fun v => u ⟨y.2.2.1, y.2.2.2.1.trans v.2⟩)])

set_option maxRecDepth 100000 in
set_option maxHeartbeats 4000000 in
theorem x_refFor_5 {g : zG} {d : Nat} {μ : zMem} {p : Int32} (hd : 2 ≤ d) : zM g d S_refusalFor [.ref 18, .int p] μ (fun r μ' => r = some (.int (if bE 18 μ then -11 else if bR 18 μ ∧ μ.1 18 2 = p then 0 else -12)) ∧ μ' = μ) := by
  refine zM_of (by decide +kernel) rfl rfl (Nat.le_of_ble_eq_true rfl) rfl ?_
  refine zb S_refusalFor_s0 rfl ?_
  refine zcallV S_refusalFor_d1 k8_29 (by omega) (x_isEmpty_5) rfl rfl rfl (Nat.le_of_ble_eq_true rfl) ?_
  rintro _ μx ⟨rfl, hx⟩
  rw [hx]
  clear hx μx
  refine z_eq S_refusalFor_d4 (tgt := 10) rfl (fun h4 => ?_) (fun h4 => ?_)
  · refine zb S_refusalFor_s10 rfl ?_
    refine zcallV S_refusalFor_d12 k8_32 (by omega) (x_isRowOf_5 _ (by omega)) rfl rfl rfl (Nat.le_of_ble_eq_true rfl) ?_
    rintro _ μx ⟨rfl, hx⟩
    rw [hx]
    clear hx μx
    refine z_eq S_refusalFor_d15 (tgt := 22) rfl (fun h15 => ?_) (fun h15 => ?_)
    · refine zb S_refusalFor_s22 rfl ?_
      refine z_ret S_refusalFor_d24 rfl ?_
      refine ⟨?_, rfl⟩
      first
        | (rw [if_pos (show bE 18 μ from zB_ne0.mp h4)]; done)
        | (rw [if_neg (show ¬ bE 18 μ from zB_eq0.mp h4), if_pos (show bR 18 μ ∧ μ.1 18 2 = p from zB_ne0.mp h15)]; done)
        | (rw [if_neg (show ¬ bE 18 μ from zB_eq0.mp h4), if_neg (show ¬ (bR 18 μ ∧ μ.1 18 2 = p) from zB_eq0.mp h15)]; done)
    · refine zb S_refusalFor_s18 rfl ?_
      refine z_ret S_refusalFor_d24 rfl ?_
      refine ⟨?_, rfl⟩
      first
        | (rw [if_pos (show bE 18 μ from zB_ne0.mp h4)]; done)
        | (rw [if_neg (show ¬ bE 18 μ from zB_eq0.mp h4), if_pos (show bR 18 μ ∧ μ.1 18 2 = p from zB_ne0.mp h15)]; done)
        | (rw [if_neg (show ¬ bE 18 μ from zB_eq0.mp h4), if_neg (show ¬ (bR 18 μ ∧ μ.1 18 2 = p) from zB_eq0.mp h15)]; done)
  · refine zb S_refusalFor_s7 rfl ?_
    refine z_ret S_refusalFor_d9 rfl ?_
    refine ⟨?_, rfl⟩
    first
      | (rw [if_pos (show bE 18 μ from zB_ne0.mp h4)]; done)
      | (rw [if_neg (show ¬ bE 18 μ from zB_eq0.mp h4), if_pos (show bR 18 μ ∧ μ.1 18 2 = p from zB_ne0.mp h15)]; done)
      | (rw [if_neg (show ¬ bE 18 μ from zB_eq0.mp h4), if_neg (show ¬ (bR 18 μ ∧ μ.1 18 2 = p) from zB_eq0.mp h15)]; done)

set_option maxRecDepth 100000 in
set_option maxHeartbeats 4000000 in
theorem w_strike_5 {g : zG} {d : Nat} {F : zF} {μ0 : zMem} {dd h w : Int32} {n : Nat} {cc : Nat → Int32} (hn : n ≤ 60) (hsz : μ0.1 18 3 = nI n) (hce : ∀ t, t < 60 → (μ0.2.1 24 t).toInt32 = cc t) (hF : okF F) (hdd : 0 ≤ dd) (hd : 7 ≤ d) : ∀ (j i : Nat) (all : Int32) (bell : Int32) (most : Int32) (x9 : Option Value) (μ : zMem), i + j = fB F → oX F μ → zq sX μ0 μ → (all = strA F dd h n cc i) → ((bell, most) = strM F dd h n cc i) → zW g L_nextToStrike d 14 [some (.ref 5), some (.ref 18), some (.int h), some (.int dd), some (.int w), some (.int all), some (.int bell), some (.int most), some (.int (nI i)), x9] [] μ (fun r μ' => r = some (.int (strC F dd h n cc w)) ∧ zq sX μ0 μ') := by
  intro j
  induction j with
  | zero =>
    intro i all bell most x9 μ hi ho hz hv0 hv1
    have hbd := ho.b
    have h12 := ho.v12
    have h6 := ho.b6
    have hsz2 : μ.1 18 3 = nI n := by rw [hz.1 18 3 rfl]; exact hsz
    have hce2 : ∀ t, t < 60 → (μ.2.1 24 t).toInt32 = cc t := fun t ht => by rw [hz.2]; exact hce t ht
    have hi : fB F = i := by omega
    subst hi
    refine zb L_nextToStrike_s14 rfl ?_
    refine z_cge L_nextToStrike_d23 (tgt := 104) rfl (fun h23 => ?_) (fun h23 => absurd (show μ.1 2 7 ≤ nI (fB F) by first | exact Int32.le_refl _ | (rw [hbd]; exact Int32.le_refl _)) h23)
    refine zb L_nextToStrike_s104 rfl ?_
    refine z_ne L_nextToStrike_d106 (tgt := 112) rfl (fun h106 => ?_) (fun h106 => ?_)
    · refine zb L_nextToStrike_s112 rfl ?_
      refine z_ne L_nextToStrike_d114 (tgt := 120) rfl (fun h114 => ?_) (fun h114 => ?_)
      · refine zb L_nextToStrike_s120 rfl ?_
        refine z_cne L_nextToStrike_d123 (tgt := 131) rfl (fun h123 => ?_) (fun h123 => ?_)
        · refine zb L_nextToStrike_s131 rfl ?_
          refine z_ret L_nextToStrike_d133 rfl ?_
          refine ⟨congrArg (fun z => some (Value.int z)) ?_, hz⟩
          unfold strC
          rw [hv0] at *
          first
            | (rw [if_pos h106]; done)
            | (rw [if_neg h106, if_pos h114]; done)
            | (rw [if_neg h106, if_neg h114, if_pos h123, ← hv1]; done)
            | (rw [if_neg h106, if_neg h114, if_neg h123, ← hv1]; done)
        · refine zb L_nextToStrike_s126 rfl ?_
          refine z_ret L_nextToStrike_d133 rfl ?_
          refine ⟨congrArg (fun z => some (Value.int z)) ?_, hz⟩
          unfold strC
          rw [hv0] at *
          first
            | (rw [if_pos h106]; done)
            | (rw [if_neg h106, if_pos h114]; done)
            | (rw [if_neg h106, if_neg h114, if_pos h123, ← hv1]; done)
            | (rw [if_neg h106, if_neg h114, if_neg h123, ← hv1]; done)
      · refine zb L_nextToStrike_s117 rfl ?_
        refine z_ret L_nextToStrike_d119 rfl ?_
        refine ⟨congrArg (fun z => some (Value.int z)) ?_, hz⟩
        unfold strC
        rw [hv0] at *
        first
          | (rw [if_pos h106]; done)
          | (rw [if_neg h106, if_pos h114]; done)
          | (rw [if_neg h106, if_neg h114, if_pos h123, ← hv1]; done)
          | (rw [if_neg h106, if_neg h114, if_neg h123, ← hv1]; done)
    · refine zb L_nextToStrike_s109 rfl ?_
      refine z_ret L_nextToStrike_d111 rfl ?_
      refine ⟨congrArg (fun z => some (Value.int z)) ?_, hz⟩
      unfold strC
      rw [hv0] at *
      first
        | (rw [if_pos h106]; done)
        | (rw [if_neg h106, if_pos h114]; done)
        | (rw [if_neg h106, if_neg h114, if_pos h123, ← hv1]; done)
        | (rw [if_neg h106, if_neg h114, if_neg h123, ← hv1]; done)
  | succ j ih =>
    intro i all bell most x9 μ hi ho hz hv0 hv1
    have hbd := ho.b
    have h12 := ho.v12
    have h6 := ho.b6
    have hsz2 : μ.1 18 3 = nI n := by rw [hz.1 18 3 rfl]; exact hsz
    have hce2 : ∀ t, t < 60 → (μ.2.1 24 t).toInt32 = cc t := fun t ht => by rw [hz.2]; exact hce t ht
    have hilt : i < fB F := by omega
    have ei : (nI i).toNatClampNeg = i := nI_clamp (by omega)
    have hi60 : i < 60 := by omega
    have hvi : vp_in (nI i) 60 := vp_in_nI (by omega) (by omega)
    have hci := hce2 i hi60
    refine zb L_nextToStrike_s14 rfl ?_
    refine z_cge L_nextToStrike_d23 (tgt := 104) rfl (fun h23 => absurd h23 (show ¬ μ.1 2 7 ≤ nI i by first | exact nI_ge hilt (by omega) | (rw [hbd]; exact nI_ge hilt (by omega)))) (fun h23 => ?_)
    refine zb L_nextToStrike_s26 rfl ?_
    refine z_cge L_nextToStrike_d32 (tgt := 46) rfl (fun h32 => ?_) (fun h32 => ?_)
    · refine zb L_nextToStrike_s46 rfl ?_
      refine z_ceq L_nextToStrike_d57 (tgt := 64) rfl (fun h57 => ?_) (fun h57 => ?_)
      · refine zb L_nextToStrike_s64 rfl ?_
        refine zcallV L_nextToStrike_d67 k5_114 (by omega) (x_hear (b := i) hF hdd (by omega) hilt ho) rfl rfl rfl (Nat.le_of_ble_eq_true rfl) ?_
        rintro _ μ1 ⟨rfl, hz1, l0, hr⟩
        replace hz := hz.tr hz1
        replace ho := ho.q hz1
        refine zb L_nextToStrike_s70 rfl ?_
        refine z_cle L_nextToStrike_d85 (tgt := 98) rfl (fun h85 => ?_) (fun h85 => ?_)
        · refine zb L_nextToStrike_s98 rfl ?_
          rw [nI_1]
          rw [hsz2] at h32
          have hlc : lyC F dd h n cc i = (μ1.1 5 6, μ1.1 5 7) := by
            first
              | (have hlt : i < n := (nI_ltI (by omega) (by omega)).mp (Int32.not_le.mp h32)
                 have k := tp_in (c := cc) hlt
                 rw [ei, hci] at h57 hr
                 first
                   | exact lyC_is (k.2.1 h57) k.1 hr.1 hr.2.1
                   | exact lyC_is (k.2.2 h57) k.1 hr.1 hr.2.1)
              | (have hge : ¬ i < n := fun z => absurd h32 (nI_ge z (by omega))
                 have k := tp_out (c := cc) hge
                 exact lyC_is k.2 k.1 hr.1 hr.2.1)
              | exact absurd rfl h57
          have hsA : strA F dd h n cc (i + 1) = all * μ1.1 5 6 := by
            unfold strA at hv0 ⊢
            rw [zf0, ← hv0, hlc]
          have hsM : strM F dd h n cc (i + 1) = if most < μ1.1 5 7 then (nI i, μ1.1 5 7) else (bell, most) := by
            unfold strM at hv1 ⊢
            rw [zf0, ← hv1, hlc]
          first
            | exact ih (i + 1) _ _ _ _ _ (by omega) ho hz hsA.symm (by rw [hsM, if_pos (Int32.not_le.mp h85)])
            | exact ih (i + 1) _ _ _ _ _ (by omega) ho hz hsA.symm (by rw [hsM, if_neg (Int32.not_lt.mpr h85)])
        · refine zb L_nextToStrike_s88 rfl ?_
          rw [nI_1]
          rw [hsz2] at h32
          have hlc : lyC F dd h n cc i = (μ1.1 5 6, μ1.1 5 7) := by
            first
              | (have hlt : i < n := (nI_ltI (by omega) (by omega)).mp (Int32.not_le.mp h32)
                 have k := tp_in (c := cc) hlt
                 rw [ei, hci] at h57 hr
                 first
                   | exact lyC_is (k.2.1 h57) k.1 hr.1 hr.2.1
                   | exact lyC_is (k.2.2 h57) k.1 hr.1 hr.2.1)
              | (have hge : ¬ i < n := fun z => absurd h32 (nI_ge z (by omega))
                 have k := tp_out (c := cc) hge
                 exact lyC_is k.2 k.1 hr.1 hr.2.1)
              | exact absurd rfl h57
          have hsA : strA F dd h n cc (i + 1) = all * μ1.1 5 6 := by
            unfold strA at hv0 ⊢
            rw [zf0, ← hv0, hlc]
          have hsM : strM F dd h n cc (i + 1) = if most < μ1.1 5 7 then (nI i, μ1.1 5 7) else (bell, most) := by
            unfold strM at hv1 ⊢
            rw [zf0, ← hv1, hlc]
          first
            | exact ih (i + 1) _ _ _ _ _ (by omega) ho hz hsA.symm (by rw [hsM, if_pos (Int32.not_le.mp h85)])
            | exact ih (i + 1) _ _ _ _ _ (by omega) ho hz hsA.symm (by rw [hsM, if_neg (Int32.not_lt.mpr h85)])
      · refine zb L_nextToStrike_s60 rfl ?_
        refine zcallV L_nextToStrike_d67 k5_114 (by omega) (x_hear (b := i) hF hdd (by omega) hilt ho) rfl rfl rfl (Nat.le_of_ble_eq_true rfl) ?_
        rintro _ μ1 ⟨rfl, hz1, l0, hr⟩
        replace hz := hz.tr hz1
        replace ho := ho.q hz1
        refine zb L_nextToStrike_s70 rfl ?_
        refine z_cle L_nextToStrike_d85 (tgt := 98) rfl (fun h85 => ?_) (fun h85 => ?_)
        · refine zb L_nextToStrike_s98 rfl ?_
          rw [nI_1]
          rw [hsz2] at h32
          have hlc : lyC F dd h n cc i = (μ1.1 5 6, μ1.1 5 7) := by
            first
              | (have hlt : i < n := (nI_ltI (by omega) (by omega)).mp (Int32.not_le.mp h32)
                 have k := tp_in (c := cc) hlt
                 rw [ei, hci] at h57 hr
                 first
                   | exact lyC_is (k.2.1 h57) k.1 hr.1 hr.2.1
                   | exact lyC_is (k.2.2 h57) k.1 hr.1 hr.2.1)
              | (have hge : ¬ i < n := fun z => absurd h32 (nI_ge z (by omega))
                 have k := tp_out (c := cc) hge
                 exact lyC_is k.2 k.1 hr.1 hr.2.1)
              | exact absurd rfl h57
          have hsA : strA F dd h n cc (i + 1) = all * μ1.1 5 6 := by
            unfold strA at hv0 ⊢
            rw [zf0, ← hv0, hlc]
          have hsM : strM F dd h n cc (i + 1) = if most < μ1.1 5 7 then (nI i, μ1.1 5 7) else (bell, most) := by
            unfold strM at hv1 ⊢
            rw [zf0, ← hv1, hlc]
          first
            | exact ih (i + 1) _ _ _ _ _ (by omega) ho hz hsA.symm (by rw [hsM, if_pos (Int32.not_le.mp h85)])
            | exact ih (i + 1) _ _ _ _ _ (by omega) ho hz hsA.symm (by rw [hsM, if_neg (Int32.not_lt.mpr h85)])
        · refine zb L_nextToStrike_s88 rfl ?_
          rw [nI_1]
          rw [hsz2] at h32
          have hlc : lyC F dd h n cc i = (μ1.1 5 6, μ1.1 5 7) := by
            first
              | (have hlt : i < n := (nI_ltI (by omega) (by omega)).mp (Int32.not_le.mp h32)
                 have k := tp_in (c := cc) hlt
                 rw [ei, hci] at h57 hr
                 first
                   | exact lyC_is (k.2.1 h57) k.1 hr.1 hr.2.1
                   | exact lyC_is (k.2.2 h57) k.1 hr.1 hr.2.1)
              | (have hge : ¬ i < n := fun z => absurd h32 (nI_ge z (by omega))
                 have k := tp_out (c := cc) hge
                 exact lyC_is k.2 k.1 hr.1 hr.2.1)
              | exact absurd rfl h57
          have hsA : strA F dd h n cc (i + 1) = all * μ1.1 5 6 := by
            unfold strA at hv0 ⊢
            rw [zf0, ← hv0, hlc]
          have hsM : strM F dd h n cc (i + 1) = if most < μ1.1 5 7 then (nI i, μ1.1 5 7) else (bell, most) := by
            unfold strM at hv1 ⊢
            rw [zf0, ← hv1, hlc]
          first
            | exact ih (i + 1) _ _ _ _ _ (by omega) ho hz hsA.symm (by rw [hsM, if_pos (Int32.not_le.mp h85)])
            | exact ih (i + 1) _ _ _ _ _ (by omega) ho hz hsA.symm (by rw [hsM, if_neg (Int32.not_lt.mpr h85)])
    · refine zb1 L_nextToStrike_s35 rfl (by first | exact hvi | (rw [ei]; exact hvi)) ?_
      refine z_ceq L_nextToStrike_d57 (tgt := 64) rfl (fun h57 => ?_) (fun h57 => ?_)
      · refine zb L_nextToStrike_s64 rfl ?_
        refine zcallV L_nextToStrike_d67 k5_114 (by omega) (x_hear (b := i) hF hdd (by omega) hilt ho) rfl rfl rfl (Nat.le_of_ble_eq_true rfl) ?_
        rintro _ μ1 ⟨rfl, hz1, l0, hr⟩
        replace hz := hz.tr hz1
        replace ho := ho.q hz1
        refine zb L_nextToStrike_s70 rfl ?_
        refine z_cle L_nextToStrike_d85 (tgt := 98) rfl (fun h85 => ?_) (fun h85 => ?_)
        · refine zb L_nextToStrike_s98 rfl ?_
          rw [nI_1]
          rw [hsz2] at h32
          have hlc : lyC F dd h n cc i = (μ1.1 5 6, μ1.1 5 7) := by
            first
              | (have hlt : i < n := (nI_ltI (by omega) (by omega)).mp (Int32.not_le.mp h32)
                 have k := tp_in (c := cc) hlt
                 rw [ei, hci] at h57 hr
                 first
                   | exact lyC_is (k.2.1 h57) k.1 hr.1 hr.2.1
                   | exact lyC_is (k.2.2 h57) k.1 hr.1 hr.2.1)
              | (have hge : ¬ i < n := fun z => absurd h32 (nI_ge z (by omega))
                 have k := tp_out (c := cc) hge
                 exact lyC_is k.2 k.1 hr.1 hr.2.1)
              | exact absurd rfl h57
          have hsA : strA F dd h n cc (i + 1) = all * μ1.1 5 6 := by
            unfold strA at hv0 ⊢
            rw [zf0, ← hv0, hlc]
          have hsM : strM F dd h n cc (i + 1) = if most < μ1.1 5 7 then (nI i, μ1.1 5 7) else (bell, most) := by
            unfold strM at hv1 ⊢
            rw [zf0, ← hv1, hlc]
          first
            | exact ih (i + 1) _ _ _ _ _ (by omega) ho hz hsA.symm (by rw [hsM, if_pos (Int32.not_le.mp h85)])
            | exact ih (i + 1) _ _ _ _ _ (by omega) ho hz hsA.symm (by rw [hsM, if_neg (Int32.not_lt.mpr h85)])
        · refine zb L_nextToStrike_s88 rfl ?_
          rw [nI_1]
          rw [hsz2] at h32
          have hlc : lyC F dd h n cc i = (μ1.1 5 6, μ1.1 5 7) := by
            first
              | (have hlt : i < n := (nI_ltI (by omega) (by omega)).mp (Int32.not_le.mp h32)
                 have k := tp_in (c := cc) hlt
                 rw [ei, hci] at h57 hr
                 first
                   | exact lyC_is (k.2.1 h57) k.1 hr.1 hr.2.1
                   | exact lyC_is (k.2.2 h57) k.1 hr.1 hr.2.1)
              | (have hge : ¬ i < n := fun z => absurd h32 (nI_ge z (by omega))
                 have k := tp_out (c := cc) hge
                 exact lyC_is k.2 k.1 hr.1 hr.2.1)
              | exact absurd rfl h57
          have hsA : strA F dd h n cc (i + 1) = all * μ1.1 5 6 := by
            unfold strA at hv0 ⊢
            rw [zf0, ← hv0, hlc]
          have hsM : strM F dd h n cc (i + 1) = if most < μ1.1 5 7 then (nI i, μ1.1 5 7) else (bell, most) := by
            unfold strM at hv1 ⊢
            rw [zf0, ← hv1, hlc]
          first
            | exact ih (i + 1) _ _ _ _ _ (by omega) ho hz hsA.symm (by rw [hsM, if_pos (Int32.not_le.mp h85)])
            | exact ih (i + 1) _ _ _ _ _ (by omega) ho hz hsA.symm (by rw [hsM, if_neg (Int32.not_lt.mpr h85)])
      · refine zb L_nextToStrike_s60 rfl ?_
        refine zcallV L_nextToStrike_d67 k5_114 (by omega) (x_hear (b := i) hF hdd (by omega) hilt ho) rfl rfl rfl (Nat.le_of_ble_eq_true rfl) ?_
        rintro _ μ1 ⟨rfl, hz1, l0, hr⟩
        replace hz := hz.tr hz1
        replace ho := ho.q hz1
        refine zb L_nextToStrike_s70 rfl ?_
        refine z_cle L_nextToStrike_d85 (tgt := 98) rfl (fun h85 => ?_) (fun h85 => ?_)
        · refine zb L_nextToStrike_s98 rfl ?_
          rw [nI_1]
          rw [hsz2] at h32
          have hlc : lyC F dd h n cc i = (μ1.1 5 6, μ1.1 5 7) := by
            first
              | (have hlt : i < n := (nI_ltI (by omega) (by omega)).mp (Int32.not_le.mp h32)
                 have k := tp_in (c := cc) hlt
                 rw [ei, hci] at h57 hr
                 first
                   | exact lyC_is (k.2.1 h57) k.1 hr.1 hr.2.1
                   | exact lyC_is (k.2.2 h57) k.1 hr.1 hr.2.1)
              | (have hge : ¬ i < n := fun z => absurd h32 (nI_ge z (by omega))
                 have k := tp_out (c := cc) hge
                 exact lyC_is k.2 k.1 hr.1 hr.2.1)
              | exact absurd rfl h57
          have hsA : strA F dd h n cc (i + 1) = all * μ1.1 5 6 := by
            unfold strA at hv0 ⊢
            rw [zf0, ← hv0, hlc]
          have hsM : strM F dd h n cc (i + 1) = if most < μ1.1 5 7 then (nI i, μ1.1 5 7) else (bell, most) := by
            unfold strM at hv1 ⊢
            rw [zf0, ← hv1, hlc]
          first
            | exact ih (i + 1) _ _ _ _ _ (by omega) ho hz hsA.symm (by rw [hsM, if_pos (Int32.not_le.mp h85)])
            | exact ih (i + 1) _ _ _ _ _ (by omega) ho hz hsA.symm (by rw [hsM, if_neg (Int32.not_lt.mpr h85)])
        · refine zb L_nextToStrike_s88 rfl ?_
          rw [nI_1]
          rw [hsz2] at h32
          have hlc : lyC F dd h n cc i = (μ1.1 5 6, μ1.1 5 7) := by
            first
              | (have hlt : i < n := (nI_ltI (by omega) (by omega)).mp (Int32.not_le.mp h32)
                 have k := tp_in (c := cc) hlt
                 rw [ei, hci] at h57 hr
                 first
                   | exact lyC_is (k.2.1 h57) k.1 hr.1 hr.2.1
                   | exact lyC_is (k.2.2 h57) k.1 hr.1 hr.2.1)
              | (have hge : ¬ i < n := fun z => absurd h32 (nI_ge z (by omega))
                 have k := tp_out (c := cc) hge
                 exact lyC_is k.2 k.1 hr.1 hr.2.1)
              | exact absurd rfl h57
          have hsA : strA F dd h n cc (i + 1) = all * μ1.1 5 6 := by
            unfold strA at hv0 ⊢
            rw [zf0, ← hv0, hlc]
          have hsM : strM F dd h n cc (i + 1) = if most < μ1.1 5 7 then (nI i, μ1.1 5 7) else (bell, most) := by
            unfold strM at hv1 ⊢
            rw [zf0, ← hv1, hlc]
          first
            | exact ih (i + 1) _ _ _ _ _ (by omega) ho hz hsA.symm (by rw [hsM, if_pos (Int32.not_le.mp h85)])
            | exact ih (i + 1) _ _ _ _ _ (by omega) ho hz hsA.symm (by rw [hsM, if_neg (Int32.not_lt.mpr h85)])

set_option maxRecDepth 100000 in
set_option maxHeartbeats 4000000 in
theorem x_strikeN_5 {g : zG} {d : Nat} {F : zF} {μ0 : zMem} {dd h w : Int32} {n : Nat} {cc : Nat → Int32} (hn : n ≤ 60) (hsz : μ0.1 18 3 = nI n) (hce : ∀ t, t < 60 → (μ0.2.1 24 t).toInt32 = cc t) (hF : okF F) (hdd : 0 ≤ dd) (hd : 7 ≤ d) (ho : oX F μ0) : zM g d L_nextToStrike [.ref 5, .ref 18, .int h, .int dd, .int w] μ0 (fun r μ' => r = some (.int (strC F dd h n cc w)) ∧ zq sX μ0 μ') := by
  refine zM_of (by decide +kernel) rfl rfl (Nat.le_of_ble_eq_true rfl) rfl ?_
  refine zb L_nextToStrike_s0 rfl ?_
  exact w_strike_5 hn hsz hce hF hdd hd (fB F) 0 _ _ _ _ μ0 (by omega) ho zq.rf rfl rfl

set_option maxRecDepth 100000 in
set_option maxHeartbeats 4000000 in
theorem xs_strike_5 {g : zG} {d : Nat} {S : zS} {μ : zMem} {hd w : Int32} (hF : okF S.1) (hd9 : 8 ≤ d) (hS : xS S μ) (hok : okH S) : zM g d X_strike [.ref 1, .int (nI 5), .int hd, .int w] μ (fun r μ' => r = some (.int (opStrike S (nI 5) hd w)) ∧ zq sX μ μ') := by
  refine zM_of (by decide +kernel) rfl rfl (Nat.le_of_ble_eq_true rfl) rfl ?_
  obtain ⟨ho, h2, hT, hC, hD, hI, hA, hH⟩ := hS
  have hS : xS S μ := ⟨ho, h2, hT, hC, hD, hI, hA, hH⟩
  have hb := ho.b
  have hv := ho.v
  have hB6 := ho.b6
  have hV12 := ho.v12
  have hz : zq sX μ μ := zq.rf
  have xs := xsh (s := 5) hS hok (by omega)
  have hF9 := hF
  refine zb X_strike_s0 rfl ?_
  refine zcallV X_strike_d2 k10_93 (by omega) (x_shelf_5 (by omega)) rfl rfl rfl (Nat.le_of_ble_eq_true rfl) ?_
  rintro _ μx ⟨rfl, hx⟩
  rw [hx]
  clear hx μx
  refine zb X_strike_s5 rfl ?_
  refine z_null X_strike_d9 ?_
  refine zb X_strike_s12 rfl ?_
  refine zcallS X_strike_d13 k10_237 (by omega) (x_isHourDays _) rfl rfl (Nat.le_of_ble_eq_true rfl) ?_
  rintro _ μx ⟨rfl, hx⟩
  rw [hx]
  clear hx μx
  refine z_eq X_strike_d16 (tgt := 27) rfl (fun h16 => ?_) (fun h16 => ?_)
  · refine zb X_strike_s27 rfl ?_
    refine z_ret X_strike_d28 rfl ?_
    refine ⟨congrArg (fun z => some (Value.int z)) ?_, hz⟩
    unfold opStrike
    rw [show (nI 5).toNatClampNeg = 5 from rfl]
    first
      | rw [if_neg (fun z => (show ¬ htim hd from zB_eq0.mp h16) z.2.1)]
      | rw [if_neg (fun z => (show ¬ (0 ≤ w ∧ w ≤ 2) from zB_eq0.mp h24) z.2.2)]
      | (rw [if_pos (And.intro (And.intro (by decide) (by decide)) (And.intro (show htim hd from zB_ne0.mp h16) (show 0 ≤ w ∧ w ≤ 2 from zB_ne0.mp h24)))]
         first
           | (unfold barW
              rw [if_neg (show ¬ hHeld S 5 = 0 by rw [g2.1]; decide), if_pos g2, em, nI_clamp (by omega), str_eq hF ho.b6 ho.v12]
              rfl)
           | (unfold barW
              by_cases z : bE 18 μ
              · rw [if_pos z]
                rcases xs with y | y | y
                · rw [if_pos y.1]
                · exact absurd z y.2.1
                · exact absurd z y.2.1
              · rw [if_neg z]
                rw [if_neg z] at h39
                by_cases u : bR 18 μ ∧ μ.1 18 2 = 1
                · rw [if_pos u] at h39; exact absurd rfl h39
                · rw [if_neg u]
                  rcases xs with y | y | y
                  · exact absurd y.2.1 z
                  · rw [y.1, if_neg (by decide), if_neg (fun v => absurd v.1 (by decide))]
                  · rw [y.1, if_neg (by decide), if_neg (fun v => u ⟨y.2.2.1, y.2.2.2.1.trans v.2⟩)]))
  · refine zb X_strike_s19 rfl ?_
    refine zcallS X_strike_d21 k10_170 (by omega) (x_isWithin _ _) rfl rfl (Nat.le_of_ble_eq_true rfl) ?_
    rintro _ μx ⟨rfl, hx⟩
    rw [hx]
    clear hx μx
    refine z_ne X_strike_d24 (tgt := 29) rfl (fun h24 => ?_) (fun h24 => ?_)
    · refine zb X_strike_s29 rfl ?_
      refine zcallV X_strike_d32 k10_247 (by omega) (x_refFor_5 (by omega)) rfl rfl rfl (Nat.le_of_ble_eq_true rfl) ?_
      rintro _ μx ⟨rfl, hx⟩
      rw [hx]
      clear hx μx
      refine zb X_strike_s35 rfl ?_
      refine z_eq X_strike_d39 (tgt := 47) rfl (fun h39 => ?_) (fun h39 => ?_)
      · have g1 : ¬ bE 18 μ ∧ bR 18 μ ∧ μ.1 18 2 = 1 := by
          by_cases z : bE 18 μ
          · rw [if_pos z] at h39; exact absurd h39 (by decide)
          · rw [if_neg z] at h39
            by_cases y : bR 18 μ ∧ μ.1 18 2 = 1
            · exact ⟨z, y⟩
            · rw [if_neg y] at h39; exact absurd h39 (by decide)
        have g2 : hHeld S 5 = 2 ∧ hSort S 5 = 1 := by
          rcases xs with z | z | z
          · exact absurd z.2.1 g1.1
          · exact absurd g1.2.1 z.2.2.1
          · exact And.intro z.1 (z.2.2.2.1.symm.trans g1.2.2)
        obtain ⟨m, hm, em, hrow⟩ : ∃ m, m ≤ 60 ∧ hSize S 5 = nI m ∧ (∀ i, i < 60 → (hInt S 5 i).toInt64 = hCell S 5 i) := by
          rcases hok 5 (by omega) with z | z | z
          · rw [g2.1] at z; exact absurd z (by decide)
          · rw [g2.1] at z; exact absurd z.1 (by decide)
          · obtain ⟨m, h1, h2⟩ := z.2.2.1
            exact ⟨m, h1, h2, z.2.2.2 g2.2⟩
        have hszS : μ.1 18 3 = nI m := (xS_hz (s := 5) hS (by omega) g2.1).trans em
        have hceS : ∀ t, t < 60 → (μ.2.1 24 t).toInt32 = hInt S 5 t := xS_hc (s := 5) hS (by omega)
        have q2 : htim hd := zB_ne0.mp h16
        refine zb2 X_strike_s47 rfl (by decide) (by decide) ?_
        refine zcallV X_strike_d62 k10_250 (by omega) (x_strikeN_5 (dd := hro hd) hm hszS hceS hF (hro_nn q2.1) (by omega) ho) rfl rfl rfl (Nat.le_of_ble_eq_true rfl) ?_
        rintro _ μ1 ⟨rfl, hz1⟩
        replace hz := hz.tr hz1
        replace ho := ho.q hz1
        clear hz1
        refine z_ret X_strike_d65 rfl ?_
        refine ⟨congrArg (fun z => some (Value.int z)) ?_, hz⟩
        unfold opStrike
        rw [show (nI 5).toNatClampNeg = 5 from rfl]
        first
          | rw [if_neg (fun z => (show ¬ htim hd from zB_eq0.mp h16) z.2.1)]
          | rw [if_neg (fun z => (show ¬ (0 ≤ w ∧ w ≤ 2) from zB_eq0.mp h24) z.2.2)]
          | (rw [if_pos (And.intro (And.intro (by decide) (by decide)) (And.intro (show htim hd from zB_ne0.mp h16) (show 0 ≤ w ∧ w ≤ 2 from zB_ne0.mp h24)))]
             first
               | (unfold barW
                  rw [if_neg (show ¬ hHeld S 5 = 0 by rw [g2.1]; decide), if_pos g2, em, nI_clamp (by omega), str_eq hF ho.b6 ho.v12]
                  rfl)
               | (unfold barW
                  by_cases z : bE 18 μ
                  · rw [if_pos z]
                    rcases xs with y | y | y
                    · rw [if_pos y.1]
                    · exact absurd z y.2.1
                    · exact absurd z y.2.1
                  · rw [if_neg z]
                    rw [if_neg z] at h39
                    by_cases u : bR 18 μ ∧ μ.1 18 2 = 1
                    · rw [if_pos u] at h39; exact absurd rfl h39
                    · rw [if_neg u]
                      rcases xs with y | y | y
                      · exact absurd y.2.1 z
                      · rw [y.1, if_neg (by decide), if_neg (fun v => absurd v.1 (by decide))]
                      · rw [y.1, if_neg (by decide), if_neg (fun v => u ⟨y.2.2.1, y.2.2.2.1.trans v.2⟩)]))
      · refine zb X_strike_s42 rfl ?_
        refine z_ret X_strike_d65 rfl ?_
        refine ⟨congrArg (fun z => some (Value.int z)) ?_, hz⟩
        unfold opStrike
        rw [show (nI 5).toNatClampNeg = 5 from rfl]
        first
          | rw [if_neg (fun z => (show ¬ htim hd from zB_eq0.mp h16) z.2.1)]
          | rw [if_neg (fun z => (show ¬ (0 ≤ w ∧ w ≤ 2) from zB_eq0.mp h24) z.2.2)]
          | (rw [if_pos (And.intro (And.intro (by decide) (by decide)) (And.intro (show htim hd from zB_ne0.mp h16) (show 0 ≤ w ∧ w ≤ 2 from zB_ne0.mp h24)))]
             first
               | (unfold barW
                  rw [if_neg (show ¬ hHeld S 5 = 0 by rw [g2.1]; decide), if_pos g2, em, nI_clamp (by omega), str_eq hF ho.b6 ho.v12]
                  rfl)
               | (unfold barW
                  by_cases z : bE 18 μ
                  · rw [if_pos z]
                    rcases xs with y | y | y
                    · rw [if_pos y.1]
                    · exact absurd z y.2.1
                    · exact absurd z y.2.1
                  · rw [if_neg z]
                    rw [if_neg z] at h39
                    by_cases u : bR 18 μ ∧ μ.1 18 2 = 1
                    · rw [if_pos u] at h39; exact absurd rfl h39
                    · rw [if_neg u]
                      rcases xs with y | y | y
                      · exact absurd y.2.1 z
                      · rw [y.1, if_neg (by decide), if_neg (fun v => absurd v.1 (by decide))]
                      · rw [y.1, if_neg (by decide), if_neg (fun v => u ⟨y.2.2.1, y.2.2.2.1.trans v.2⟩)]))
    · refine zb X_strike_s27 rfl ?_
      refine z_ret X_strike_d28 rfl ?_
      refine ⟨congrArg (fun z => some (Value.int z)) ?_, hz⟩
      unfold opStrike
      rw [show (nI 5).toNatClampNeg = 5 from rfl]
      first
        | rw [if_neg (fun z => (show ¬ htim hd from zB_eq0.mp h16) z.2.1)]
        | rw [if_neg (fun z => (show ¬ (0 ≤ w ∧ w ≤ 2) from zB_eq0.mp h24) z.2.2)]
        | (rw [if_pos (And.intro (And.intro (by decide) (by decide)) (And.intro (show htim hd from zB_ne0.mp h16) (show 0 ≤ w ∧ w ≤ 2 from zB_ne0.mp h24)))]
           first
             | (unfold barW
                rw [if_neg (show ¬ hHeld S 5 = 0 by rw [g2.1]; decide), if_pos g2, em, nI_clamp (by omega), str_eq hF ho.b6 ho.v12]
                rfl)
             | (unfold barW
                by_cases z : bE 18 μ
                · rw [if_pos z]
                  rcases xs with y | y | y
                  · rw [if_pos y.1]
                  · exact absurd z y.2.1
                  · exact absurd z y.2.1
                · rw [if_neg z]
                  rw [if_neg z] at h39
                  by_cases u : bR 18 μ ∧ μ.1 18 2 = 1
                  · rw [if_pos u] at h39; exact absurd rfl h39
                  · rw [if_neg u]
                    rcases xs with y | y | y
                    · exact absurd y.2.1 z
                    · rw [y.1, if_neg (by decide), if_neg (fun v => absurd v.1 (by decide))]
                    · rw [y.1, if_neg (by decide), if_neg (fun v => u ⟨y.2.2.1, y.2.2.2.1.trans v.2⟩)]))

set_option maxRecDepth 100000 in
set_option maxHeartbeats 4000000 in
theorem w_judge_5 {g : zG} {d : Nat} {F : zF} {μ0 : zMem} {b D : Nat} {h : Int32} {n : Nat} {cc : Nat → Int32} (hn : n ≤ 60) (hsz : μ0.1 18 3 = nI n) (hce : ∀ t, t < 60 → (μ0.2.1 24 t).toInt32 = cc t) (hrow : ∀ i, i < 60 → (cc i).toInt64 = μ0.2.1 24 i) (hF : okF F) (hb : b < fB F) (hD : D ≤ 998) (hd : 6 ≤ d) : ∀ (j i : Nat) (μ : zMem), i + j = n → oX F μ → zq sX μ0 μ → (zfind (fun i => ¬ judP F b D h cc i) i j = judW F b D h cc n) → zW g L_firstNotSo d 3 [some (.ref 5), some (.ref 18), some (.int (nI b)), some (.int (nI D)), some (.int h), some (.int (nI i))] [] μ (fun r μ' => r = some (.int (judW F b D h cc n)) ∧ zq sX μ0 μ') := by
  intro j
  induction j with
  | zero =>
    intro i  μ hi ho hz hv0
    have h6 := ho.b6
    have hsz2 : μ.1 18 3 = nI n := by rw [hz.1 18 3 rfl]; exact hsz
    have hce2 : ∀ t, t < 60 → (μ.2.1 24 t).toInt32 = cc t := fun t ht => by rw [hz.2]; exact hce t ht
    have hi : n = i := by omega
    subst hi
    refine zb L_firstNotSo_s3 rfl ?_
    refine z_cge L_firstNotSo_d9 (tgt := 67) rfl (fun h9 => ?_) (fun h9 => absurd (show μ.1 18 3 ≤ nI n by rw [hsz2]; exact Int32.le_refl _) h9)
    refine zb L_firstNotSo_s67 rfl ?_
    refine z_ret L_firstNotSo_d69 rfl ?_
    exact ⟨by rw [← hv0]; rfl, hz⟩
  | succ j ih =>
    intro i  μ hi ho hz hv0
    have h6 := ho.b6
    have hsz2 : μ.1 18 3 = nI n := by rw [hz.1 18 3 rfl]; exact hsz
    have hce2 : ∀ t, t < 60 → (μ.2.1 24 t).toInt32 = cc t := fun t ht => by rw [hz.2]; exact hce t ht
    have hilt : i < n := by omega
    have ei : (nI i).toNatClampNeg = i := nI_clamp (by omega)
    have hi60 : i < 60 := by omega
    have hvi : vp_in (nI i) 60 := vp_in_nI (by omega) (by omega)
    have hvb : vp_in (nI b) 6 := vp_in_nI (by omega) (by omega)
    have eb : (nI b).toNatClampNeg = b := nI_clamp (by omega)
    have e54 := ho.e54
    have hcL : μ.2.1 24 i = (cc i).toInt64 := by rw [hz.2]; exact (hrow i hi60).symm
    simp only [zfind] at hv0
    refine zb L_firstNotSo_s3 rfl ?_
    refine z_cge L_firstNotSo_d9 (tgt := 67) rfl (fun h9 => absurd h9 (show ¬ μ.1 18 3 ≤ nI i by rw [hsz2]; exact nI_ge hilt (by omega))) (fun h9 => ?_)
    refine zb L_firstNotSo_s12 rfl ?_
    rw [nI_add]
    refine z_cgt L_firstNotSo_d19 (tgt := 58) rfl (fun h19 => ?_) (fun h19 => ?_)
    · refine zb L_firstNotSo_s58 rfl ?_
      refine z_ret L_firstNotSo_d60 rfl ?_
      have hj : ¬ judP F b D h cc i := fun z => by
        first
          | exact absurd h19 (Int32.not_lt.mpr (nI_le (b := 998) z.1 (by omega)))
          | exact h55 (lg_eq.mpr (congrArg Int32.toInt64 z.2))
      rw [if_pos hj] at hv0
      exact ⟨by rw [hv0], hz⟩
    · refine zb1 L_firstNotSo_s22 rfl (by first | exact hvi | exact hvb) ?_
      rw [nI_add, e54, eb]
      refine zcallV L_firstNotSo_d42 k5_60 (by omega) (x_offOf hF (by omega) ho) rfl rfl rfl (Nat.le_of_ble_eq_true rfl) ?_
      rintro _ μ1 ⟨rfl, hz1⟩
      replace hz := hz.tr hz1
      replace ho := ho.q hz1
      refine zb1 L_firstNotSo_s45 rfl (by first | exact hvi | exact hvb) ?_
      have hcL2 : μ1.2.1 24 (nI i).toNatClampNeg = (cc i).toInt64 := by rw [ei, hz1.2]; exact hcL
      rw [hcL2]
      refine z_eq L_firstNotSo_d55 (tgt := 61) rfl (fun h55 => ?_) (fun h55 => ?_)
      · refine zb L_firstNotSo_s61 rfl ?_
        rw [nI_1]
        have hj : judP F b D h cc i := ⟨(nI_leI (b := 998) (by omega) (by omega)).mp (Int32.not_lt.mp h19), i64_inj (lg_eq.mp h55)⟩
        rw [if_neg (fun z => z hj)] at hv0
        exact ih (i + 1) _ (by omega) ho hz hv0
      · refine zb L_firstNotSo_s58 rfl ?_
        refine z_ret L_firstNotSo_d60 rfl ?_
        have hj : ¬ judP F b D h cc i := fun z => by
          first
            | exact absurd h19 (Int32.not_lt.mpr (nI_le (b := 998) z.1 (by omega)))
            | exact h55 (lg_eq.mpr (congrArg Int32.toInt64 z.2))
        rw [if_pos hj] at hv0
        exact ⟨by rw [hv0], hz⟩

set_option maxRecDepth 100000 in
set_option maxHeartbeats 4000000 in
theorem x_judgeN_5 {g : zG} {d : Nat} {F : zF} {μ0 : zMem} {b D : Nat} {h : Int32} {n : Nat} {cc : Nat → Int32} (hn : n ≤ 60) (hsz : μ0.1 18 3 = nI n) (hce : ∀ t, t < 60 → (μ0.2.1 24 t).toInt32 = cc t) (hrow : ∀ i, i < 60 → (cc i).toInt64 = μ0.2.1 24 i) (hF : okF F) (hb : b < fB F) (hD : D ≤ 998) (hd : 6 ≤ d) (ho : oX F μ0) : zM g d L_firstNotSo [.ref 5, .ref 18, .int (nI b), .int (nI D), .int h] μ0 (fun r μ' => r = some (.int (judW F b D h cc n)) ∧ zq sX μ0 μ') := by
  refine zM_of (by decide +kernel) rfl rfl (Nat.le_of_ble_eq_true rfl) rfl ?_
  refine zb L_firstNotSo_s0 rfl ?_
  exact w_judge_5 hn hsz hce hrow hF hb hD hd n 0 μ0 (by omega) ho zq.rf rfl

set_option maxRecDepth 100000 in
set_option maxHeartbeats 4000000 in
theorem xs_judge_5 {g : zG} {d : Nat} {S : zS} {μ : zMem} {b dh : Int32} (hF : okF S.1) (hd9 : 8 ≤ d) (hS : xS S μ) (hok : okH S) : zM g d X_judge [.ref 1, .int (nI 5), .int b, .int dh] μ (fun r μ' => r = some (.int (opJudge S (nI 5) b dh)) ∧ zq sX μ μ') := by
  refine zM_of (by decide +kernel) rfl rfl (Nat.le_of_ble_eq_true rfl) rfl ?_
  obtain ⟨ho, h2, hT, hC, hD, hI, hA, hH⟩ := hS
  have hS : xS S μ := ⟨ho, h2, hT, hC, hD, hI, hA, hH⟩
  have hb := ho.b
  have hv := ho.v
  have hB6 := ho.b6
  have hV12 := ho.v12
  have hz : zq sX μ μ := zq.rf
  have xs := xsh (s := 5) hS hok (by omega)
  have hF9 := hF
  refine zb X_judge_s0 rfl ?_
  refine zcallV X_judge_d2 k10_93 (by omega) (x_shelf_5 (by omega)) rfl rfl rfl (Nat.le_of_ble_eq_true rfl) ?_
  rintro _ μx ⟨rfl, hx⟩
  rw [hx]
  clear hx μx
  refine zb X_judge_s5 rfl ?_
  refine z_null X_judge_d9 ?_
  refine zb X_judge_s12 rfl ?_
  refine zcallV X_judge_d17 k10_167 (by omega) (x_hasBell _ ho) rfl rfl rfl (Nat.le_of_ble_eq_true rfl) ?_
  rintro _ μx ⟨rfl, hx⟩
  rw [hx]
  clear hx μx
  refine z_eq X_judge_d20 (tgt := 30) rfl (fun h20 => ?_) (fun h20 => ?_)
  · refine zb X_judge_s30 rfl ?_
    refine z_ret X_judge_d31 rfl ?_
    refine ⟨congrArg (fun z => some (Value.int z)) ?_, hz⟩
    unfold opJudge
    rw [show (nI 5).toNatClampNeg = 5 from rfl]
    first
      | rw [if_neg (fun z => (show ¬ isB S.1 b from zB_eq0.mp h20) z.2.1)]
      | rw [if_neg (fun z => (show ¬ tim dh from zB_eq0.mp h27) z.2.2)]
      | (rw [if_pos (And.intro (And.intro (by decide) (by decide)) (And.intro q1 q2))]
         unfold barW
         rw [if_neg (show ¬ hHeld S 5 = 0 by rw [g2.1]; decide), if_pos g2, em, nI_clamp (show m < 2 ^ 31 by omega), eb, eD, nI_clamp (show D < 2 ^ 31 by omega)])
      | (rw [if_pos (And.intro (And.intro (by decide) (by decide)) (And.intro (show isB S.1 b from zB_ne0.mp h20) (show tim dh from zB_ne0.mp h27)))]
         unfold barW
         by_cases z : bE 18 μ
         · rw [if_pos z]
           rcases xs with y | y | y
           · rw [if_pos y.1]
           · exact absurd z y.2.1
           · exact absurd z y.2.1
         · rw [if_neg z]
           rw [if_neg z] at h42
           by_cases u : bR 18 μ ∧ μ.1 18 2 = 1
           · rw [if_pos u] at h42; exact absurd rfl h42
           · rw [if_neg u]
             rcases xs with y | y | y
             · exact absurd y.2.1 z
             · rw [y.1, if_neg (by decide), if_neg (fun v => absurd v.1 (by decide))]
             · rw [y.1, if_neg (by decide), if_neg (fun v => u ⟨y.2.2.1, y.2.2.2.1.trans v.2⟩)])
  · refine zb X_judge_s23 rfl ?_
    refine zcallS X_judge_d24 k10_160 (by omega) (x_isDayHour _) rfl rfl (Nat.le_of_ble_eq_true rfl) ?_
    rintro _ μx ⟨rfl, hx⟩
    rw [hx]
    clear hx μx
    refine z_ne X_judge_d27 (tgt := 32) rfl (fun h27 => ?_) (fun h27 => ?_)
    · refine zb X_judge_s32 rfl ?_
      refine zcallV X_judge_d35 k10_247 (by omega) (x_refFor_5 (by omega)) rfl rfl rfl (Nat.le_of_ble_eq_true rfl) ?_
      rintro _ μx ⟨rfl, hx⟩
      rw [hx]
      clear hx μx
      refine zb X_judge_s38 rfl ?_
      refine z_eq X_judge_d42 (tgt := 50) rfl (fun h42 => ?_) (fun h42 => ?_)
      · have g1 : ¬ bE 18 μ ∧ bR 18 μ ∧ μ.1 18 2 = 1 := by
          by_cases z : bE 18 μ
          · rw [if_pos z] at h42; exact absurd h42 (by decide)
          · rw [if_neg z] at h42
            by_cases y : bR 18 μ ∧ μ.1 18 2 = 1
            · exact ⟨z, y⟩
            · rw [if_neg y] at h42; exact absurd h42 (by decide)
        have g2 : hHeld S 5 = 2 ∧ hSort S 5 = 1 := by
          rcases xs with z | z | z
          · exact absurd z.2.1 g1.1
          · exact absurd g1.2.1 z.2.2.1
          · exact And.intro z.1 (z.2.2.2.1.symm.trans g1.2.2)
        obtain ⟨m, hm, em, hrow⟩ : ∃ m, m ≤ 60 ∧ hSize S 5 = nI m ∧ (∀ i, i < 60 → (hInt S 5 i).toInt64 = hCell S 5 i) := by
          rcases hok 5 (by omega) with z | z | z
          · rw [g2.1] at z; exact absurd z (by decide)
          · rw [g2.1] at z; exact absurd z.1 (by decide)
          · obtain ⟨m, h1, h2⟩ := z.2.2.1
            exact ⟨m, h1, h2, z.2.2.2 g2.2⟩
        have hszS : μ.1 18 3 = nI m := (xS_hz (s := 5) hS (by omega) g2.1).trans em
        have hceS : ∀ t, t < 60 → (μ.2.1 24 t).toInt32 = hInt S 5 t := xS_hc (s := 5) hS (by omega)
        have q1 : isB S.1 b := zB_ne0.mp h20
        have q2 : tim dh := zB_ne0.mp h27
        obtain ⟨b, hbB, rfl, eb⟩ := zix q1.1 q1.2 (by omega)
        obtain ⟨D, hD, eD⟩ := nI_of2 (M := 998) (n := 998) rfl (Int32.not_lt.mpr (tim_nn q2)) q2.2.1
        have hrow2 : ∀ i, i < 60 → (hInt S 5 i).toInt64 = μ.2.1 24 i := fun i hi => (hrow i hi).trans ((hS.2.2.2.2.2.2.2 5 (by omega)).2 i hi).symm
        refine zb2 X_judge_s50 rfl (by decide) (by decide) ?_
        rw [show dh - dh / 100 * 100 = hro dh from rfl, eD]
        refine zcallV X_judge_d65 k10_254 (by omega) (x_judgeN_5 (h := hro dh) hm hszS hceS hrow2 hF hbB hD (by omega) ho) rfl rfl rfl (Nat.le_of_ble_eq_true rfl) ?_
        rintro _ μ1 ⟨rfl, hz1⟩
        replace hz := hz.tr hz1
        replace ho := ho.q hz1
        clear hz1
        refine z_ret X_judge_d68 rfl ?_
        refine ⟨congrArg (fun z => some (Value.int z)) ?_, hz⟩
        unfold opJudge
        rw [show (nI 5).toNatClampNeg = 5 from rfl]
        first
          | rw [if_neg (fun z => (show ¬ isB S.1 b from zB_eq0.mp h20) z.2.1)]
          | rw [if_neg (fun z => (show ¬ tim dh from zB_eq0.mp h27) z.2.2)]
          | (rw [if_pos (And.intro (And.intro (by decide) (by decide)) (And.intro q1 q2))]
             unfold barW
             rw [if_neg (show ¬ hHeld S 5 = 0 by rw [g2.1]; decide), if_pos g2, em, nI_clamp (show m < 2 ^ 31 by omega), eb, eD, nI_clamp (show D < 2 ^ 31 by omega)])
          | (rw [if_pos (And.intro (And.intro (by decide) (by decide)) (And.intro (show isB S.1 b from zB_ne0.mp h20) (show tim dh from zB_ne0.mp h27)))]
             unfold barW
             by_cases z : bE 18 μ
             · rw [if_pos z]
               rcases xs with y | y | y
               · rw [if_pos y.1]
               · exact absurd z y.2.1
               · exact absurd z y.2.1
             · rw [if_neg z]
               rw [if_neg z] at h42
               by_cases u : bR 18 μ ∧ μ.1 18 2 = 1
               · rw [if_pos u] at h42; exact absurd rfl h42
               · rw [if_neg u]
                 rcases xs with y | y | y
                 · exact absurd y.2.1 z
                 · rw [y.1, if_neg (by decide), if_neg (fun v => absurd v.1 (by decide))]
                 · rw [y.1, if_neg (by decide), if_neg (fun v => u ⟨y.2.2.1, y.2.2.2.1.trans v.2⟩)])
      · refine zb X_judge_s45 rfl ?_
        refine z_ret X_judge_d68 rfl ?_
        refine ⟨congrArg (fun z => some (Value.int z)) ?_, hz⟩
        unfold opJudge
        rw [show (nI 5).toNatClampNeg = 5 from rfl]
        first
          | rw [if_neg (fun z => (show ¬ isB S.1 b from zB_eq0.mp h20) z.2.1)]
          | rw [if_neg (fun z => (show ¬ tim dh from zB_eq0.mp h27) z.2.2)]
          | (rw [if_pos (And.intro (And.intro (by decide) (by decide)) (And.intro q1 q2))]
             unfold barW
             rw [if_neg (show ¬ hHeld S 5 = 0 by rw [g2.1]; decide), if_pos g2, em, nI_clamp (show m < 2 ^ 31 by omega), eb, eD, nI_clamp (show D < 2 ^ 31 by omega)])
          | (rw [if_pos (And.intro (And.intro (by decide) (by decide)) (And.intro (show isB S.1 b from zB_ne0.mp h20) (show tim dh from zB_ne0.mp h27)))]
             unfold barW
             by_cases z : bE 18 μ
             · rw [if_pos z]
               rcases xs with y | y | y
               · rw [if_pos y.1]
               · exact absurd z y.2.1
               · exact absurd z y.2.1
             · rw [if_neg z]
               rw [if_neg z] at h42
               by_cases u : bR 18 μ ∧ μ.1 18 2 = 1
               · rw [if_pos u] at h42; exact absurd rfl h42
               · rw [if_neg u]
                 rcases xs with y | y | y
                 · exact absurd y.2.1 z
                 · rw [y.1, if_neg (by decide), if_neg (fun v => absurd v.1 (by decide))]
                 · rw [y.1, if_neg (by decide), if_neg (fun v => u ⟨y.2.2.1, y.2.2.2.1.trans v.2⟩)])
    · refine zb X_judge_s30 rfl ?_
      refine z_ret X_judge_d31 rfl ?_
      refine ⟨congrArg (fun z => some (Value.int z)) ?_, hz⟩
      unfold opJudge
      rw [show (nI 5).toNatClampNeg = 5 from rfl]
      first
        | rw [if_neg (fun z => (show ¬ isB S.1 b from zB_eq0.mp h20) z.2.1)]
        | rw [if_neg (fun z => (show ¬ tim dh from zB_eq0.mp h27) z.2.2)]
        | (rw [if_pos (And.intro (And.intro (by decide) (by decide)) (And.intro q1 q2))]
           unfold barW
           rw [if_neg (show ¬ hHeld S 5 = 0 by rw [g2.1]; decide), if_pos g2, em, nI_clamp (show m < 2 ^ 31 by omega), eb, eD, nI_clamp (show D < 2 ^ 31 by omega)])
        | (rw [if_pos (And.intro (And.intro (by decide) (by decide)) (And.intro (show isB S.1 b from zB_ne0.mp h20) (show tim dh from zB_ne0.mp h27)))]
           unfold barW
           by_cases z : bE 18 μ
           · rw [if_pos z]
             rcases xs with y | y | y
             · rw [if_pos y.1]
             · exact absurd z y.2.1
             · exact absurd z y.2.1
           · rw [if_neg z]
             rw [if_neg z] at h42
             by_cases u : bR 18 μ ∧ μ.1 18 2 = 1
             · rw [if_pos u] at h42; exact absurd rfl h42
             · rw [if_neg u]
               rcases xs with y | y | y
               · exact absurd y.2.1 z
               · rw [y.1, if_neg (by decide), if_neg (fun v => absurd v.1 (by decide))]
               · rw [y.1, if_neg (by decide), if_neg (fun v => u ⟨y.2.2.1, y.2.2.2.1.trans v.2⟩)])

set_option maxRecDepth 100000 in
set_option maxHeartbeats 4000000 in
theorem xs_strike_o {g : zG} {d : Nat} {S : zS} {μ : zMem} {s hd w : Int32} (hd9 : 8 ≤ d) (hs : ¬ (0 ≤ s ∧ s ≤ 5)) : zM g d X_strike [.ref 1, .int s, .int hd, .int w] μ (fun r μ' => r = some (.int (opStrike S s hd w)) ∧ zq sX μ μ') := by
  refine zM_of (by decide +kernel) rfl rfl (Nat.le_of_ble_eq_true rfl) rfl ?_
  refine zb X_strike_s0 rfl ?_
  refine zcallV X_strike_d2 k10_93 (by omega) (x_shelf_out (by omega) hs) rfl rfl rfl (Nat.le_of_ble_eq_true rfl) ?_
  rintro _ μx ⟨rfl, hx⟩
  rw [hx]
  clear hx μx
  refine zb X_strike_s5 rfl ?_
  refine z_nullN X_strike_d9 (tgt := 27) rfl ?_
  refine zb X_strike_s27 rfl ?_
  refine z_ret X_strike_d28 rfl ?_
  unfold opStrike
  rw [if_neg (fun z => hs (g6 z.1))]
  exact ⟨rfl, zq.rf⟩

set_option maxRecDepth 100000 in
set_option maxHeartbeats 4000000 in
theorem xs_judge_o {g : zG} {d : Nat} {S : zS} {μ : zMem} {s b dh : Int32} (hd9 : 8 ≤ d) (hs : ¬ (0 ≤ s ∧ s ≤ 5)) : zM g d X_judge [.ref 1, .int s, .int b, .int dh] μ (fun r μ' => r = some (.int (opJudge S s b dh)) ∧ zq sX μ μ') := by
  refine zM_of (by decide +kernel) rfl rfl (Nat.le_of_ble_eq_true rfl) rfl ?_
  refine zb X_judge_s0 rfl ?_
  refine zcallV X_judge_d2 k10_93 (by omega) (x_shelf_out (by omega) hs) rfl rfl rfl (Nat.le_of_ble_eq_true rfl) ?_
  rintro _ μx ⟨rfl, hx⟩
  rw [hx]
  clear hx μx
  refine zb X_judge_s5 rfl ?_
  refine z_nullN X_judge_d9 (tgt := 30) rfl ?_
  refine zb X_judge_s30 rfl ?_
  refine z_ret X_judge_d31 rfl ?_
  unfold opJudge
  rw [if_neg (fun z => hs (g6 z.1))]
  exact ⟨rfl, zq.rf⟩

theorem xs_strike {g : zG} {d : Nat} {S : zS} {μ : zMem} {s hd w : Int32} (hF : okF S.1) (hd9 : 8 ≤ d) (hS : xS S μ) (hok : okH S) : zM g d X_strike [.ref 1, .int s, .int hd, .int w] μ (fun r μ' => r = some (.int (opStrike S s hd w)) ∧ zq sX μ μ') := by
  by_cases hs : 0 ≤ s ∧ s ≤ 5
  · rcases s5 hs with rfl | rfl | rfl | rfl | rfl | rfl
    · exact xs_strike_0 hF hd9 hS hok
    · exact xs_strike_1 hF hd9 hS hok
    · exact xs_strike_2 hF hd9 hS hok
    · exact xs_strike_3 hF hd9 hS hok
    · exact xs_strike_4 hF hd9 hS hok
    · exact xs_strike_5 hF hd9 hS hok
  · exact xs_strike_o hd9 hs

theorem xs_judge {g : zG} {d : Nat} {S : zS} {μ : zMem} {s b dh : Int32} (hF : okF S.1) (hd9 : 8 ≤ d) (hS : xS S μ) (hok : okH S) : zM g d X_judge [.ref 1, .int s, .int b, .int dh] μ (fun r μ' => r = some (.int (opJudge S s b dh)) ∧ zq sX μ μ') := by
  by_cases hs : 0 ≤ s ∧ s ≤ 5
  · rcases s5 hs with rfl | rfl | rfl | rfl | rfl | rfl
    · exact xs_judge_0 hF hd9 hS hok
    · exact xs_judge_1 hF hd9 hS hok
    · exact xs_judge_2 hF hd9 hS hok
    · exact xs_judge_3 hF hd9 hS hok
    · exact xs_judge_4 hF hd9 hS hok
    · exact xs_judge_5 hF hd9 hS hok
  · exact xs_judge_o hd9 hs
