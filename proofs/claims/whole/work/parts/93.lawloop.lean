/-! the law: its 43 calls, each asked of both -/
abbrev zLn (g : zG) : Nat := g.2.2.2.2.2.1
theorem ix_in {i k L : Nat} (h : i + 6 ≤ L) (hL : L ≤ 3072) (hk : k < 6) : vp_in (nI i + nI k) L := by
  rw [nI_add]
  exact vp_in_nI (by omega) (by omega)
theorem lcmp_0 (x : Int64) : lg_cmp x x = 0 := by
  unfold lg_cmp
  simp
abbrev lwls (i : Nat) : List (Option Value) := [some (.ref 100), some (.ref 1), some (.ref 0), some (.int (nI i))]
theorem w_W_bell {g : zG} {d i : Nat} {S : zS} {μ : zMem} {Q : Option Value → zMem → Prop} (hd : 64 ≤ d) (hi : i + 6 ≤ zLn g) (hL : zLn g ≤ 3072) (hb : bS S μ) (hk : okS S) (K : ∀ S2 μ2, bS S2 μ2 → okS S2 → zW g W_law d 1680 (lwls i) [] μ2 Q) : zW g W_law d 220 (lwls i) [] μ Q := by
  have hv1 : vp_in (nI i + nI 1) (zLn g) := ix_in hi hL (by omega)
  refine zb1 W_law_s220 rfl hv1 ?_
  refine zcallV W_law_d226 k12_13 (by omega) (xs_bell (S := S) (by omega) hb.1) rfl rfl rfl (Nat.le_of_ble_eq_true rfl) ?_
  rintro _ μ1 ⟨rfl, hX1, hO1⟩
  have hM1 := mS_onlyX hb.2 hO1
  refine zb1 W_law_s229 rfl hv1 ?_
  refine zcallV W_law_d235 k12_17 (by omega) (s_M_bell (S := S) (by omega) hM1) rfl rfl rfl (Nat.le_of_ble_eq_true rfl) ?_
  rintro _ μ2 ⟨rfl, hM2, hO2⟩
  refine z_ceq W_law_d238 (tgt := 1680) rfl (fun _ => K _ μ2 ⟨xS_onlyM hX1 hO2, hM2⟩ (ok_bell hk hb.bd)) (fun z => absurd rfl z)
theorem w_W_vow {g : zG} {d i : Nat} {S : zS} {μ : zMem} {Q : Option Value → zMem → Prop} (hd : 64 ≤ d) (hi : i + 6 ≤ zLn g) (hL : zLn g ≤ 3072) (hb : bS S μ) (hk : okS S) (K : ∀ S2 μ2, bS S2 μ2 → okS S2 → zW g W_law d 1680 (lwls i) [] μ2 Q) : zW g W_law d 243 (lwls i) [] μ Q := by
  have hv1 : vp_in (nI i + nI 1) (zLn g) := ix_in hi hL (by omega)
  have hv2 : vp_in (nI i + nI 2) (zLn g) := ix_in hi hL (by omega)
  refine zb2 W_law_s243 rfl hv1 hv2 ?_
  refine zcallV W_law_d254 k12_18 (by omega) (xs_vow (S := S) (by omega) hb.1) rfl rfl rfl (Nat.le_of_ble_eq_true rfl) ?_
  rintro _ μ1 ⟨rfl, hX1, hO1⟩
  have hM1 := mS_onlyX hb.2 hO1
  refine zb2 W_law_s257 rfl hv1 hv2 ?_
  refine zcallV W_law_d268 k12_22 (by omega) (s_M_vow (S := S) (by omega) hM1) rfl rfl rfl (Nat.le_of_ble_eq_true rfl) ?_
  rintro _ μ2 ⟨rfl, hM2, hO2⟩
  refine z_ceq W_law_d271 (tgt := 1680) rfl (fun _ => K _ μ2 ⟨xS_onlyM hX1 hO2, hM2⟩ (ok_vow hk hb.bd)) (fun z => absurd rfl z)
theorem w_W_vows {g : zG} {d i : Nat} {S : zS} {μ : zMem} {Q : Option Value → zMem → Prop} (hd : 64 ≤ d) (hi : i + 6 ≤ zLn g) (hL : zLn g ≤ 3072) (hb : bS S μ) (hk : okS S) (K : ∀ S2 μ2, bS S2 μ2 → okS S2 → zW g W_law d 1680 (lwls i) [] μ2 Q) : zW g W_law d 276 (lwls i) [] μ Q := by
  have hv1 : vp_in (nI i + nI 1) (zLn g) := ix_in hi hL (by omega)
  have hv2 : vp_in (nI i + nI 2) (zLn g) := ix_in hi hL (by omega)
  have hv3 : vp_in (nI i + nI 3) (zLn g) := ix_in hi hL (by omega)
  refine zb3 W_law_s276 rfl hv1 hv2 hv3 ?_
  refine zcallV W_law_d292 k12_23 (by omega) (xs_vows (S := S) (by omega) hb.1 hk.2.2.2.1) rfl rfl rfl (Nat.le_of_ble_eq_true rfl) ?_
  rintro _ μ1 ⟨rfl, hX1, hO1⟩
  have hM1 := mS_onlyX hb.2 hO1
  refine zb3 W_law_s295 rfl hv1 hv2 hv3 ?_
  refine zcallV W_law_d311 k12_27 (by omega) (s_M_vows (S := S) (by omega) hM1 hk.2.2.2.1) rfl rfl rfl (Nat.le_of_ble_eq_true rfl) ?_
  rintro _ μ2 ⟨rfl, hM2, hO2⟩
  refine z_ceq W_law_d314 (tgt := 1680) rfl (fun _ => K _ μ2 ⟨xS_onlyM hX1 hO2, hM2⟩ (ok_vows hk hb.bd)) (fun z => absurd rfl z)
theorem w_W_mend {g : zG} {d i : Nat} {S : zS} {μ : zMem} {Q : Option Value → zMem → Prop} (hd : 64 ≤ d) (hi : i + 6 ≤ zLn g) (hL : zLn g ≤ 3072) (hb : bS S μ) (hk : okS S) (K : ∀ S2 μ2, bS S2 μ2 → okS S2 → zW g W_law d 1680 (lwls i) [] μ2 Q) : zW g W_law d 319 (lwls i) [] μ Q := by
  have hv1 : vp_in (nI i + nI 1) (zLn g) := ix_in hi hL (by omega)
  have hv2 : vp_in (nI i + nI 2) (zLn g) := ix_in hi hL (by omega)
  have hv3 : vp_in (nI i + nI 3) (zLn g) := ix_in hi hL (by omega)
  refine zb3 W_law_s319 rfl hv1 hv2 hv3 ?_
  refine zcallV W_law_d335 k12_28 (by omega) (xs_mend (S := S) (by omega) hb.1) rfl rfl rfl (Nat.le_of_ble_eq_true rfl) ?_
  rintro _ μ1 ⟨rfl, hX1, hO1⟩
  have hM1 := mS_onlyX hb.2 hO1
  refine zb3 W_law_s338 rfl hv1 hv2 hv3 ?_
  refine zcallV W_law_d354 k12_31 (by omega) (s_M_mend (S := S) (by omega) hM1) rfl rfl rfl (Nat.le_of_ble_eq_true rfl) ?_
  rintro _ μ2 ⟨rfl, hM2, hO2⟩
  refine z_ceq W_law_d357 (tgt := 1680) rfl (fun _ => K _ μ2 ⟨xS_onlyM hX1 hO2, hM2⟩ (ok_mend hk hb.bd)) (fun z => absurd rfl z)
theorem w_W_of {g : zG} {d i : Nat} {S : zS} {μ : zMem} {Q : Option Value → zMem → Prop} (hd : 64 ≤ d) (hi : i + 6 ≤ zLn g) (hL : zLn g ≤ 3072) (hb : bS S μ) (hk : okS S) (K : ∀ S2 μ2, bS S2 μ2 → okS S2 → zW g W_law d 1680 (lwls i) [] μ2 Q) : zW g W_law d 362 (lwls i) [] μ Q := by
  have hv1 : vp_in (nI i + nI 1) (zLn g) := ix_in hi hL (by omega)
  have hv2 : vp_in (nI i + nI 2) (zLn g) := ix_in hi hL (by omega)
  refine zb2 W_law_s362 rfl hv1 hv2 ?_
  refine zcallV W_law_d373 k12_32 (by omega) (xs_of (S := S) (by omega) hb.1) rfl rfl rfl (Nat.le_of_ble_eq_true rfl) ?_
  rintro _ μ1 ⟨rfl, hX1, hO1⟩
  have hM1 := mS_onlyX hb.2 hO1
  refine zb2 W_law_s376 rfl hv1 hv2 ?_
  refine zcallV W_law_d387 k12_35 (by omega) (s_M_of (S := S) (by omega) hM1) rfl rfl rfl (Nat.le_of_ble_eq_true rfl) ?_
  rintro _ μ2 ⟨rfl, hM2, hO2⟩
  refine z_ceq W_law_d390 (tgt := 1680) rfl (fun _ => K _ μ2 ⟨xS_onlyM hX1 hO2, hM2⟩ hk) (fun z => absurd rfl z)
theorem w_W_feed {g : zG} {d i : Nat} {S : zS} {μ : zMem} {Q : Option Value → zMem → Prop} (hd : 64 ≤ d) (hi : i + 6 ≤ zLn g) (hL : zLn g ≤ 3072) (hb : bS S μ) (hk : okS S) (K : ∀ S2 μ2, bS S2 μ2 → okS S2 → zW g W_law d 1680 (lwls i) [] μ2 Q) : zW g W_law d 395 (lwls i) [] μ Q := by
  have hv1 : vp_in (nI i + nI 1) (zLn g) := ix_in hi hL (by omega)
  refine zb1 W_law_s395 rfl hv1 ?_
  refine zcallV W_law_d401 k12_36 (by omega) (xs_feed (S := S) (by omega) hb.1) rfl rfl rfl (Nat.le_of_ble_eq_true rfl) ?_
  rintro _ μ1 ⟨rfl, hX1, hO1⟩
  have hM1 := mS_onlyX hb.2 hO1
  refine zb1 W_law_s404 rfl hv1 ?_
  refine zcallV W_law_d410 k12_39 (by omega) (s_M_feed (S := S) (by omega) hM1) rfl rfl rfl (Nat.le_of_ble_eq_true rfl) ?_
  rintro _ μ2 ⟨rfl, hM2, hO2⟩
  refine z_ceq W_law_d413 (tgt := 1680) rfl (fun _ => K _ μ2 ⟨xS_onlyM hX1 hO2, hM2⟩ (ok_feed hk hb.bd)) (fun z => absurd rfl z)
theorem w_W_law {g : zG} {d i : Nat} {S : zS} {μ : zMem} {Q : Option Value → zMem → Prop} (hd : 64 ≤ d) (hi : i + 6 ≤ zLn g) (hL : zLn g ≤ 3072) (hb : bS S μ) (hk : okS S) (K : ∀ S2 μ2, bS S2 μ2 → okS S2 → zW g W_law d 1680 (lwls i) [] μ2 Q) : zW g W_law d 418 (lwls i) [] μ Q := by
  refine zb W_law_s418 rfl ?_
  refine zcallV W_law_d419 k12_40 (by omega) (xs_law (S := S) (by omega) hb.1 hk.2.2.2.2.1) rfl rfl rfl (Nat.le_of_ble_eq_true rfl) ?_
  rintro _ μ1 ⟨rfl, hX1, hO1⟩
  have hM1 := mS_onlyX hb.2 hO1
  refine zb W_law_s422 rfl ?_
  refine zcallV W_law_d423 k12_44 (by omega) (s_M_law (S := S) (by omega) hM1) rfl rfl rfl (Nat.le_of_ble_eq_true rfl) ?_
  rintro _ μ2 ⟨rfl, hM2, hO2⟩
  refine z_ceq W_law_d426 (tgt := 1680) rfl (fun _ => K _ μ2 ⟨xS_onlyM hX1 hO2, hM2⟩ (ok_law hk hb.bd)) (fun z => absurd rfl z)
theorem w_W_puts {g : zG} {d i : Nat} {S : zS} {μ : zMem} {Q : Option Value → zMem → Prop} (hd : 64 ≤ d) (hi : i + 6 ≤ zLn g) (hL : zLn g ≤ 3072) (hb : bS S μ) (hk : okS S) (K : ∀ S2 μ2, bS S2 μ2 → okS S2 → zW g W_law d 1680 (lwls i) [] μ2 Q) : zW g W_law d 431 (lwls i) [] μ Q := by
  have hv1 : vp_in (nI i + nI 1) (zLn g) := ix_in hi hL (by omega)
  have hv2 : vp_in (nI i + nI 2) (zLn g) := ix_in hi hL (by omega)
  refine zb2 W_law_s431 rfl hv1 hv2 ?_
  refine zcallV W_law_d442 k12_45 (by omega) (g_X_puts (S := S) hk.1 hk.2.2.2.1 (by omega) hb.1) rfl rfl rfl (Nat.le_of_ble_eq_true rfl) ?_
  rintro _ μ1 ⟨rfl, hX1, hO1⟩
  have hM1 := mS_onlyX hb.2 hO1
  refine zb2 W_law_s445 rfl hv1 hv2 ?_
  refine zcallV W_law_d456 k12_48 (by omega) (g_M_puts (S := S) hk.1 hk.2.2.2.1 (by omega) hM1) rfl rfl rfl (Nat.le_of_ble_eq_true rfl) ?_
  rintro _ μ2 ⟨rfl, hM2, hO2⟩
  refine z_ceq W_law_d459 (tgt := 1680) rfl (fun _ => K _ μ2 ⟨xS_onlyM hX1 hO2, hM2⟩ hk) (fun z => absurd rfl z)
theorem w_W_pitch {g : zG} {d i : Nat} {S : zS} {μ : zMem} {Q : Option Value → zMem → Prop} (hd : 64 ≤ d) (hi : i + 6 ≤ zLn g) (hL : zLn g ≤ 3072) (hb : bS S μ) (hk : okS S) (K : ∀ S2 μ2, bS S2 μ2 → okS S2 → zW g W_law d 1680 (lwls i) [] μ2 Q) : zW g W_law d 464 (lwls i) [] μ Q := by
  have hv1 : vp_in (nI i + nI 1) (zLn g) := ix_in hi hL (by omega)
  have hv2 : vp_in (nI i + nI 2) (zLn g) := ix_in hi hL (by omega)
  have hv3 : vp_in (nI i + nI 3) (zLn g) := ix_in hi hL (by omega)
  refine zb3 W_law_s464 rfl hv1 hv2 hv3 ?_
  refine zcallV W_law_d480 k12_49 (by omega) (g_X_pitch (S := S) hk.1 hk.2.2.2.1 (by omega) hb.1) rfl rfl rfl (Nat.le_of_ble_eq_true rfl) ?_
  rintro _ μ1 ⟨rfl, hX1, hO1⟩
  have hM1 := mS_onlyX hb.2 hO1
  refine zb3 W_law_s483 rfl hv1 hv2 hv3 ?_
  refine zcallV W_law_d499 k12_52 (by omega) (g_M_pitch (S := S) hk.1 hk.2.2.2.1 (by omega) hM1) rfl rfl rfl (Nat.le_of_ble_eq_true rfl) ?_
  rintro _ μ2 ⟨rfl, hM2, hO2⟩
  refine z_ceq W_law_d502 (tgt := 1680) rfl (fun _ => K _ μ2 ⟨xS_onlyM hX1 hO2, hM2⟩ hk) (fun z => absurd rfl z)
theorem w_W_town {g : zG} {d i : Nat} {S : zS} {μ : zMem} {Q : Option Value → zMem → Prop} (hd : 64 ≤ d) (hi : i + 6 ≤ zLn g) (hL : zLn g ≤ 3072) (hb : bS S μ) (hk : okS S) (K : ∀ S2 μ2, bS S2 μ2 → okS S2 → zW g W_law d 1680 (lwls i) [] μ2 Q) : zW g W_law d 507 (lwls i) [] μ Q := by
  have hv1 : vp_in (nI i + nI 1) (zLn g) := ix_in hi hL (by omega)
  have hv2 : vp_in (nI i + nI 2) (zLn g) := ix_in hi hL (by omega)
  refine zb2 W_law_s507 rfl hv1 hv2 ?_
  refine zcallV W_law_d518 k12_53 (by omega) (g_X_town (S := S) hk.1 hk.2.2.2.1 (by omega) hb.1) rfl rfl rfl (Nat.le_of_ble_eq_true rfl) ?_
  rintro _ μ1 ⟨rfl, hX1, hO1⟩
  have hM1 := mS_onlyX hb.2 hO1
  refine zb2 W_law_s521 rfl hv1 hv2 ?_
  refine zcallV W_law_d532 k12_56 (by omega) (g_M_town (S := S) hk.1 hk.2.2.2.1 (by omega) hM1) rfl rfl rfl (Nat.le_of_ble_eq_true rfl) ?_
  rintro _ μ2 ⟨rfl, hM2, hO2⟩
  refine z_ceq W_law_d535 (tgt := 1680) rfl (fun _ => K _ μ2 ⟨xS_onlyM hX1 hO2, hM2⟩ hk) (fun z => absurd rfl z)
theorem w_W_beats {g : zG} {d i : Nat} {S : zS} {μ : zMem} {Q : Option Value → zMem → Prop} (hd : 64 ≤ d) (hi : i + 6 ≤ zLn g) (hL : zLn g ≤ 3072) (hb : bS S μ) (hk : okS S) (K : ∀ S2 μ2, bS S2 μ2 → okS S2 → zW g W_law d 1680 (lwls i) [] μ2 Q) : zW g W_law d 540 (lwls i) [] μ Q := by
  have hv1 : vp_in (nI i + nI 1) (zLn g) := ix_in hi hL (by omega)
  have hv2 : vp_in (nI i + nI 2) (zLn g) := ix_in hi hL (by omega)
  refine zb2 W_law_s540 rfl hv1 hv2 ?_
  refine zcallV W_law_d551 k12_57 (by omega) (g_X_beats (S := S) hk.1 hk.2.2.2.1 (by omega) hb.1) rfl rfl rfl (Nat.le_of_ble_eq_true rfl) ?_
  rintro _ μ1 ⟨rfl, hX1, hO1⟩
  have hM1 := mS_onlyX hb.2 hO1
  refine zb2 W_law_s554 rfl hv1 hv2 ?_
  refine zcallV W_law_d565 k12_60 (by omega) (g_M_beats (S := S) hk.1 hk.2.2.2.1 (by omega) hM1) rfl rfl rfl (Nat.le_of_ble_eq_true rfl) ?_
  rintro _ μ2 ⟨rfl, hM2, hO2⟩
  refine z_ceq W_law_d568 (tgt := 1680) rfl (fun _ => K _ μ2 ⟨xS_onlyM hX1 hO2, hM2⟩ hk) (fun z => absurd rfl z)
theorem w_W_chime {g : zG} {d i : Nat} {S : zS} {μ : zMem} {Q : Option Value → zMem → Prop} (hd : 64 ≤ d) (hi : i + 6 ≤ zLn g) (hL : zLn g ≤ 3072) (hb : bS S μ) (hk : okS S) (K : ∀ S2 μ2, bS S2 μ2 → okS S2 → zW g W_law d 1680 (lwls i) [] μ2 Q) : zW g W_law d 573 (lwls i) [] μ Q := by
  have hv1 : vp_in (nI i + nI 1) (zLn g) := ix_in hi hL (by omega)
  have hv2 : vp_in (nI i + nI 2) (zLn g) := ix_in hi hL (by omega)
  have hv3 : vp_in (nI i + nI 3) (zLn g) := ix_in hi hL (by omega)
  refine zb3 W_law_s573 rfl hv1 hv2 hv3 ?_
  refine zcallV W_law_d589 k12_61 (by omega) (g_X_chime (S := S) hk.1 hk.2.2.2.1 (by omega) hb.1) rfl rfl rfl (Nat.le_of_ble_eq_true rfl) ?_
  rintro _ μ1 ⟨rfl, hX1, hO1⟩
  have hM1 := mS_onlyX hb.2 hO1
  refine zb3 W_law_s592 rfl hv1 hv2 hv3 ?_
  refine zcallV W_law_d608 k12_64 (by omega) (g_M_chime (S := S) hk.1 hk.2.2.2.1 (by omega) hM1) rfl rfl rfl (Nat.le_of_ble_eq_true rfl) ?_
  rintro _ μ2 ⟨rfl, hM2, hO2⟩
  refine z_ceq W_law_d611 (tgt := 1680) rfl (fun _ => K _ μ2 ⟨xS_onlyM hX1 hO2, hM2⟩ hk) (fun z => absurd rfl z)
theorem w_W_days {g : zG} {d i : Nat} {S : zS} {μ : zMem} {Q : Option Value → zMem → Prop} (hd : 64 ≤ d) (hi : i + 6 ≤ zLn g) (hL : zLn g ≤ 3072) (hb : bS S μ) (hk : okS S) (K : ∀ S2 μ2, bS S2 μ2 → okS S2 → zW g W_law d 1680 (lwls i) [] μ2 Q) : zW g W_law d 616 (lwls i) [] μ Q := by
  have hv1 : vp_in (nI i + nI 1) (zLn g) := ix_in hi hL (by omega)
  have hv2 : vp_in (nI i + nI 2) (zLn g) := ix_in hi hL (by omega)
  have hv3 : vp_in (nI i + nI 3) (zLn g) := ix_in hi hL (by omega)
  refine zb3 W_law_s616 rfl hv1 hv2 hv3 ?_
  refine zcallV W_law_d632 k12_65 (by omega) (g_X_days (S := S) hk.1 hk.2.2.2.1 (by omega) hb.1) rfl rfl rfl (Nat.le_of_ble_eq_true rfl) ?_
  rintro _ μ1 ⟨rfl, hX1, hO1⟩
  have hM1 := mS_onlyX hb.2 hO1
  refine zb3 W_law_s635 rfl hv1 hv2 hv3 ?_
  refine zcallV W_law_d651 k12_68 (by omega) (g_M_days (S := S) hk.1 hk.2.2.2.1 (by omega) hM1) rfl rfl rfl (Nat.le_of_ble_eq_true rfl) ?_
  rintro _ μ2 ⟨rfl, hM2, hO2⟩
  refine z_ceq W_law_d654 (tgt := 1680) rfl (fun _ => K _ μ2 ⟨xS_onlyM hX1 hO2, hM2⟩ hk) (fun z => absurd rfl z)
theorem w_W_fault {g : zG} {d i : Nat} {S : zS} {μ : zMem} {Q : Option Value → zMem → Prop} (hd : 64 ≤ d) (hi : i + 6 ≤ zLn g) (hL : zLn g ≤ 3072) (hb : bS S μ) (hk : okS S) (K : ∀ S2 μ2, bS S2 μ2 → okS S2 → zW g W_law d 1680 (lwls i) [] μ2 Q) : zW g W_law d 659 (lwls i) [] μ Q := by
  have hv1 : vp_in (nI i + nI 1) (zLn g) := ix_in hi hL (by omega)
  have hv2 : vp_in (nI i + nI 2) (zLn g) := ix_in hi hL (by omega)
  refine zb2 W_law_s659 rfl hv1 hv2 ?_
  refine zcallV W_law_d670 k12_69 (by omega) (g_X_fault (S := S) hk.1 hk.2.2.2.1 (by omega) hb.1) rfl rfl rfl (Nat.le_of_ble_eq_true rfl) ?_
  rintro _ μ1 ⟨rfl, hX1, hO1⟩
  have hM1 := mS_onlyX hb.2 hO1
  refine zb2 W_law_s673 rfl hv1 hv2 ?_
  refine zcallV W_law_d684 k12_72 (by omega) (g_M_fault (S := S) hk.1 hk.2.2.2.1 (by omega) hM1) rfl rfl rfl (Nat.le_of_ble_eq_true rfl) ?_
  rintro _ μ2 ⟨rfl, hM2, hO2⟩
  refine z_ceq W_law_d687 (tgt := 1680) rfl (fun _ => K _ μ2 ⟨xS_onlyM hX1 hO2, hM2⟩ hk) (fun z => absurd rfl z)
theorem w_W_win {g : zG} {d i : Nat} {S : zS} {μ : zMem} {Q : Option Value → zMem → Prop} (hd : 64 ≤ d) (hi : i + 6 ≤ zLn g) (hL : zLn g ≤ 3072) (hb : bS S μ) (hk : okS S) (K : ∀ S2 μ2, bS S2 μ2 → okS S2 → zW g W_law d 1680 (lwls i) [] μ2 Q) : zW g W_law d 692 (lwls i) [] μ Q := by
  have hv1 : vp_in (nI i + nI 1) (zLn g) := ix_in hi hL (by omega)
  have hv2 : vp_in (nI i + nI 2) (zLn g) := ix_in hi hL (by omega)
  refine zb2 W_law_s692 rfl hv1 hv2 ?_
  refine zcallV W_law_d703 k12_73 (by omega) (g_X_win (S := S) hk.1 hk.2.2.2.1 (by omega) hb.1) rfl rfl rfl (Nat.le_of_ble_eq_true rfl) ?_
  rintro _ μ1 ⟨rfl, hX1, hO1⟩
  have hM1 := mS_onlyX hb.2 hO1
  refine zb2 W_law_s706 rfl hv1 hv2 ?_
  refine zcallV W_law_d717 k12_76 (by omega) (g_M_win (S := S) hk.1 hk.2.2.2.1 (by omega) hM1) rfl rfl rfl (Nat.le_of_ble_eq_true rfl) ?_
  rintro _ μ2 ⟨rfl, hM2, hO2⟩
  refine z_ceq W_law_d720 (tgt := 1680) rfl (fun _ => K _ μ2 ⟨xS_onlyM hX1 hO2, hM2⟩ hk) (fun z => absurd rfl z)
theorem w_W_silent {g : zG} {d i : Nat} {S : zS} {μ : zMem} {Q : Option Value → zMem → Prop} (hd : 64 ≤ d) (hi : i + 6 ≤ zLn g) (hL : zLn g ≤ 3072) (hb : bS S μ) (hk : okS S) (K : ∀ S2 μ2, bS S2 μ2 → okS S2 → zW g W_law d 1680 (lwls i) [] μ2 Q) : zW g W_law d 725 (lwls i) [] μ Q := by
  have hv1 : vp_in (nI i + nI 1) (zLn g) := ix_in hi hL (by omega)
  have hv2 : vp_in (nI i + nI 2) (zLn g) := ix_in hi hL (by omega)
  refine zb2 W_law_s725 rfl hv1 hv2 ?_
  refine zcallV W_law_d736 k12_77 (by omega) (g_X_silent (S := S) hk.1 hk.2.2.2.1 (by omega) hb.1) rfl rfl rfl (Nat.le_of_ble_eq_true rfl) ?_
  rintro _ μ1 ⟨rfl, hX1, hO1⟩
  have hM1 := mS_onlyX hb.2 hO1
  refine zb2 W_law_s739 rfl hv1 hv2 ?_
  refine zcallV W_law_d750 k12_80 (by omega) (g_M_silent (S := S) hk.1 hk.2.2.2.1 (by omega) hM1) rfl rfl rfl (Nat.le_of_ble_eq_true rfl) ?_
  rintro _ μ2 ⟨rfl, hM2, hO2⟩
  refine z_ceq W_law_d753 (tgt := 1680) rfl (fun _ => K _ μ2 ⟨xS_onlyM hX1 hO2, hM2⟩ hk) (fun z => absurd rfl z)
theorem w_W_heard {g : zG} {d i : Nat} {S : zS} {μ : zMem} {Q : Option Value → zMem → Prop} (hd : 64 ≤ d) (hi : i + 6 ≤ zLn g) (hL : zLn g ≤ 3072) (hb : bS S μ) (hk : okS S) (K : ∀ S2 μ2, bS S2 μ2 → okS S2 → zW g W_law d 1680 (lwls i) [] μ2 Q) : zW g W_law d 758 (lwls i) [] μ Q := by
  have hv1 : vp_in (nI i + nI 1) (zLn g) := ix_in hi hL (by omega)
  have hv2 : vp_in (nI i + nI 2) (zLn g) := ix_in hi hL (by omega)
  have hv3 : vp_in (nI i + nI 3) (zLn g) := ix_in hi hL (by omega)
  have hv4 : vp_in (nI i + nI 4) (zLn g) := ix_in hi hL (by omega)
  refine zb4 W_law_s758 rfl hv1 hv2 hv3 hv4 ?_
  refine zcallV W_law_d779 k12_81 (by omega) (g_X_heard (S := S) hk.1 hk.2.2.2.1 (by omega) hb.1) rfl rfl rfl (Nat.le_of_ble_eq_true rfl) ?_
  rintro _ μ1 ⟨rfl, hX1, hO1⟩
  have hM1 := mS_onlyX hb.2 hO1
  refine zb4 W_law_s782 rfl hv1 hv2 hv3 hv4 ?_
  refine zcallV W_law_d803 k12_85 (by omega) (g_M_heard (S := S) hk.1 hk.2.2.2.1 (by omega) hM1) rfl rfl rfl (Nat.le_of_ble_eq_true rfl) ?_
  rintro _ μ2 ⟨rfl, hM2, hO2⟩
  refine z_ceq W_law_d806 (tgt := 1680) rfl (fun _ => K _ μ2 ⟨xS_onlyM hX1 hO2, hM2⟩ hk) (fun z => absurd rfl z)
theorem w_W_strike {g : zG} {d i : Nat} {S : zS} {μ : zMem} {Q : Option Value → zMem → Prop} (hd : 64 ≤ d) (hi : i + 6 ≤ zLn g) (hL : zLn g ≤ 3072) (hb : bS S μ) (hk : okS S) (K : ∀ S2 μ2, bS S2 μ2 → okS S2 → zW g W_law d 1680 (lwls i) [] μ2 Q) : zW g W_law d 811 (lwls i) [] μ Q := by
  have hv1 : vp_in (nI i + nI 1) (zLn g) := ix_in hi hL (by omega)
  have hv2 : vp_in (nI i + nI 2) (zLn g) := ix_in hi hL (by omega)
  have hv3 : vp_in (nI i + nI 3) (zLn g) := ix_in hi hL (by omega)
  refine zb3 W_law_s811 rfl hv1 hv2 hv3 ?_
  refine zcallV W_law_d827 k12_86 (by omega) (g_X_strike (S := S) hk.1 hk.2.2.2.1 (by omega) hb.1) rfl rfl rfl (Nat.le_of_ble_eq_true rfl) ?_
  rintro _ μ1 ⟨rfl, hX1, hO1⟩
  have hM1 := mS_onlyX hb.2 hO1
  refine zb3 W_law_s830 rfl hv1 hv2 hv3 ?_
  refine zcallV W_law_d846 k12_89 (by omega) (g_M_strike (S := S) hk.1 hk.2.2.2.1 (by omega) hM1) rfl rfl rfl (Nat.le_of_ble_eq_true rfl) ?_
  rintro _ μ2 ⟨rfl, hM2, hO2⟩
  refine z_ceq W_law_d849 (tgt := 1680) rfl (fun _ => K _ μ2 ⟨xS_onlyM hX1 hO2, hM2⟩ hk) (fun z => absurd rfl z)
theorem w_W_judge {g : zG} {d i : Nat} {S : zS} {μ : zMem} {Q : Option Value → zMem → Prop} (hd : 64 ≤ d) (hi : i + 6 ≤ zLn g) (hL : zLn g ≤ 3072) (hb : bS S μ) (hk : okS S) (K : ∀ S2 μ2, bS S2 μ2 → okS S2 → zW g W_law d 1680 (lwls i) [] μ2 Q) : zW g W_law d 854 (lwls i) [] μ Q := by
  have hv1 : vp_in (nI i + nI 1) (zLn g) := ix_in hi hL (by omega)
  have hv2 : vp_in (nI i + nI 2) (zLn g) := ix_in hi hL (by omega)
  have hv3 : vp_in (nI i + nI 3) (zLn g) := ix_in hi hL (by omega)
  refine zb3 W_law_s854 rfl hv1 hv2 hv3 ?_
  refine zcallV W_law_d870 k12_90 (by omega) (g_X_judge (S := S) hk.1 hk.2.2.2.1 (by omega) hb.1) rfl rfl rfl (Nat.le_of_ble_eq_true rfl) ?_
  rintro _ μ1 ⟨rfl, hX1, hO1⟩
  have hM1 := mS_onlyX hb.2 hO1
  refine zb3 W_law_s873 rfl hv1 hv2 hv3 ?_
  refine zcallV W_law_d889 k12_93 (by omega) (g_M_judge (S := S) hk.1 hk.2.2.2.1 (by omega) hM1) rfl rfl rfl (Nat.le_of_ble_eq_true rfl) ?_
  rintro _ μ2 ⟨rfl, hM2, hO2⟩
  refine z_ceq W_law_d892 (tgt := 1680) rfl (fun _ => K _ μ2 ⟨xS_onlyM hX1 hO2, hM2⟩ hk) (fun z => absurd rfl z)
theorem w_W_broke {g : zG} {d i : Nat} {S : zS} {μ : zMem} {Q : Option Value → zMem → Prop} (hd : 64 ≤ d) (hi : i + 6 ≤ zLn g) (hL : zLn g ≤ 3072) (hb : bS S μ) (hk : okS S) (K : ∀ S2 μ2, bS S2 μ2 → okS S2 → zW g W_law d 1680 (lwls i) [] μ2 Q) : zW g W_law d 897 (lwls i) [] μ Q := by
  have hv1 : vp_in (nI i + nI 1) (zLn g) := ix_in hi hL (by omega)
  have hv2 : vp_in (nI i + nI 2) (zLn g) := ix_in hi hL (by omega)
  have hv3 : vp_in (nI i + nI 3) (zLn g) := ix_in hi hL (by omega)
  have hv4 : vp_in (nI i + nI 4) (zLn g) := ix_in hi hL (by omega)
  refine zb4 W_law_s897 rfl hv1 hv2 hv3 hv4 ?_
  refine zcallV W_law_d918 k12_94 (by omega) (g_X_broke (S := S) hk.1 hk.2.2.2.1 (by omega) hb.1) rfl rfl rfl (Nat.le_of_ble_eq_true rfl) ?_
  rintro _ μ1 ⟨rfl, hX1, hO1⟩
  have hM1 := mS_onlyX hb.2 hO1
  refine zb4 W_law_s921 rfl hv1 hv2 hv3 hv4 ?_
  refine zcallV W_law_d942 k12_97 (by omega) (g_M_broke (S := S) hk.1 hk.2.2.2.1 (by omega) hM1) rfl rfl rfl (Nat.le_of_ble_eq_true rfl) ?_
  rintro _ μ2 ⟨rfl, hM2, hO2⟩
  refine z_ceq W_law_d945 (tgt := 1680) rfl (fun _ => K _ μ2 ⟨xS_onlyM hX1 hO2, hM2⟩ hk) (fun z => absurd rfl z)
theorem w_W_cast {g : zG} {d i : Nat} {S : zS} {μ : zMem} {Q : Option Value → zMem → Prop} (hd : 64 ≤ d) (hi : i + 6 ≤ zLn g) (hL : zLn g ≤ 3072) (hb : bS S μ) (hk : okS S) (K : ∀ S2 μ2, bS S2 μ2 → okS S2 → zW g W_law d 1680 (lwls i) [] μ2 Q) : zW g W_law d 950 (lwls i) [] μ Q := by
  have hv1 : vp_in (nI i + nI 1) (zLn g) := ix_in hi hL (by omega)
  have hv2 : vp_in (nI i + nI 2) (zLn g) := ix_in hi hL (by omega)
  have hv3 : vp_in (nI i + nI 3) (zLn g) := ix_in hi hL (by omega)
  refine zb3 W_law_s950 rfl hv1 hv2 hv3 ?_
  refine zcallV W_law_d966 k12_98 (by omega) (g_X_cast (S := S) hk.1 hk.2.2.2.1 (by omega) hb.1) rfl rfl rfl (Nat.le_of_ble_eq_true rfl) ?_
  rintro _ μ1 ⟨rfl, hX1, hO1⟩
  have hM1 := mS_onlyX hb.2 hO1
  refine zb3 W_law_s969 rfl hv1 hv2 hv3 ?_
  refine zcallV W_law_d985 k12_101 (by omega) (g_M_cast (S := S) hk.1 hk.2.2.2.1 (by omega) hM1) rfl rfl rfl (Nat.le_of_ble_eq_true rfl) ?_
  rintro _ μ2 ⟨rfl, hM2, hO2⟩
  refine z_ceq W_law_d988 (tgt := 1680) rfl (fun _ => K _ μ2 ⟨xS_onlyM hX1 hO2, hM2⟩ hk) (fun z => absurd rfl z)
theorem w_W_melt {g : zG} {d i : Nat} {S : zS} {μ : zMem} {Q : Option Value → zMem → Prop} (hd : 64 ≤ d) (hi : i + 6 ≤ zLn g) (hL : zLn g ≤ 3072) (hb : bS S μ) (hk : okS S) (K : ∀ S2 μ2, bS S2 μ2 → okS S2 → zW g W_law d 1680 (lwls i) [] μ2 Q) : zW g W_law d 993 (lwls i) [] μ Q := by
  have hv1 : vp_in (nI i + nI 1) (zLn g) := ix_in hi hL (by omega)
  have hv2 : vp_in (nI i + nI 2) (zLn g) := ix_in hi hL (by omega)
  have hv3 : vp_in (nI i + nI 3) (zLn g) := ix_in hi hL (by omega)
  refine zb3 W_law_s993 rfl hv1 hv2 hv3 ?_
  refine zcallV W_law_d1009 k12_102 (by omega) (g_X_melt (S := S) (met := μ.1 43) hk.1 hk.2.2.2.1 (by omega) hb.1) rfl rfl rfl (Nat.le_of_ble_eq_true rfl) ?_
  rintro _ μ1 ⟨rfl, hX1, hO1⟩
  have hM1 := mS_onlyX hb.2 hO1
  refine zb3 W_law_s1012 rfl hv1 hv2 hv3 ?_
  refine zcallV W_law_d1028 k12_105 (by omega) (g_M_melt (S := S) hk.1 hk.2.2.2.1 (by omega) hM1) rfl rfl rfl (Nat.le_of_ble_eq_true rfl) ?_
  rintro _ μ2 ⟨rfl, hM2, hO2⟩
  refine z_ceq W_law_d1031 (tgt := 1680) rfl (fun _ => K _ μ2 ⟨xS_onlyM hX1 hO2, hM2⟩ hk) (fun z => absurd (show sMelt S.1 (μ.1 43) _ _ _ = sMelt S.1 (μ1.1 43) _ _ _ by rw [(hO1 43 rfl).1]) z)
theorem w_W_pairs {g : zG} {d i : Nat} {S : zS} {μ : zMem} {Q : Option Value → zMem → Prop} (hd : 64 ≤ d) (hi : i + 6 ≤ zLn g) (hL : zLn g ≤ 3072) (hb : bS S μ) (hk : okS S) (K : ∀ S2 μ2, bS S2 μ2 → okS S2 → zW g W_law d 1680 (lwls i) [] μ2 Q) : zW g W_law d 1036 (lwls i) [] μ Q := by
  have hv1 : vp_in (nI i + nI 1) (zLn g) := ix_in hi hL (by omega)
  refine zb1 W_law_s1036 rfl hv1 ?_
  refine zcallV W_law_d1042 k12_106 (by omega) (g_X_pairs (S := S) hk.1 hk.2.2.2.1 (by omega) hb.1) rfl rfl rfl (Nat.le_of_ble_eq_true rfl) ?_
  rintro _ μ1 ⟨rfl, hX1, hO1⟩
  have hM1 := mS_onlyX hb.2 hO1
  refine zb1 W_law_s1045 rfl hv1 ?_
  refine zcallV W_law_d1051 k12_109 (by omega) (g_M_pairs (S := S) hk.1 hk.2.2.2.1 (by omega) hM1) rfl rfl rfl (Nat.le_of_ble_eq_true rfl) ?_
  rintro _ μ2 ⟨rfl, hM2, hO2⟩
  refine z_ceq W_law_d1054 (tgt := 1680) rfl (fun _ => K _ μ2 ⟨xS_onlyM hX1 hO2, hM2⟩ hk) (fun z => absurd rfl z)
theorem w_W_drawn {g : zG} {d i : Nat} {S : zS} {μ : zMem} {Q : Option Value → zMem → Prop} (hd : 64 ≤ d) (hi : i + 6 ≤ zLn g) (hL : zLn g ≤ 3072) (hb : bS S μ) (hk : okS S) (K : ∀ S2 μ2, bS S2 μ2 → okS S2 → zW g W_law d 1680 (lwls i) [] μ2 Q) : zW g W_law d 1059 (lwls i) [] μ Q := by
  have hv1 : vp_in (nI i + nI 1) (zLn g) := ix_in hi hL (by omega)
  have hv2 : vp_in (nI i + nI 2) (zLn g) := ix_in hi hL (by omega)
  have hv3 : vp_in (nI i + nI 3) (zLn g) := ix_in hi hL (by omega)
  have hv4 : vp_in (nI i + nI 4) (zLn g) := ix_in hi hL (by omega)
  refine zb4 W_law_s1059 rfl hv1 hv2 hv3 hv4 ?_
  refine zcallV W_law_d1080 k12_110 (by omega) (g_X_drawn (S := S) hk.1 hk.2.2.2.1 (by omega) hb.1) rfl rfl rfl (Nat.le_of_ble_eq_true rfl) ?_
  rintro _ μ1 ⟨rfl, hX1, hO1⟩
  have hM1 := mS_onlyX hb.2 hO1
  refine zb4 W_law_s1083 rfl hv1 hv2 hv3 hv4 ?_
  refine zcallV W_law_d1104 k12_113 (by omega) (g_M_drawn (S := S) hk.1 hk.2.2.2.1 (by omega) hM1) rfl rfl rfl (Nat.le_of_ble_eq_true rfl) ?_
  rintro _ μ2 ⟨rfl, hM2, hO2⟩
  refine z_ceq W_law_d1107 (tgt := 1680) rfl (fun _ => K _ μ2 ⟨xS_onlyM hX1 hO2, hM2⟩ hk) (fun z => absurd rfl z)
theorem w_W_breaks {g : zG} {d i : Nat} {S : zS} {μ : zMem} {Q : Option Value → zMem → Prop} (hd : 64 ≤ d) (hi : i + 6 ≤ zLn g) (hL : zLn g ≤ 3072) (hb : bS S μ) (hk : okS S) (K : ∀ S2 μ2, bS S2 μ2 → okS S2 → zW g W_law d 1680 (lwls i) [] μ2 Q) : zW g W_law d 1112 (lwls i) [] μ Q := by
  have hv1 : vp_in (nI i + nI 1) (zLn g) := ix_in hi hL (by omega)
  refine zb1 W_law_s1112 rfl hv1 ?_
  refine zcallV W_law_d1118 k12_114 (by omega) (xs_breaks (S := S) (by omega) hb.1) rfl rfl rfl (Nat.le_of_ble_eq_true rfl) ?_
  rintro _ μ1 ⟨rfl, hX1, hO1⟩
  have hM1 := mS_onlyX hb.2 hO1
  refine zb1 W_law_s1121 rfl hv1 ?_
  refine zcallV W_law_d1127 k12_117 (by omega) (s_M_breaks (S := S) (by omega) hM1) rfl rfl rfl (Nat.le_of_ble_eq_true rfl) ?_
  rintro _ μ2 ⟨rfl, hM2, hO2⟩
  refine z_ceq W_law_d1130 (tgt := 1680) rfl (fun _ => K _ μ2 ⟨xS_onlyM hX1 hO2, hM2⟩ (ok_breaks hk hb.bd)) (fun z => absurd rfl z)
theorem w_W_keeps {g : zG} {d i : Nat} {S : zS} {μ : zMem} {Q : Option Value → zMem → Prop} (hd : 64 ≤ d) (hi : i + 6 ≤ zLn g) (hL : zLn g ≤ 3072) (hb : bS S μ) (hk : okS S) (K : ∀ S2 μ2, bS S2 μ2 → okS S2 → zW g W_law d 1680 (lwls i) [] μ2 Q) : zW g W_law d 1135 (lwls i) [] μ Q := by
  have hv1 : vp_in (nI i + nI 1) (zLn g) := ix_in hi hL (by omega)
  refine zb1 W_law_s1135 rfl hv1 ?_
  refine zcallV W_law_d1141 k12_118 (by omega) (xs_keeps (S := S) (by omega) hb.1) rfl rfl rfl (Nat.le_of_ble_eq_true rfl) ?_
  rintro _ μ1 ⟨rfl, hX1, hO1⟩
  have hM1 := mS_onlyX hb.2 hO1
  refine zb1 W_law_s1144 rfl hv1 ?_
  refine zcallV W_law_d1150 k12_121 (by omega) (s_M_keeps (S := S) (by omega) hM1) rfl rfl rfl (Nat.le_of_ble_eq_true rfl) ?_
  rintro _ μ2 ⟨rfl, hM2, hO2⟩
  refine z_ceq W_law_d1153 (tgt := 1680) rfl (fun _ => K _ μ2 ⟨xS_onlyM hX1 hO2, hM2⟩ (ok_keeps hk hb.bd)) (fun z => absurd rfl z)
theorem w_W_pass {g : zG} {d i : Nat} {S : zS} {μ : zMem} {Q : Option Value → zMem → Prop} (hd : 64 ≤ d) (hi : i + 6 ≤ zLn g) (hL : zLn g ≤ 3072) (hb : bS S μ) (hk : okS S) (K : ∀ S2 μ2, bS S2 μ2 → okS S2 → zW g W_law d 1680 (lwls i) [] μ2 Q) : zW g W_law d 1158 (lwls i) [] μ Q := by
  have hv1 : vp_in (nI i + nI 1) (zLn g) := ix_in hi hL (by omega)
  refine zb1 W_law_s1158 rfl hv1 ?_
  refine zcallV W_law_d1164 k12_122 (by omega) (xs_pass (S := S) hb.1) rfl rfl rfl (Nat.le_of_ble_eq_true rfl) ?_
  rintro _ μ1 ⟨rfl, hX1, hO1⟩
  have hM1 := mS_onlyX hb.2 hO1
  refine zb1 W_law_s1167 rfl hv1 ?_
  refine zcallV W_law_d1173 k12_125 (by omega) (s_M_pass (S := S) (by omega) hM1) rfl rfl rfl (Nat.le_of_ble_eq_true rfl) ?_
  rintro _ μ2 ⟨rfl, hM2, hO2⟩
  refine z_ceq W_law_d1176 (tgt := 1680) rfl (fun _ => K _ μ2 ⟨xS_onlyM hX1 hO2, hM2⟩ (ok_pass hk hb.bd)) (fun z => absurd rfl z)
theorem w_W_ring {g : zG} {d i : Nat} {S : zS} {μ : zMem} {Q : Option Value → zMem → Prop} (hd : 64 ≤ d) (hi : i + 6 ≤ zLn g) (hL : zLn g ≤ 3072) (hb : bS S μ) (hk : okS S) (K : ∀ S2 μ2, bS S2 μ2 → okS S2 → zW g W_law d 1680 (lwls i) [] μ2 Q) : zW g W_law d 1181 (lwls i) [] μ Q := by
  have hv1 : vp_in (nI i + nI 1) (zLn g) := ix_in hi hL (by omega)
  have hv2 : vp_in (nI i + nI 2) (zLn g) := ix_in hi hL (by omega)
  refine zb2 W_law_s1181 rfl hv1 hv2 ?_
  refine zcallV W_law_d1192 k12_126 (by omega) (xs_ring (S := S) hk.1 (by omega) hb.1) rfl rfl rfl (Nat.le_of_ble_eq_true rfl) ?_
  rintro _ μ1 ⟨rfl, hX1, hO1⟩
  have hM1 := mS_onlyX hb.2 hO1
  refine zb2 W_law_s1195 rfl hv1 hv2 ?_
  refine zcallV W_law_d1206 k12_129 (by omega) (s_M_ring (S := S) (by omega) hM1) rfl rfl rfl (Nat.le_of_ble_eq_true rfl) ?_
  rintro _ μ2 ⟨rfl, hM2, hO2⟩
  refine z_ceq W_law_d1209 (tgt := 1680) rfl (fun _ => K _ μ2 ⟨xS_onlyM hX1 hO2, hM2⟩ (ok_ring hk hb.bd)) (fun z => absurd rfl z)
theorem w_W_led {g : zG} {d i : Nat} {S : zS} {μ : zMem} {Q : Option Value → zMem → Prop} (hd : 64 ≤ d) (hi : i + 6 ≤ zLn g) (hL : zLn g ≤ 3072) (hb : bS S μ) (hk : okS S) (K : ∀ S2 μ2, bS S2 μ2 → okS S2 → zW g W_law d 1680 (lwls i) [] μ2 Q) : zW g W_law d 1214 (lwls i) [] μ Q := by
  have hv1 : vp_in (nI i + nI 1) (zLn g) := ix_in hi hL (by omega)
  refine zb1 W_law_s1214 rfl hv1 ?_
  refine zcallV W_law_d1220 k12_130 (by omega) (xs_led (S := S) (by omega) hb.1) rfl rfl rfl (Nat.le_of_ble_eq_true rfl) ?_
  rintro _ μ1 ⟨rfl, hX1, hO1⟩
  have hM1 := mS_onlyX hb.2 hO1
  refine zb1 W_law_s1223 rfl hv1 ?_
  refine zcallV W_law_d1229 k12_133 (by omega) (s_M_led (S := S) hM1) rfl rfl rfl (Nat.le_of_ble_eq_true rfl) ?_
  rintro _ μ2 ⟨rfl, hM2, hO2⟩
  refine z_ceq W_law_d1232 (tgt := 1680) rfl (fun _ => K _ μ2 ⟨xS_onlyM hX1 hO2, hM2⟩ hk) (fun z => absurd rfl z)
theorem w_W_image {g : zG} {d i : Nat} {S : zS} {μ : zMem} {Q : Option Value → zMem → Prop} (hd : 64 ≤ d) (hi : i + 6 ≤ zLn g) (hL : zLn g ≤ 3072) (hb : bS S μ) (hk : okS S) (K : ∀ S2 μ2, bS S2 μ2 → okS S2 → zW g W_law d 1680 (lwls i) [] μ2 Q) : zW g W_law d 1237 (lwls i) [] μ Q := by
  refine zb W_law_s1237 rfl ?_
  refine zcallV W_law_d1238 k12_134 (by omega) (xs_image (S := S) (by omega) hb.1) rfl rfl rfl (Nat.le_of_ble_eq_true rfl) ?_
  rintro _ μ1 ⟨rfl, hX1, hO1⟩
  have hM1 := mS_onlyX hb.2 hO1
  refine zb W_law_s1241 rfl ?_
  refine zcallV W_law_d1242 k12_137 (by omega) (s_M_image (S := S) hM1) rfl rfl rfl (Nat.le_of_ble_eq_true rfl) ?_
  rintro _ μ2 ⟨rfl, hM2, hO2⟩
  refine z_ceq W_law_d1245 (tgt := 1680) rfl (fun _ => K _ μ2 ⟨xS_onlyM hX1 hO2, hM2⟩ (ok_image hk hb.bd)) (fun z => absurd rfl z)
theorem w_W_back {g : zG} {d i : Nat} {S : zS} {μ : zMem} {Q : Option Value → zMem → Prop} (hd : 64 ≤ d) (hi : i + 6 ≤ zLn g) (hL : zLn g ≤ 3072) (hb : bS S μ) (hk : okS S) (K : ∀ S2 μ2, bS S2 μ2 → okS S2 → zW g W_law d 1680 (lwls i) [] μ2 Q) : zW g W_law d 1250 (lwls i) [] μ Q := by
  refine zb W_law_s1250 rfl ?_
  refine zcallV W_law_d1251 k12_138 (by omega) (xs_back (S := S) (by omega) hb.1) rfl rfl rfl (Nat.le_of_ble_eq_true rfl) ?_
  rintro _ μ1 ⟨rfl, hX1, hO1⟩
  have hM1 := mS_onlyX hb.2 hO1
  refine zb W_law_s1254 rfl ?_
  refine zcallV W_law_d1255 k12_141 (by omega) (s_M_back (S := S) hM1) rfl rfl rfl (Nat.le_of_ble_eq_true rfl) ?_
  rintro _ μ2 ⟨rfl, hM2, hO2⟩
  refine z_ceq W_law_d1258 (tgt := 1680) rfl (fun _ => K _ μ2 ⟨xS_onlyM hX1 hO2, hM2⟩ (ok_back hk hb.bd)) (fun z => absurd rfl z)
theorem w_W_undo {g : zG} {d i : Nat} {S : zS} {μ : zMem} {Q : Option Value → zMem → Prop} (hd : 64 ≤ d) (hi : i + 6 ≤ zLn g) (hL : zLn g ≤ 3072) (hb : bS S μ) (hk : okS S) (K : ∀ S2 μ2, bS S2 μ2 → okS S2 → zW g W_law d 1680 (lwls i) [] μ2 Q) : zW g W_law d 1263 (lwls i) [] μ Q := by
  refine zb W_law_s1263 rfl ?_
  refine zcallV W_law_d1264 k12_142 (by omega) (xs_undo (S := S) (by omega) hb.1 hk.2.1) rfl rfl rfl (Nat.le_of_ble_eq_true rfl) ?_
  rintro _ μ1 ⟨rfl, hX1, hO1⟩
  have hM1 := mS_onlyX hb.2 hO1
  refine zb W_law_s1267 rfl ?_
  refine zcallV W_law_d1268 k12_145 (by omega) (s_M_undo (S := S) hM1 hk.2.1 (by omega)) rfl rfl rfl (Nat.le_of_ble_eq_true rfl) ?_
  rintro _ μ2 ⟨rfl, hM2, hO2⟩
  refine z_ceq W_law_d1271 (tgt := 1680) rfl (fun _ => K _ μ2 ⟨xS_onlyM hX1 hO2, hM2⟩ (ok_undo hk hb.bd)) (fun z => absurd rfl z)
theorem w_W_redo {g : zG} {d i : Nat} {S : zS} {μ : zMem} {Q : Option Value → zMem → Prop} (hd : 64 ≤ d) (hi : i + 6 ≤ zLn g) (hL : zLn g ≤ 3072) (hb : bS S μ) (hk : okS S) (K : ∀ S2 μ2, bS S2 μ2 → okS S2 → zW g W_law d 1680 (lwls i) [] μ2 Q) : zW g W_law d 1276 (lwls i) [] μ Q := by
  refine zb W_law_s1276 rfl ?_
  refine zcallV W_law_d1277 k12_146 (by omega) (xs_redo (S := S) (by omega) hb.1 hk.2.1) rfl rfl rfl (Nat.le_of_ble_eq_true rfl) ?_
  rintro _ μ1 ⟨rfl, hX1, hO1⟩
  have hM1 := mS_onlyX hb.2 hO1
  refine zb W_law_s1280 rfl ?_
  refine zcallV W_law_d1281 k12_149 (by omega) (s_M_redo (S := S) hM1 hk.2.1 (by omega)) rfl rfl rfl (Nat.le_of_ble_eq_true rfl) ?_
  rintro _ μ2 ⟨rfl, hM2, hO2⟩
  refine z_ceq W_law_d1284 (tgt := 1680) rfl (fun _ => K _ μ2 ⟨xS_onlyM hX1 hO2, hM2⟩ (ok_redo hk hb.bd)) (fun z => absurd rfl z)
theorem w_W_body {g : zG} {d i : Nat} {S : zS} {μ : zMem} {Q : Option Value → zMem → Prop} (hd : 64 ≤ d) (hi : i + 6 ≤ zLn g) (hL : zLn g ≤ 3072) (hb : bS S μ) (hk : okS S) (K : ∀ S2 μ2, bS S2 μ2 → okS S2 → zW g W_law d 1680 (lwls i) [] μ2 Q) : zW g W_law d 1289 (lwls i) [] μ Q := by
  have hv1 : vp_in (nI i + nI 1) (zLn g) := ix_in hi hL (by omega)
  refine zb1 W_law_s1289 rfl hv1 ?_
  refine zcallV W_law_d1295 k12_150 (by omega) (xs_body (S := S) (by omega) hb.1) rfl rfl rfl (Nat.le_of_ble_eq_true rfl) ?_
  rintro _ μ1 ⟨rfl, hX1, hO1⟩
  have hM1 := mS_onlyX hb.2 hO1
  refine zb1 W_law_s1298 rfl hv1 ?_
  refine zcallV W_law_d1304 k12_153 (by omega) (s_M_body (S := S) (by omega) hM1) rfl rfl rfl (Nat.le_of_ble_eq_true rfl) ?_
  rintro _ μ2 ⟨rfl, hM2, hO2⟩
  refine z_ceq W_law_d1307 (tgt := 1680) rfl (fun _ => K _ μ2 ⟨xS_onlyM hX1 hO2, hM2⟩ (ok_body hk hb.bd)) (fun z => absurd rfl z)
theorem w_W_act {g : zG} {d i : Nat} {S : zS} {μ : zMem} {Q : Option Value → zMem → Prop} (hd : 64 ≤ d) (hi : i + 6 ≤ zLn g) (hL : zLn g ≤ 3072) (hb : bS S μ) (hk : okS S) (K : ∀ S2 μ2, bS S2 μ2 → okS S2 → zW g W_law d 1680 (lwls i) [] μ2 Q) : zW g W_law d 1312 (lwls i) [] μ Q := by
  have hv1 : vp_in (nI i + nI 1) (zLn g) := ix_in hi hL (by omega)
  have hv2 : vp_in (nI i + nI 2) (zLn g) := ix_in hi hL (by omega)
  have hv3 : vp_in (nI i + nI 3) (zLn g) := ix_in hi hL (by omega)
  refine zb3 W_law_s1312 rfl hv1 hv2 hv3 ?_
  refine zcallV W_law_d1328 k12_154 (by omega) (xs_act (S := S) (by omega) hb.1 hk.2.2.1) rfl rfl rfl (Nat.le_of_ble_eq_true rfl) ?_
  rintro _ μ1 ⟨rfl, hX1, hO1⟩
  have hM1 := mS_onlyX hb.2 hO1
  refine zb3 W_law_s1331 rfl hv1 hv2 hv3 ?_
  refine zcallV W_law_d1347 k12_157 (by omega) (s_M_act (S := S) (by omega) hM1 hk.2.2.1) rfl rfl rfl (Nat.le_of_ble_eq_true rfl) ?_
  rintro _ μ2 ⟨rfl, hM2, hO2⟩
  refine z_ceq W_law_d1350 (tgt := 1680) rfl (fun _ => K _ μ2 ⟨xS_onlyM hX1 hO2, hM2⟩ (ok_act hk hb.bd)) (fun z => absurd rfl z)
theorem w_W_trace {g : zG} {d i : Nat} {S : zS} {μ : zMem} {Q : Option Value → zMem → Prop} (hd : 64 ≤ d) (hi : i + 6 ≤ zLn g) (hL : zLn g ≤ 3072) (hb : bS S μ) (hk : okS S) (K : ∀ S2 μ2, bS S2 μ2 → okS S2 → zW g W_law d 1680 (lwls i) [] μ2 Q) : zW g W_law d 1355 (lwls i) [] μ Q := by
  have hv1 : vp_in (nI i + nI 1) (zLn g) := ix_in hi hL (by omega)
  refine zb1 W_law_s1355 rfl hv1 ?_
  refine zcallV W_law_d1361 k12_158 (by omega) (xs_trace (S := S) (by omega) hb.1) rfl rfl rfl (Nat.le_of_ble_eq_true rfl) ?_
  rintro _ μ1 ⟨rfl, hX1, hO1⟩
  have hM1 := mS_onlyX hb.2 hO1
  refine zb1 W_law_s1364 rfl hv1 ?_
  refine zcallV W_law_d1370 k12_161 (by omega) (s_M_trace (S := S) hM1) rfl rfl rfl (Nat.le_of_ble_eq_true rfl) ?_
  rintro _ μ2 ⟨rfl, hM2, hO2⟩
  refine z_ceq W_law_d1373 (tgt := 1680) rfl (fun _ => K _ μ2 ⟨xS_onlyM hX1 hO2, hM2⟩ hk) (fun z => absurd rfl z)
theorem w_W_keep {g : zG} {d i : Nat} {S : zS} {μ : zMem} {Q : Option Value → zMem → Prop} (hd : 64 ≤ d) (hi : i + 6 ≤ zLn g) (hL : zLn g ≤ 3072) (hb : bS S μ) (hk : okS S) (K : ∀ S2 μ2, bS S2 μ2 → okS S2 → zW g W_law d 1680 (lwls i) [] μ2 Q) : zW g W_law d 1378 (lwls i) [] μ Q := by
  have hv1 : vp_in (nI i + nI 1) (zLn g) := ix_in hi hL (by omega)
  have hv2 : vp_in (nI i + nI 2) (zLn g) := ix_in hi hL (by omega)
  refine zb2 W_law_s1378 rfl hv1 hv2 ?_
  refine zcallV W_law_d1389 k12_162 (by omega) (xs_keep (S := S) (by omega) hb.1) rfl rfl rfl (Nat.le_of_ble_eq_true rfl) ?_
  rintro _ μ1 ⟨rfl, hX1, hO1⟩
  have hM1 := mS_onlyX hb.2 hO1
  refine zb2 W_law_s1392 rfl hv1 hv2 ?_
  refine zcallV W_law_d1403 k12_165 (by omega) (s_M_keep (S := S) (by omega) hM1) rfl rfl rfl (Nat.le_of_ble_eq_true rfl) ?_
  rintro _ μ2 ⟨rfl, hM2, hO2⟩
  refine z_ceq W_law_d1406 (tgt := 1680) rfl (fun _ => K _ μ2 ⟨xS_onlyM hX1 hO2, hM2⟩ (ok_keep hk hb.bd)) (fun z => absurd rfl z)
theorem w_W_row {g : zG} {d i : Nat} {S : zS} {μ : zMem} {Q : Option Value → zMem → Prop} (hd : 64 ≤ d) (hi : i + 6 ≤ zLn g) (hL : zLn g ≤ 3072) (hb : bS S μ) (hk : okS S) (K : ∀ S2 μ2, bS S2 μ2 → okS S2 → zW g W_law d 1680 (lwls i) [] μ2 Q) : zW g W_law d 1411 (lwls i) [] μ Q := by
  have hv1 : vp_in (nI i + nI 1) (zLn g) := ix_in hi hL (by omega)
  have hv2 : vp_in (nI i + nI 2) (zLn g) := ix_in hi hL (by omega)
  have hv3 : vp_in (nI i + nI 3) (zLn g) := ix_in hi hL (by omega)
  refine zb3 W_law_s1411 rfl hv1 hv2 hv3 ?_
  refine zcallV W_law_d1427 k12_166 (by omega) (xs_row (S := S) (by omega) hb.1) rfl rfl rfl (Nat.le_of_ble_eq_true rfl) ?_
  rintro _ μ1 ⟨rfl, hX1, hO1⟩
  have hM1 := mS_onlyX hb.2 hO1
  refine zb3 W_law_s1430 rfl hv1 hv2 hv3 ?_
  refine zcallV W_law_d1446 k12_169 (by omega) (s_M_row (S := S) (by omega) hM1) rfl rfl rfl (Nat.le_of_ble_eq_true rfl) ?_
  rintro _ μ2 ⟨rfl, hM2, hO2⟩
  refine z_ceq W_law_d1449 (tgt := 1680) rfl (fun _ => K _ μ2 ⟨xS_onlyM hX1 hO2, hM2⟩ (ok_row hk hb.bd)) (fun z => absurd rfl z)
theorem w_W_put {g : zG} {d i : Nat} {S : zS} {μ : zMem} {Q : Option Value → zMem → Prop} (hd : 64 ≤ d) (hi : i + 6 ≤ zLn g) (hL : zLn g ≤ 3072) (hb : bS S μ) (hk : okS S) (K : ∀ S2 μ2, bS S2 μ2 → okS S2 → zW g W_law d 1680 (lwls i) [] μ2 Q) : zW g W_law d 1454 (lwls i) [] μ Q := by
  have hv1 : vp_in (nI i + nI 1) (zLn g) := ix_in hi hL (by omega)
  have hv2 : vp_in (nI i + nI 2) (zLn g) := ix_in hi hL (by omega)
  have hv3 : vp_in (nI i + nI 3) (zLn g) := ix_in hi hL (by omega)
  have hv4 : vp_in (nI i + nI 4) (zLn g) := ix_in hi hL (by omega)
  refine zb4 W_law_s1454 rfl hv1 hv2 hv3 hv4 ?_
  refine zcallV W_law_d1485 k12_172 (by omega) (xs_put (S := S) (by omega) hb.1 hk.2.2.2.1) rfl rfl rfl (Nat.le_of_ble_eq_true rfl) ?_
  rintro _ μ1 ⟨rfl, hX1, hO1⟩
  have hM1 := mS_onlyX hb.2 hO1
  refine zb4 W_law_s1488 rfl hv1 hv2 hv3 hv4 ?_
  refine zcallV W_law_d1519 k12_176 (by omega) (s_M_put (S := S) (by omega) hM1 hk.2.2.2.1) rfl rfl rfl (Nat.le_of_ble_eq_true rfl) ?_
  rintro _ μ2 ⟨rfl, hM2, hO2⟩
  refine z_ceq W_law_d1522 (tgt := 1680) rfl (fun _ => K _ μ2 ⟨xS_onlyM hX1 hO2, hM2⟩ (ok_put hk hb.bd)) (fun z => absurd rfl z)
theorem w_W_element {g : zG} {d i : Nat} {S : zS} {μ : zMem} {Q : Option Value → zMem → Prop} (hd : 64 ≤ d) (hi : i + 6 ≤ zLn g) (hL : zLn g ≤ 3072) (hb : bS S μ) (hk : okS S) (K : ∀ S2 μ2, bS S2 μ2 → okS S2 → zW g W_law d 1680 (lwls i) [] μ2 Q) : zW g W_law d 1527 (lwls i) [] μ Q := by
  have hv1 : vp_in (nI i + nI 1) (zLn g) := ix_in hi hL (by omega)
  have hv2 : vp_in (nI i + nI 2) (zLn g) := ix_in hi hL (by omega)
  refine zb2 W_law_s1527 rfl hv1 hv2 ?_
  refine zcallV W_law_d1538 k12_177 (by omega) (xs_element (S := S) (by omega) hb.1 hk.2.2.2.1) rfl rfl rfl (Nat.le_of_ble_eq_true rfl) ?_
  rintro _ μ1 ⟨rfl, hX1, hO1⟩
  have hM1 := mS_onlyX hb.2 hO1
  refine zb2 W_law_s1541 rfl hv1 hv2 ?_
  refine zcallV W_law_d1552 k12_181 (by omega) (s_M_element (S := S) (by omega) hM1 hk.2.2.2.1) rfl rfl rfl (Nat.le_of_ble_eq_true rfl) ?_
  rintro _ μ2 ⟨rfl, hM2, hO2⟩
  refine zb W_law_s1555 rfl ?_
  refine z_eq W_law_d1556 (tgt := 1680) rfl (fun _ => K _ μ2 ⟨xS_onlyM hX1 hO2, hM2⟩ hk) (fun z => absurd (lcmp_0 _) z)
theorem w_W_shift {g : zG} {d i : Nat} {S : zS} {μ : zMem} {Q : Option Value → zMem → Prop} (hd : 64 ≤ d) (hi : i + 6 ≤ zLn g) (hL : zLn g ≤ 3072) (hb : bS S μ) (hk : okS S) (K : ∀ S2 μ2, bS S2 μ2 → okS S2 → zW g W_law d 1680 (lwls i) [] μ2 Q) : zW g W_law d 1561 (lwls i) [] μ Q := by
  have hv1 : vp_in (nI i + nI 1) (zLn g) := ix_in hi hL (by omega)
  have hv2 : vp_in (nI i + nI 2) (zLn g) := ix_in hi hL (by omega)
  have hv3 : vp_in (nI i + nI 3) (zLn g) := ix_in hi hL (by omega)
  have hv4 : vp_in (nI i + nI 4) (zLn g) := ix_in hi hL (by omega)
  have hv5 : vp_in (nI i + nI 5) (zLn g) := ix_in hi hL (by omega)
  refine zb5 W_law_s1561 rfl hv1 hv2 hv3 hv4 hv5 ?_
  refine zcallV W_law_d1587 k12_182 (by omega) (xs_shift (S := S) (by omega) hb.1 hk.2.2.2.1) rfl rfl rfl (Nat.le_of_ble_eq_true rfl) ?_
  rintro _ μ1 ⟨rfl, hX1, hO1⟩
  have hM1 := mS_onlyX hb.2 hO1
  refine zb5 W_law_s1590 rfl hv1 hv2 hv3 hv4 hv5 ?_
  refine zcallV W_law_d1616 k12_186 (by omega) (s_M_shift (S := S) (by omega) hM1 hk.2.2.2.1) rfl rfl rfl (Nat.le_of_ble_eq_true rfl) ?_
  rintro _ μ2 ⟨rfl, hM2, hO2⟩
  refine z_ceq W_law_d1619 (tgt := 1680) rfl (fun _ => K _ μ2 ⟨xS_onlyM hX1 hO2, hM2⟩ (ok_shift hk hb.bd)) (fun z => absurd rfl z)
theorem w_W_taken {g : zG} {d i : Nat} {S : zS} {μ : zMem} {Q : Option Value → zMem → Prop} (hd : 64 ≤ d) (hi : i + 6 ≤ zLn g) (hL : zLn g ≤ 3072) (hb : bS S μ) (hk : okS S) (K : ∀ S2 μ2, bS S2 μ2 → okS S2 → zW g W_law d 1680 (lwls i) [] μ2 Q) : zW g W_law d 1624 (lwls i) [] μ Q := by
  have hv1 : vp_in (nI i + nI 1) (zLn g) := ix_in hi hL (by omega)
  have hv2 : vp_in (nI i + nI 2) (zLn g) := ix_in hi hL (by omega)
  refine zb2 W_law_s1624 rfl hv1 hv2 ?_
  refine zcallV W_law_d1635 k12_187 (by omega) (xs_taken (S := S) (by omega) hb.1 hk.2.2.2.1 hk.2.2.1) rfl rfl rfl (Nat.le_of_ble_eq_true rfl) ?_
  rintro _ μ1 ⟨rfl, hX1, hO1⟩
  have hM1 := mS_onlyX hb.2 hO1
  refine zb2 W_law_s1638 rfl hv1 hv2 ?_
  refine zcallV W_law_d1649 k12_190 (by omega) (s_M_taken (S := S) (by omega) hM1 hk.2.2.2.1 hk.2.2.1) rfl rfl rfl (Nat.le_of_ble_eq_true rfl) ?_
  rintro _ μ2 ⟨rfl, hM2, hO2⟩
  refine z_ceq W_law_d1652 (tgt := 1680) rfl (fun _ => K _ μ2 ⟨xS_onlyM hX1 hO2, hM2⟩ hk) (fun z => absurd rfl z)
theorem w_W_count {g : zG} {d i : Nat} {S : zS} {μ : zMem} {Q : Option Value → zMem → Prop} (hd : 64 ≤ d) (hi : i + 6 ≤ zLn g) (hL : zLn g ≤ 3072) (hb : bS S μ) (hk : okS S) (K : ∀ S2 μ2, bS S2 μ2 → okS S2 → zW g W_law d 1680 (lwls i) [] μ2 Q) : zW g W_law d 1657 (lwls i) [] μ Q := by
  have hv1 : vp_in (nI i + nI 1) (zLn g) := ix_in hi hL (by omega)
  refine zb1 W_law_s1657 rfl hv1 ?_
  refine zcallV W_law_d1663 k12_191 (by omega) (xs_count (S := S) hb.1) rfl rfl rfl (Nat.le_of_ble_eq_true rfl) ?_
  rintro _ μ1 ⟨rfl, hX1, hO1⟩
  have hM1 := mS_onlyX hb.2 hO1
  refine zb1 W_law_s1666 rfl hv1 ?_
  refine zcallV W_law_d1672 k12_194 (by omega) (s_M_count (S := S) hM1) rfl rfl rfl (Nat.le_of_ble_eq_true rfl) ?_
  rintro _ μ2 ⟨rfl, hM2, hO2⟩
  refine z_ceq W_law_d1675 (tgt := 1680) rfl (fun _ => K _ μ2 ⟨xS_onlyM hX1 hO2, hM2⟩ hk) (fun z => absurd rfl z)
theorem w_W_loop {g : zG} {d : Nat} (hd : 64 ≤ d) (hL : zLn g ≤ 3072) : ∀ (n i : Nat) (S : zS) (μ : zMem), zLn g + 1 ≤ i + n → i ≤ 3078 → bS S μ → okS S → zW g W_law d 18 (lwls i) [] μ (fun v _ => v = some (.int 1)) := by
  intro n
  induction n with
  | zero =>
    intro i S μ h1 hi2 hb hk
    refine zb W_law_s18 rfl ?_
    refine z_cgt W_law_d24 (tgt := 1686) rfl (fun _ => ?_) (fun h => ?_)
    · refine zb W_law_s1686 rfl ?_
      exact z_retZ W_law_d1687 rfl (Or.inr rfl) rfl
    · exfalso
      refine h ?_
      show nI (zLn g) - nI 6 < nI i
      rw [Int32.lt_iff_toInt_lt, Int32.toInt_sub, nI_toInt (by omega), nI_toInt (by omega), nI_toInt (by omega), zbm (by omega) (by omega)]
      omega
  | succ n ih =>
    intro i S μ h1 hi2 hb hk
    refine zb W_law_s18 rfl ?_
    refine z_cgt W_law_d24 (tgt := 1686) rfl (fun _ => ?_) (fun h => ?_)
    · refine zb W_law_s1686 rfl ?_
      exact z_retZ W_law_d1687 rfl (Or.inr rfl) rfl
    · have hi : i + 6 ≤ zLn g := by
        have h' : ¬ nI (zLn g) - nI 6 < nI i := h
        rw [Int32.lt_iff_toInt_lt, Int32.toInt_sub, nI_toInt (by omega), nI_toInt (by omega), nI_toInt (by omega), zbm (by omega) (by omega)] at h'
        omega
      have hv0 : vp_in (nI i) (zLn g) := vp_in_nI (by omega) (by omega)
      have K : ∀ S2 μ2, bS S2 μ2 → okS S2 → zW g W_law d 1680 (lwls i) [] μ2 (fun v _ => v = some (.int 1)) := fun S2 μ2 hb2 hk2 => by
        refine zb W_law_s1680 rfl ?_
        have e : nI i + 6 = nI (i + 6) := nI_add i 6
        have := ih (i + 6) S2 μ2 (by omega) (by omega) hb2 hk2
        unfold lwls at this
        rw [← e] at this
        exact this
      refine zb1 W_law_s27 rfl hv0 ?_
      have key : ∀ x : Int32, zW g W_law d 33 (lwls i) [.int x] μ (fun v _ => v = some (.int 1)) := fun x => by
        by_cases c1 : x.toInt < 0 ∨ 42 < x.toInt
        · exact z_tabOut (tgt := 1680) W_law_d33 c1 rfl (K S μ hb hk)
        · have c2 : ¬ x.toInt < 0 := fun z => c1 (Or.inl z)
          have c3 : ¬ 42 < x.toInt := fun z => c1 (Or.inr z)
          obtain ⟨q, hq⟩ : ∃ q : Nat, x.toInt = q := ⟨x.toInt.toNat, by omega⟩
          have hq42 : q ≤ 42 := by omega
          rcases (show q = 0 ∨ q = 1 ∨ q = 2 ∨ q = 3 ∨ q = 4 ∨ q = 5 ∨ q = 6 ∨ q = 7 ∨ q = 8 ∨ q = 9 ∨ q = 10 ∨ q = 11 ∨ q = 12 ∨ q = 13 ∨ q = 14 ∨ q = 15 ∨ q = 16 ∨ q = 17 ∨ q = 18 ∨ q = 19 ∨ q = 20 ∨ q = 21 ∨ q = 22 ∨ q = 23 ∨ q = 24 ∨ q = 25 ∨ q = 26 ∨ q = 27 ∨ q = 28 ∨ q = 29 ∨ q = 30 ∨ q = 31 ∨ q = 32 ∨ q = 33 ∨ q = 34 ∨ q = 35 ∨ q = 36 ∨ q = 37 ∨ q = 38 ∨ q = 39 ∨ q = 40 ∨ q = 41 ∨ q = 42 by omega) with rfl | rfl | rfl | rfl | rfl | rfl | rfl | rfl | rfl | rfl | rfl | rfl | rfl | rfl | rfl | rfl | rfl | rfl | rfl | rfl | rfl | rfl | rfl | rfl | rfl | rfl | rfl | rfl | rfl | rfl | rfl | rfl | rfl | rfl | rfl | rfl | rfl | rfl | rfl | rfl | rfl | rfl | rfl
          · exact z_tabIn (off := 187) (tgt := 220) W_law_d33 c2 c3 (by rw [hq]; rfl) rfl (w_W_bell hd hi hL hb hk K)
          · exact z_tabIn (off := 210) (tgt := 243) W_law_d33 c2 c3 (by rw [hq]; rfl) rfl (w_W_vow hd hi hL hb hk K)
          · exact z_tabIn (off := 243) (tgt := 276) W_law_d33 c2 c3 (by rw [hq]; rfl) rfl (w_W_vows hd hi hL hb hk K)
          · exact z_tabIn (off := 286) (tgt := 319) W_law_d33 c2 c3 (by rw [hq]; rfl) rfl (w_W_mend hd hi hL hb hk K)
          · exact z_tabIn (off := 329) (tgt := 362) W_law_d33 c2 c3 (by rw [hq]; rfl) rfl (w_W_of hd hi hL hb hk K)
          · exact z_tabIn (off := 362) (tgt := 395) W_law_d33 c2 c3 (by rw [hq]; rfl) rfl (w_W_feed hd hi hL hb hk K)
          · exact z_tabIn (off := 385) (tgt := 418) W_law_d33 c2 c3 (by rw [hq]; rfl) rfl (w_W_law hd hi hL hb hk K)
          · exact z_tabIn (off := 398) (tgt := 431) W_law_d33 c2 c3 (by rw [hq]; rfl) rfl (w_W_puts hd hi hL hb hk K)
          · exact z_tabIn (off := 431) (tgt := 464) W_law_d33 c2 c3 (by rw [hq]; rfl) rfl (w_W_pitch hd hi hL hb hk K)
          · exact z_tabIn (off := 474) (tgt := 507) W_law_d33 c2 c3 (by rw [hq]; rfl) rfl (w_W_town hd hi hL hb hk K)
          · exact z_tabIn (off := 507) (tgt := 540) W_law_d33 c2 c3 (by rw [hq]; rfl) rfl (w_W_beats hd hi hL hb hk K)
          · exact z_tabIn (off := 540) (tgt := 573) W_law_d33 c2 c3 (by rw [hq]; rfl) rfl (w_W_chime hd hi hL hb hk K)
          · exact z_tabIn (off := 583) (tgt := 616) W_law_d33 c2 c3 (by rw [hq]; rfl) rfl (w_W_days hd hi hL hb hk K)
          · exact z_tabIn (off := 626) (tgt := 659) W_law_d33 c2 c3 (by rw [hq]; rfl) rfl (w_W_fault hd hi hL hb hk K)
          · exact z_tabIn (off := 659) (tgt := 692) W_law_d33 c2 c3 (by rw [hq]; rfl) rfl (w_W_win hd hi hL hb hk K)
          · exact z_tabIn (off := 692) (tgt := 725) W_law_d33 c2 c3 (by rw [hq]; rfl) rfl (w_W_silent hd hi hL hb hk K)
          · exact z_tabIn (off := 725) (tgt := 758) W_law_d33 c2 c3 (by rw [hq]; rfl) rfl (w_W_heard hd hi hL hb hk K)
          · exact z_tabIn (off := 778) (tgt := 811) W_law_d33 c2 c3 (by rw [hq]; rfl) rfl (w_W_strike hd hi hL hb hk K)
          · exact z_tabIn (off := 821) (tgt := 854) W_law_d33 c2 c3 (by rw [hq]; rfl) rfl (w_W_judge hd hi hL hb hk K)
          · exact z_tabIn (off := 864) (tgt := 897) W_law_d33 c2 c3 (by rw [hq]; rfl) rfl (w_W_broke hd hi hL hb hk K)
          · exact z_tabIn (off := 917) (tgt := 950) W_law_d33 c2 c3 (by rw [hq]; rfl) rfl (w_W_cast hd hi hL hb hk K)
          · exact z_tabIn (off := 960) (tgt := 993) W_law_d33 c2 c3 (by rw [hq]; rfl) rfl (w_W_melt hd hi hL hb hk K)
          · exact z_tabIn (off := 1003) (tgt := 1036) W_law_d33 c2 c3 (by rw [hq]; rfl) rfl (w_W_pairs hd hi hL hb hk K)
          · exact z_tabIn (off := 1026) (tgt := 1059) W_law_d33 c2 c3 (by rw [hq]; rfl) rfl (w_W_drawn hd hi hL hb hk K)
          · exact z_tabIn (off := 1079) (tgt := 1112) W_law_d33 c2 c3 (by rw [hq]; rfl) rfl (w_W_breaks hd hi hL hb hk K)
          · exact z_tabIn (off := 1102) (tgt := 1135) W_law_d33 c2 c3 (by rw [hq]; rfl) rfl (w_W_keeps hd hi hL hb hk K)
          · exact z_tabIn (off := 1125) (tgt := 1158) W_law_d33 c2 c3 (by rw [hq]; rfl) rfl (w_W_pass hd hi hL hb hk K)
          · exact z_tabIn (off := 1148) (tgt := 1181) W_law_d33 c2 c3 (by rw [hq]; rfl) rfl (w_W_ring hd hi hL hb hk K)
          · exact z_tabIn (off := 1181) (tgt := 1214) W_law_d33 c2 c3 (by rw [hq]; rfl) rfl (w_W_led hd hi hL hb hk K)
          · exact z_tabIn (off := 1204) (tgt := 1237) W_law_d33 c2 c3 (by rw [hq]; rfl) rfl (w_W_image hd hi hL hb hk K)
          · exact z_tabIn (off := 1217) (tgt := 1250) W_law_d33 c2 c3 (by rw [hq]; rfl) rfl (w_W_back hd hi hL hb hk K)
          · exact z_tabIn (off := 1230) (tgt := 1263) W_law_d33 c2 c3 (by rw [hq]; rfl) rfl (w_W_undo hd hi hL hb hk K)
          · exact z_tabIn (off := 1243) (tgt := 1276) W_law_d33 c2 c3 (by rw [hq]; rfl) rfl (w_W_redo hd hi hL hb hk K)
          · exact z_tabIn (off := 1256) (tgt := 1289) W_law_d33 c2 c3 (by rw [hq]; rfl) rfl (w_W_body hd hi hL hb hk K)
          · exact z_tabIn (off := 1279) (tgt := 1312) W_law_d33 c2 c3 (by rw [hq]; rfl) rfl (w_W_act hd hi hL hb hk K)
          · exact z_tabIn (off := 1322) (tgt := 1355) W_law_d33 c2 c3 (by rw [hq]; rfl) rfl (w_W_trace hd hi hL hb hk K)
          · exact z_tabIn (off := 1345) (tgt := 1378) W_law_d33 c2 c3 (by rw [hq]; rfl) rfl (w_W_keep hd hi hL hb hk K)
          · exact z_tabIn (off := 1378) (tgt := 1411) W_law_d33 c2 c3 (by rw [hq]; rfl) rfl (w_W_row hd hi hL hb hk K)
          · exact z_tabIn (off := 1421) (tgt := 1454) W_law_d33 c2 c3 (by rw [hq]; rfl) rfl (w_W_put hd hi hL hb hk K)
          · exact z_tabIn (off := 1494) (tgt := 1527) W_law_d33 c2 c3 (by rw [hq]; rfl) rfl (w_W_element hd hi hL hb hk K)
          · exact z_tabIn (off := 1528) (tgt := 1561) W_law_d33 c2 c3 (by rw [hq]; rfl) rfl (w_W_shift hd hi hL hb hk K)
          · exact z_tabIn (off := 1591) (tgt := 1624) W_law_d33 c2 c3 (by rw [hq]; rfl) rfl (w_W_taken hd hi hL hb hk K)
          · exact z_tabIn (off := 1624) (tgt := 1657) W_law_d33 c2 c3 (by rw [hq]; rfl) rfl (w_W_count hd hi hL hb hk K)
      exact key _
