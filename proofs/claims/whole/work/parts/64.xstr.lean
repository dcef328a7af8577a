/-! the JDK's indexOf over the text of names -/
def zlkJ (o idx : Nat) (Y : zY) (n p0 p1 p2 p3 p4 : Nat) : Bool := decide (lw_tbl[p0]? = some (.methodLink (zR o) idx Y.1)) && decide (lw_tbl[p1]? = some (.instanceMethod Y.1)) && decide (lw_tbl[p2]? = some (.selects Y.1.cls Y.1 Y.1)) && decide (lw_tbl[p3]? = some (.initialized Y.1.cls)) && decide (lw_tbl[p4]? = some (.code Y.1 Y.2.1 Y.2.2.1 Y.2.2.2.1)) && decide (Y.1.cls = "java/lang/String") && decide ((parseMethodDescriptor Y.1.desc).map (fun d => d.parameters.length) = some n) && decide (Y.2.2.1 ≤ 40)
section ZJ
variable {g : zG} {Y Y' : zY} {d pc idx n : Nat} {ls : List (Option Value)} {st st0 : List Value} {μ : zMem} {Q Q' : Option Value → zMem → Prop} {av : List Value}
theorem zcallJ {p0 p1 p2 p3 p4 : Nat} (hd : decode (zcode Y) pc = .ok (.invokevirtual idx, 3)) (hl : zlkJ (zown Y) idx Y' n p0 p1 p2 p3 p4 = true) (hd1 : 1 ≤ d) (hM : zM g (d - 1) Y' (.ref 103 :: av) μ Q') (hs : st0 = av.reverse ++ .ref 103 :: st) (hn : av.length = n) (h8 : (st.map fun v => v.category).sum ≤ 8)
    (kk : ∀ v μ', Q' v μ' → zW g Y d (pc + 3) ls (v.toList ++ st) μ' Q) : zW g Y d pc ls st0 μ Q := by
  intro p l e R s m args below meth c H locs cells slots Qf hC hD hK a ha
  simp only [zlkJ, Bool.and_eq_true, decide_eq_true_eq] at hl
  obtain ⟨⟨⟨⟨⟨⟨⟨w0, w1⟩, w2⟩, w3⟩, w4⟩, y1⟩, y3⟩, y4⟩ := hl
  have hX := hC
  obtain ⟨hx, hbb, hml, hrt, hlk, hown, hts, hKK, hRO, hNW, hG, hbs, r1, r2, r3, r4⟩ := hX
  have hcode := zt_in w4 rfl
  have cb : CallB R s args (zR (zown Y)) idx Y'.1 Y'.2.1 Y'.2.2.1 Y'.2.2.2.1 (zwsY Y') (zrm (d - 1)) 0 0 n :=
    callB_of n hts (zgood hcode) rfl rfl rfl (hts _ (zt_in w3 rfl)) (hts _ (zt_in w0 rfl)) ⟨by rw [y1]; decide, by rw [y1]; decide, y3⟩ ⟨by show d - 1 + 1 ≤ _; omega, by show 8 + (Y'.2.2.1 + 11) + 64 * (d - 1) ≤ _; omega⟩
  have hcell : ∃ cellB : Cell, H[zad g 103]? = some cellB ∧ cellB.vm.isStatics = false ∧ s.vm.findClass Y'.1.cls = some cellB.cls := by
    rw [y1]
    exact vk_recv (i := 0) hRO.2.2.2.2.2.2 (by decide) hD.2
  have hp : PreV s H Y'.1.cls (zad g 103) (va_Pc ((Value.ref 103 :: av).map (ztr g)) (zWorld g μ)) (av.map (ztr g)) :=
    ⟨zWorld_blind g μ _, hcell, zpre hC hD⟩
  refine zcont hC hD hK ha (va_runV (nL := zmaxL Y) ⟨hx, hbb, hml, hown, hts⟩ (hM l) ⟨cb, hts _ (zt_in w1 rfl), hts _ (zt_in w2 rfl)⟩ hp rfl (by rw [List.length_map]; exact hn) ha.1.1 ?_ ?_ hd ⟨r3, r4⟩) kk
  · show st0.map (ztr g) = _
    rw [hs, List.map_append, List.map_reverse]
    rfl
  · show 2 * 0 + _ ≤ 8
    rw [zcats]
    omega
theorem z_strV (hd : decode (zcode Y) pc = .ok (.getfield 9, 3)) (ho : zown Y = 13) (kk : zW g Y d (pc + 3) ls (.ref 104 :: st) μ Q) : zW g Y d pc ls (.ref 103 :: st) μ Q := by
  intro p l e R s m args below meth c H locs cells slots Qf hC hD hK a ha
  have hX := hC
  obtain ⟨hx, hbb, hml, hrt, hlk, hown, hts, hKK, hRO, hNW, hG, hbs, r1, r2, r3, r4⟩ := hX
  rw [ho] at hown
  exact vk_getf hx hbb (hRO.2.2.2.2.2.2.1 0 (by decide)).2.2.1 hD.2 hown (hts (.fieldLink "java/lang/String" 9 "java/lang/String" "value" "[B") (zt_in (i := 1839) (by decide +kernel) rfl)) (fun _ z => z) hd (kk p l e R s m args below meth c H locs cells slots Qf hC hD hK a ha)
theorem z_strC (hd : decode (zcode Y) pc = .ok (.getfield 15, 3)) (ho : zown Y = 13) (kk : zW g Y d (pc + 3) ls (.int 0 :: st) μ Q) : zW g Y d pc ls (.ref 103 :: st) μ Q := by
  intro p l e R s m args below meth c H locs cells slots Qf hC hD hK a ha
  have hX := hC
  obtain ⟨hx, hbb, hml, hrt, hlk, hown, hts, hKK, hRO, hNW, hG, hbs, r1, r2, r3, r4⟩ := hX
  rw [ho] at hown
  exact vk_getf hx hbb (hRO.2.2.2.2.2.2.1 0 (by decide)).2.1 hD.2 hown (hts (.fieldLink "java/lang/String" 15 "java/lang/String" "coder" "B") (zt_in (i := 1838) (by decide +kernel) rfl)) (fun _ z => z) hd (kk p l e R s m args below meth c H locs cells slots Qf hC hD hK a ha)
theorem z_comp (hd : decode (zcode Y) pc = .ok (.getstatic 38, 3)) (ho : zown Y = 13) (kk : zW g Y d (pc + 3) ls (.int 1 :: st) μ Q) : zW g Y d pc ls st μ Q := by
  intro p l e R s m args below meth c H locs cells slots Qf hC hD hK a ha
  have hX := hC
  obtain ⟨hx, hbb, hml, hrt, hlk, hown, hts, hKK, hRO, hNW, hG, hbs, r1, r2, r3, r4⟩ := hX
  rw [ho] at hown
  exact va_gets hx hbb hRO.2.2.2.2.2.1 hD.2 hown (hts (.fieldLink "java/lang/String" 38 "java/lang/String" "COMPACT_STRINGS" "Z") (zt_in (i := 652) (by decide +kernel) rfl)) (fun _ z => z) hd (kk p l e R s m args below meth c H locs cells slots Qf hC hD hK a ha)
theorem z_len104 (hd : decode (zcode Y) pc = .ok (.arraylength, 1)) (kk : zW g Y d (pc + 1) ls (.int 6 :: st) μ Q) : zW g Y d pc ls (.ref 104 :: st) μ Q := by
  intro p l e R s m args below meth c H locs cells slots Qf hC hD hK a ha
  have hX := hC
  obtain ⟨hx, hbb, hml, hrt, hlk, hown, hts, hKK, hRO, hNW, hG, hbs, r1, r2, r3, r4⟩ := hX
  exact va_tlen hx hbb (hRO.2.2.2.2.2.2.1 0 (by decide)).2.2.2 hD.2 (v := 6) rfl hd (kk p l e R s m args below meth c H locs cells slots Qf hC hD hK a ha)
theorem z_b104 {i : Nat} {v : Int32} (hi : i < 6) (hv : ([119, 107, 100, 104, 98, 112] : List Int32).getD i 0 = v) (hd : decode (zcode Y) pc = .ok (.baload, 1)) (kk : zW g Y d (pc + 1) ls (.int v :: st) μ Q) : zW g Y d pc ls (.int (nI i) :: .ref 104 :: st) μ Q := by
  intro p l e R s m args below meth c H locs cells slots Qf hC hD hK a ha
  have hX := hC
  obtain ⟨hx, hbb, hml, hrt, hlk, hown, hts, hKK, hRO, hNW, hG, hbs, r1, r2, r3, r4⟩ := hX
  exact va_tb hx hbb (hRO.2.2.2.2.2.2.1 0 (by decide)).2.2.2 hD.2 (i := nI i) (v := .int v) (vp_in_nI (N := 6) hi (by decide)) (by rw [nI_clamp (by omega)]; exact congrArg Value.int hv) hd (kk p l e R s m args below meth c H locs cells slots Qf hC hD hK a ha)
theorem z_retB (hd : decode (zcode Y) pc = .ok (.ireturn, 1)) (hr : zretT Y = some .byte) (hq : Q (some (.int 0)) μ) : zW g Y d pc ls [.int 0] μ Q :=
  fun _ _ _ _ _ _ _ _ _ _ H locs _ _ _ _ hD hK a _ => hK (some (.int 0)) μ H locs pc a hq hD ⟨hd, .byte, hr, rfl⟩
end ZJ
theorem kJ_76 : zlkJ 7 76 J_indexOfS 1 640 641 642 114 643 = true := by decide +kernel
theorem kJ_633 : zlkJ 13 633 J_indexOfS2 2 644 645 646 114 647 = true := by decide +kernel
theorem kJ_492 : zlkJ 13 492 J_isLatin1S 0 648 649 650 114 651 = true := by decide +kernel
theorem kJ_505 : zlkJ 13 505 J_lengthS 0 654 655 656 114 657 = true := by decide +kernel
theorem kJ_335 : zlkJ 13 335 J_coderS 0 658 659 660 114 661 = true := by decide +kernel
theorem J_len_d4 : decode (zcode J_lengthS) 4 = .ok (.arraylength, 1) := by decide +kernel
theorem J_len_s5 : zseg (zown J_lengthS) (zcode J_lengthS) 5 [(.aload_n 0, 1, 0, 0, 0)] 6 = true := by decide +kernel
theorem J_ixL_s14 : zseg (zown J_indexOfL) (zcode J_indexOfL) 14 [(.istore_n 2, 1, 0, 0, 0), (.iload_n 3, 1, 0, 0, 0), (.aload_n 0, 1, 0, 0, 0)] 17 = true := by decide +kernel
theorem J_ixL_d17 : decode (zcode J_indexOfL) 17 = .ok (.arraylength, 1) := by decide +kernel
theorem J_ixC_s13 : zseg (zown J_indexOfCharL) (zcode J_indexOfCharL) 13 [(.aload_n 0, 1, 0, 0, 0), (.iload 5, 2, 0, 0, 0)] 16 = true := by decide +kernel
theorem J_ixC_d16 : decode (zcode J_indexOfCharL) 16 = .ok (.baload, 1) := by decide +kernel
theorem J_ixC_s17 : zseg (zown J_indexOfCharL) (zcode J_indexOfCharL) 17 [(.iload 4, 2, 0, 0, 0)] 19 = true := by decide +kernel
theorem J_indexOfS2_s0 : zseg (zown J_indexOfS2) (zcode J_indexOfS2) 0 [(.aload_n 0, 1, 0, 0, 0)] 1 = true := by decide +kernel
theorem J_indexOfS2_d1 : decode (zcode J_indexOfS2) 1 = .ok (.invokevirtual 492, 3) := by decide +kernel
theorem J_indexOfS2_d4 : decode (zcode J_indexOfS2) 4 = .ok (.ifCond .eq 19, 3) := by decide +kernel
theorem J_indexOfS2_s7 : zseg (zown J_indexOfS2) (zcode J_indexOfS2) 7 [(.aload_n 0, 1, 0, 0, 0)] 8 = true := by decide +kernel
theorem J_indexOfS2_d8 : decode (zcode J_indexOfS2) 8 = .ok (.getfield 9, 3) := by decide +kernel
theorem J_indexOfS2_s11 : zseg (zown J_indexOfS2) (zcode J_indexOfS2) 11 [(.iload_n 1, 1, 0, 0, 0), (.iload_n 2, 1, 0, 0, 0), (.aload_n 0, 1, 0, 0, 0)] 14 = true := by decide +kernel
theorem J_indexOfS2_d14 : decode (zcode J_indexOfS2) 14 = .ok (.invokevirtual 505, 3) := by decide +kernel
theorem J_indexOfS2_d17 : decode (zcode J_indexOfS2) 17 = .ok (.invokestatic 637, 3) := by decide +kernel
theorem J_indexOfS2_s20 : zseg (zown J_indexOfS2) (zcode J_indexOfS2) 20 [(.goto 16, 3, 0, 0, 0)] 36 = true := by decide +kernel
theorem J_indexOfS2_d36 : decode (zcode J_indexOfS2) 36 = .ok (.ireturn, 1) := by decide +kernel
theorem x_coder {g : zG} {d : Nat} {μ : zMem} : zM g d J_coderS [.ref 103] μ (fun r μ' => r = some (.int 0) ∧ μ' = μ) := by
  refine zM_of (by decide +kernel) rfl rfl (Nat.le_of_ble_eq_true rfl) rfl ?_
  refine z_comp J_coderS_d0 rfl ?_
  refine z_eq J_coderS_d3 (tgt := 13) rfl (fun h3 => absurd h3 (by decide)) (fun h3 => ?_)
  refine zb J_coderS_s6 rfl ?_
  refine z_strC J_coderS_d7 rfl ?_
  refine zb J_coderS_s10 rfl ?_
  exact z_retB J_coderS_d14 rfl ⟨rfl, rfl⟩
theorem x_isLatin1 {g : zG} {d : Nat} {μ : zMem} : zM g d J_isLatin1S [.ref 103] μ (fun r μ' => r = some (.int 1) ∧ μ' = μ) := by
  refine zM_of (by decide +kernel) rfl rfl (Nat.le_of_ble_eq_true rfl) rfl ?_
  refine z_comp J_isLatin1S_d0 rfl ?_
  refine z_eq J_isLatin1S_d3 (tgt := 17) rfl (fun h3 => absurd h3 (by decide)) (fun h3 => ?_)
  refine zb J_isLatin1S_s6 rfl ?_
  refine z_strC J_isLatin1S_d7 rfl ?_
  refine z_ne J_isLatin1S_d10 (tgt := 17) rfl (fun h10 => absurd rfl h10) (fun h10 => ?_)
  refine zb J_isLatin1S_s13 rfl ?_
  exact z_retZ J_isLatin1S_d18 rfl (Or.inr rfl) ⟨rfl, rfl⟩
theorem x_strlen {g : zG} {d : Nat} {μ : zMem} (hd : 1 ≤ d) : zM g d J_lengthS [.ref 103] μ (fun r μ' => r = some (.int 6) ∧ μ' = μ) := by
  refine zM_of (by decide +kernel) rfl rfl (Nat.le_of_ble_eq_true rfl) rfl ?_
  refine zb J_lengthS_s0 rfl ?_
  refine z_strV J_lengthS_d1 rfl ?_
  refine z_len104 J_len_d4 ?_
  refine zb J_len_s5 rfl ?_
  refine zcallJ (av := []) J_lengthS_d6 kJ_335 hd x_coder rfl rfl (Nat.le_of_ble_eq_true rfl) ?_
  rintro _ μx ⟨rfl, hx⟩
  rw [hx]
  refine zb J_lengthS_s9 rfl ?_
  exact z_ret J_lengthS_d10 rfl ⟨rfl, rfl⟩
def qnmI (c : Int32) : Int32 := match qnm c with
  | some i => nI i
  | none => -1
theorem qnm_byte : ∀ n : Fin 256, ∀ i : Fin 6, ((nI n.1).toInt8.toInt32 = ([119, 107, 100, 104, 98, 112] : List Int32).getD i.1 0 ↔ nI n.1 = ([119, 107, 100, 104, 98, 112] : List Int32).getD i.1 0) := by decide +kernel
theorem qnmI_at {c : Int32} {i : Nat} (hi : i < 6) (h : c = ([119, 107, 100, 104, 98, 112] : List Int32).getD i 0) : qnmI c = nI i := by
  subst h
  rcases (show i = 0 ∨ i = 1 ∨ i = 2 ∨ i = 3 ∨ i = 4 ∨ i = 5 by omega) with rfl | rfl | rfl | rfl | rfl | rfl <;> rfl
theorem qnmI_no {c : Int32} (h : ∀ i, i < 6 → ¬ c = ([119, 107, 100, 104, 98, 112] : List Int32).getD i 0) : qnmI c = -1 := by
  unfold qnmI qnm
  rw [if_neg (show ¬ c = 119 from h 0 (by decide)), if_neg (show ¬ c = 107 from h 1 (by decide)), if_neg (show ¬ c = 100 from h 2 (by decide)), if_neg (show ¬ c = 104 from h 3 (by decide)), if_neg (show ¬ c = 98 from h 4 (by decide)), if_neg (show ¬ c = 112 from h 5 (by decide))]
theorem w_ixC {g : zG} {d k : Nat} {μ : zMem} {x2 : Option Value} (hk : k < 256) : ∀ (j i : Nat), i + j = 6 → (∀ i', i' < i → ¬ nI k = ([119, 107, 100, 104, 98, 112] : List Int32).getD i' 0) → zW g J_indexOfCharL d 7 [some (.ref 104), some (.int (nI k)), x2, some (.int 6), some (.int (nI k).toInt8.toInt32), some (.int (nI i))] [] μ (fun r μ' => r = some (.int (qnmI (nI k))) ∧ μ' = μ) := by
  intro j
  induction j with
  | zero =>
    intro i hi hp
    have e : i = 6 := by omega
    subst e
    refine zb J_indexOfCharL_s7 rfl ?_
    refine z_cge J_indexOfCharL_d10 (tgt := 31) rfl (fun h10 => ?_) (fun h10 => absurd (show (6 : Int32) ≤ nI 6 by decide) h10)
    refine zb J_indexOfCharL_s31 rfl ?_
    refine z_ret J_indexOfCharL_d32 rfl ?_
    rw [qnmI_no hp]
    exact ⟨rfl, rfl⟩
  | succ j ih =>
    intro i hi hp
    refine zb J_indexOfCharL_s7 rfl ?_
    refine z_cge J_indexOfCharL_d10 (tgt := 31) rfl (fun h10 => absurd h10 (nI_ge (b := 6) (by omega) (by decide))) (fun h10 => ?_)
    refine zb J_ixC_s13 rfl ?_
    refine z_b104 (i := i) (by omega) rfl J_ixC_d16 ?_
    refine zb J_ixC_s17 rfl ?_
    refine z_cne J_indexOfCharL_d19 (tgt := 25) rfl (fun h19 => ?_) (fun h19 => ?_)
    · refine zb J_indexOfCharL_s25 rfl ?_
      rw [nI_1]
      refine ih (i + 1) (by omega) (fun i' h' e => ?_)
      by_cases z : i' = i
      · subst z
        exact h19 ((qnm_byte ⟨k, hk⟩ ⟨i', by omega⟩).mpr e).symm
      · exact hp i' (by omega) e
    · refine zb J_indexOfCharL_s22 rfl ?_
      refine z_ret J_indexOfCharL_d24 rfl ?_
      rw [qnmI_at (i := i) (by omega) ((qnm_byte ⟨k, hk⟩ ⟨i, by omega⟩).mp h19.symm)]
      exact ⟨rfl, rfl⟩
theorem x_ixC {g : zG} {d k : Nat} {μ : zMem} (hk : k < 256) : zM g d J_indexOfCharL [.ref 104, .int (nI k), .int 0, .int 6] μ (fun r μ' => r = some (.int (qnmI (nI k))) ∧ μ' = μ) := by
  refine zM_of (by decide +kernel) rfl rfl (Nat.le_of_ble_eq_true rfl) rfl ?_
  refine zb J_indexOfCharL_s0 rfl ?_
  exact w_ixC hk 6 0 rfl (fun i h => by omega)

set_option maxRecDepth 100000 in
set_option maxHeartbeats 4000000 in
theorem x_canEncode {g : zG} {d k : Nat} {μ : zMem} (hk : k < 256) : zM g d J_canEncodeL [.int (nI k)] μ (fun r μ' => r = some (.int 1) ∧ μ' = μ) := by
  refine zM_of (by decide +kernel) rfl rfl (Nat.le_of_ble_eq_true rfl) rfl ?_
  refine zb J_canEncodeL_s0 rfl ?_
  refine z_lt J_canEncodeL_d1 (tgt := 15) rfl (fun h1 => absurd h1 (nI_pos (by omega))) (fun h1 => ?_)
  refine zb J_canEncodeL_s4 rfl ?_
  refine z_cgt J_canEncodeL_d8 (tgt := 15) rfl (fun h8 => absurd h8 (Int32.not_lt.mpr (show nI k ≤ 255 from nI_le (b := 255) (by omega) (by omega)))) (fun h8 => ?_)
  refine zb J_canEncodeL_s11 rfl ?_
  refine z_retZ J_canEncodeL_d16 rfl (by first | exact Or.inl rfl | exact Or.inr rfl) ?_
  exact ⟨rfl, rfl⟩

theorem x_ixL {g : zG} {d k : Nat} {μ : zMem} (hd : 1 ≤ d) (hk : k < 256) : zM g d J_indexOfL [.ref 104, .int (nI k), .int 0, .int 6] μ (fun r μ' => r = some (.int (qnmI (nI k))) ∧ μ' = μ) := by
  refine zM_of (by decide +kernel) rfl rfl (Nat.le_of_ble_eq_true rfl) rfl ?_
  refine zb J_indexOfL_s0 rfl ?_
  refine zcallS J_indexOfL_d1 k14_88 hd (x_canEncode hk) rfl rfl (Nat.le_of_ble_eq_true rfl) ?_
  rintro _ μx ⟨rfl, hx⟩
  rw [hx]
  refine z_ne J_indexOfL_d4 (tgt := 9) rfl (fun h4 => ?_) (fun h4 => absurd h4 (by decide))
  refine zb J_indexOfL_s9 rfl ?_
  refine zmax J_indexOfL_d11 k14_92 hd (Nat.le_of_ble_eq_true rfl) ?_
  rw [show (if (0 : Int32) < 0 then (0 : Int32) else 0) = 0 from rfl]
  refine zb J_ixL_s14 rfl ?_
  refine z_len104 J_ixL_d17 ?_
  refine zmin J_indexOfL_d18 k14_38 hd (Nat.le_of_ble_eq_true rfl) ?_
  rw [show (if (6 : Int32) < 6 then (6 : Int32) else 6) = 6 from rfl]
  refine zb J_indexOfL_s21 rfl ?_
  refine z_clt J_indexOfL_d24 (tgt := 29) rfl (fun h24 => ?_) (fun h24 => absurd (by decide) h24)
  refine zb J_indexOfL_s29 rfl ?_
  refine zcallS J_indexOfL_d33 k14_95 hd (x_ixC hk) rfl rfl (Nat.le_of_ble_eq_true rfl) ?_
  rintro _ μx ⟨rfl, hx⟩
  rw [hx]
  exact z_ret J_indexOfL_d36 rfl ⟨rfl, rfl⟩
theorem x_indexOf2 {g : zG} {d k : Nat} {μ : zMem} (hd : 2 ≤ d) (hk : k < 256) : zM g d J_indexOfS2 [.ref 103, .int (nI k), .int 0] μ (fun r μ' => r = some (.int (qnmI (nI k))) ∧ μ' = μ) := by
  refine zM_of (by decide +kernel) rfl rfl (Nat.le_of_ble_eq_true rfl) rfl ?_
  refine zb J_indexOfS2_s0 rfl ?_
  refine zcallJ (av := []) J_indexOfS2_d1 kJ_492 (by omega) x_isLatin1 rfl rfl (Nat.le_of_ble_eq_true rfl) ?_
  rintro _ μx ⟨rfl, hx⟩
  rw [hx]
  refine z_eq J_indexOfS2_d4 (tgt := 23) rfl (fun h4 => absurd h4 (by decide)) (fun h4 => ?_)
  refine zb J_indexOfS2_s7 rfl ?_
  refine z_strV J_indexOfS2_d8 rfl ?_
  refine zb J_indexOfS2_s11 rfl ?_
  refine zcallJ (av := []) J_indexOfS2_d14 kJ_505 (by omega) (x_strlen (by omega)) rfl rfl (Nat.le_of_ble_eq_true rfl) ?_
  rintro _ μx ⟨rfl, hx⟩
  rw [hx]
  refine zcallS J_indexOfS2_d17 k13_637 (by omega) (x_ixL (by omega) hk) rfl rfl (Nat.le_of_ble_eq_true rfl) ?_
  rintro _ μx ⟨rfl, hx⟩
  rw [hx]
  refine zb J_indexOfS2_s20 rfl ?_
  exact z_ret J_indexOfS2_d36 rfl ⟨rfl, rfl⟩
theorem x_indexOf {g : zG} {d k : Nat} {μ : zMem} (hd : 3 ≤ d) (hk : k < 256) : zM g d J_indexOfS [.ref 103, .int (nI k)] μ (fun r μ' => r = some (.int (qnmI (nI k))) ∧ μ' = μ) := by
  refine zM_of (by decide +kernel) rfl rfl (Nat.le_of_ble_eq_true rfl) rfl ?_
  refine zb J_indexOfS_s0 rfl ?_
  refine zcallJ (av := [.int (nI k), .int 0]) J_indexOfS_d3 kJ_633 (by omega) (x_indexOf2 (by omega) hk) rfl rfl (Nat.le_of_ble_eq_true rfl) ?_
  rintro _ μx ⟨rfl, hx⟩
  rw [hx]
  exact z_ret J_indexOfS_d6 rfl ⟨rfl, rfl⟩
