/-! the library's own: Math, arraycopy, the text -/
def zlk0 (o idx : Nat) (y : MethodName) (p0 : Nat) : Bool := decide (lw_tbl[p0]? = some (.methodLink (zR o) idx y))
section ZLIB
variable {g : zG} {Y : zY} {d pc idx p0 : Nat} {ls : List (Option Value)} {st : List Value} {μ : zMem} {Q : Option Value → zMem → Prop} {u v : Int32}
theorem zmax (hd : decode (zcode Y) pc = .ok (.invokestatic idx, 3)) (hl : zlk0 (zown Y) idx Lib.Math.max.name p0 = true) (hd1 : 1 ≤ d) (h8 : (st.map fun v => v.category).sum ≤ 8) (kk : zW g Y d (pc + 3) ls (.int (if u < v then v else u) :: st) μ Q) : zW g Y d pc ls (.int v :: .int u :: st) μ Q := by
  intro p l e R s m args below meth c H locs cells slots Qf hC hD hK a ha
  have hX := hC
  obtain ⟨hx, hbb, hml, hrt, hlk, hown, hts, hKK, hRO, hNW, hG, hbs, r1, r2, r3, r4⟩ := hX
  exact va_mmax hx hbb (hml.trans ha.1.1.symm) hown (hts _ (zt_in (of_decide_eq_true hl) rfl)) (hts _ (zt_in (i := 669) (by decide +kernel) rfl)) (hts _ (zt_in (i := 116) (by decide +kernel) rfl)) (hts _ (zt_in (i := 670) (by decide +kernel) rfl)) (by omega) (by rw [zcats]; omega) r3 r4 hd (kk p l e R s m args below meth c H locs cells slots Qf hC hD hK a ha)
theorem zmin (hd : decode (zcode Y) pc = .ok (.invokestatic idx, 3)) (hl : zlk0 (zown Y) idx Lib.Math.min.name p0 = true) (hd1 : 1 ≤ d) (h8 : (st.map fun v => v.category).sum ≤ 8) (kk : zW g Y d (pc + 3) ls (.int (if v < u then v else u) :: st) μ Q) : zW g Y d pc ls (.int v :: .int u :: st) μ Q := by
  intro p l e R s m args below meth c H locs cells slots Qf hC hD hK a ha
  have hX := hC
  obtain ⟨hx, hbb, hml, hrt, hlk, hown, hts, hKK, hRO, hNW, hG, hbs, r1, r2, r3, r4⟩ := hX
  exact va_mmin hx hbb (hml.trans ha.1.1.symm) hown (hts _ (zt_in (of_decide_eq_true hl) rfl)) (hts _ (zt_in (i := 672) (by decide +kernel) rfl)) (hts _ (zt_in (i := 116) (by decide +kernel) rfl)) (hts _ (zt_in (i := 673) (by decide +kernel) rfl)) (by omega) (by rw [zcats]; omega) r3 r4 hd (kk p l e R s m args below meth c H locs cells slots Qf hC hD hK a ha)
theorem zabs (hd : decode (zcode Y) pc = .ok (.invokestatic idx, 3)) (hl : zlk0 (zown Y) idx Lib.Math.abs.name p0 = true) (hd1 : 1 ≤ d) (h8 : (st.map fun v => v.category).sum ≤ 8) (kk : zW g Y d (pc + 3) ls (.int (if 0 ≤ u then u else 0 - u) :: st) μ Q) : zW g Y d pc ls (.int u :: st) μ Q := by
  intro p l e R s m args below meth c H locs cells slots Qf hC hD hK a ha
  have hX := hC
  obtain ⟨hx, hbb, hml, hrt, hlk, hown, hts, hKK, hRO, hNW, hG, hbs, r1, r2, r3, r4⟩ := hX
  exact va_mabs hx hbb (hml.trans ha.1.1.symm) hown (hts _ (zt_in (of_decide_eq_true hl) rfl)) (hts _ (zt_in (i := 814) (by decide +kernel) rfl)) (hts _ (zt_in (i := 116) (by decide +kernel) rfl)) (hts _ (zt_in (i := 815) (by decide +kernel) rfl)) (by omega) (by rw [zcats]; omega) r3 r4 hd (kk p l e R s m args below meth c H locs cells slots Qf hC hD hK a ha)
theorem zcpI {c0 c1 n0 n1 : Nat} {sp dp k : Int32} (hd : decode (zcode Y) pc = .ok (.invokestatic idx, 3)) (hl : zlk0 (zown Y) idx arraycopyName p0 = true) (hd1 : 1 ≤ d) (h8 : (st.map fun v => v.category).sum ≤ 8) (hc0 : zkd c0 = .inr (0, n0)) (hc1 : zkd c1 = .inr (0, n1)) (h1 : ¬ sp < 0) (h2 : ¬ dp < 0) (h3 : ¬ k < 0) (h4 : sp.toNatClampNeg + k.toNatClampNeg ≤ n0) (h5 : dp.toNatClampNeg + k.toNatClampNeg ≤ n1)
    (kk : zW g Y d (pc + 3) ls st (zpA μ c1 (va_cpy (μ.1 c0) (μ.1 c1) sp.toNatClampNeg dp.toNatClampNeg k.toNatClampNeg)) Q) : zW g Y d pc ls (.int k :: .int dp :: .ref c1 :: .int sp :: .ref c0 :: st) μ Q := by
  intro p l e R s m args below meth c H locs cells slots Qf hC hD hK a ha
  have hX := hC
  obtain ⟨hx, hbb, hml, hrt, hlk, hown, hts, hKK, hRO, hNW, hG, hbs, r1, r2, r3, r4⟩ := hX
  have hnf : nativeFrameWords "java/lang/System" "arraycopy" 5 ≤ 40 := by decide +kernel
  refine va_copyi hx hbb (hml.trans ha.1.1.symm) hown (hts _ (zt_in (of_decide_eq_true hl) rfl)) (hts _ (zt_in (i := 562) (by decide +kernel) rfl)) (hts _ (zt_in (i := 561) (by decide +kernel) rfl)) (hts _ (zt_in (i := 113) (by decide +kernel) rfl)) hKK hD.1 (zws_D hG) hD.2 c0 c1 0 0 (zws_arr (zkd_ltA hc0) hc0) (zws_arr (zkd_ltA hc1) hc1) rfl rfl rfl h1 h2 h3 h4 h5 (fun _ _ => rfl) (by omega) (by rw [zcats]; omega) hd (fun H1 locs1 hP1 _ hS1 => ?_)
  rw [zws_rowI (zkd_ltA hc1) hc1] at hP1
  exact kk p l e R s m args below meth c H1 locs1 cells slots Qf hC ⟨hP1, hS1⟩ hK a ha
theorem zcpL {c0 c1 n0 n1 : Nat} {sp dp k : Int32} (hd : decode (zcode Y) pc = .ok (.invokestatic idx, 3)) (hl : zlk0 (zown Y) idx arraycopyName p0 = true) (hd1 : 1 ≤ d) (h8 : (st.map fun v => v.category).sum ≤ 8) (hc0 : zkd c0 = .inr (1, n0)) (hc1 : zkd c1 = .inr (1, n1)) (h1 : ¬ sp < 0) (h2 : ¬ dp < 0) (h3 : ¬ k < 0) (h4 : sp.toNatClampNeg + k.toNatClampNeg ≤ n0) (h5 : dp.toNatClampNeg + k.toNatClampNeg ≤ n1)
    (kk : zW g Y d (pc + 3) ls st (zpAL μ c1 (va_cpy (μ.2.1 c0) (μ.2.1 c1) sp.toNatClampNeg dp.toNatClampNeg k.toNatClampNeg)) Q) : zW g Y d pc ls (.int k :: .int dp :: .ref c1 :: .int sp :: .ref c0 :: st) μ Q := by
  intro p l e R s m args below meth c H locs cells slots Qf hC hD hK a ha
  have hX := hC
  obtain ⟨hx, hbb, hml, hrt, hlk, hown, hts, hKK, hRO, hNW, hG, hbs, r1, r2, r3, r4⟩ := hX
  have hnf : nativeFrameWords "java/lang/System" "arraycopy" 5 ≤ 40 := by decide +kernel
  refine va_copyl hx hbb (hml.trans ha.1.1.symm) hown (hts _ (zt_in (of_decide_eq_true hl) rfl)) (hts _ (zt_in (i := 562) (by decide +kernel) rfl)) (hts _ (zt_in (i := 561) (by decide +kernel) rfl)) (hts _ (zt_in (i := 113) (by decide +kernel) rfl)) hKK hD.1 (zws_D hG) hD.2 c0 c1 1 1 (zws_arr (zkd_ltA hc0) hc0) (zws_arr (zkd_ltA hc1) hc1) rfl rfl rfl h1 h2 h3 h4 h5 (fun _ _ => rfl) (by omega) (by rw [zcats]; omega) hd (fun H1 locs1 hP1 _ hS1 => ?_)
  rw [zws_rowL (zkd_ltA hc1) hc1] at hP1
  exact kk p l e R s m args below meth c H1 locs1 cells slots Qf hC ⟨hP1, hS1⟩ hK a ha
theorem zldS (hd : decode (zcode Y) pc = .ok (.ldc 74, 2)) (ho : zown Y = 7) (kk : zW g Y d (pc + 2) ls (.ref 103 :: st) μ Q) : zW g Y d pc ls st μ Q := by
  intro p l e R s m args below meth c H locs cells slots Qf hC hD hK a ha
  have hX := hC
  obtain ⟨hx, hbb, hml, hrt, hlk, hown, hts, hKK, hRO, hNW, hG, hbs, r1, r2, r3, r4⟩ := hX
  rw [ho] at hown
  exact va_ldcS hx hbb hown hNW.2 hd (kk p l e R s m args below meth c H locs cells slots Qf hC hD hK a ha)
end ZLIB
