/-! the reference: shelves shifted, taken -/
theorem sub_toInt {m N : Nat} (hm : m ≤ 60) (hN : N < 2 ^ 31) : (nI m - nI N).toInt = (m : Int) - N := by
  rw [Int32.toInt_sub, nI_toInt (by omega), nI_toInt hN, zbm (by omega) (by omega)]
theorem le_sub {q m N : Nat} (hq : q < 2 ^ 31) (hm : m ≤ 60) (hN : N < 2 ^ 31) : nI q ≤ nI m - nI N ↔ q + N ≤ m := by
  rw [Int32.le_iff_toInt_le, sub_toInt hm hN, nI_toInt hq]
  omega
def shS (S : zS) (s a p b n : Nat) : zS := sH S (hHeld S, hSort S, hSize S, hShown S, shC S s a p b n)
theorem shS.s {S : zS} {μ : zMem} {s a p b k : Nat} (h : mS (shS S s a p b k) μ) (hp : p < 6) (hb : b + k < 60) (hc : μ.2.1 53 k = hCell S s (a + k)) : mS (shS S s a p b (k + 1)) (zpL μ 52 (60 * p + b + k) (μ.2.1 53 k)) := by
  unfold shS at h ⊢
  rw [mS_sH] at h ⊢
  obtain ⟨ho, hH⟩ := h
  refine ⟨ho, ⟨hH.1, hH.2.1, hH.2.2.1, hH.2.2.2.1, fun s' q hs' hq => ?_⟩⟩
  have e : μ.2.1 52 (60 * s' + q) = shC S s a p b k s' q := hH.2.2.2.2 s' q hs' hq
  rw [zpL_at, e, hc]
  show _ = shC S s a p b (k + 1) s' q
  unfold shC
  by_cases z : s' = p ∧ q = b + k
  · rw [if_pos (show 60 * s' + q = 60 * p + b + k by omega), if_pos ⟨z.1, by omega, by omega⟩, show q - b = k by omega]
  · rw [if_neg (fun y => z (by omega))]
    by_cases y : s' = p ∧ b ≤ q ∧ q < b + k
    · rw [if_pos y, if_pos ⟨y.1, y.2.1, by omega⟩]
    · rw [if_neg y, if_neg (fun x => by
        by_cases w : q = b + k
        · exact z ⟨x.1, w⟩
        · exact y ⟨x.1, x.2.1, by omega⟩)]
theorem shS.z {S : zS} {μ : zMem} {s a p b : Nat} (h : mS S μ) : mS (shS S s a p b 0) μ := by
  unfold shS
  rw [mS_sH]
  obtain ⟨ho, h2, hT, hC, hD, hI, hA, hH⟩ := h
  refine ⟨⟨ho, h2, hT, hC, hD, hI, hA⟩, ⟨hH.1, hH.2.1, hH.2.2.1, hH.2.2.2.1, fun s' q hs' hq => ?_⟩⟩
  have e : μ.2.1 52 (60 * s' + q) = hCell S s' q := hH.2.2.2.2 s' q hs' hq
  rw [e]
  show _ = shC S s a p b 0 s' q
  unfold shC
  rw [if_neg (fun z => by omega)]
theorem mS_53 {S : zS} {μ : zMem} {k : Nat} {x : Int64} (h : mS S μ) : mS S (zpL μ 53 k x) := h
theorem ix60b {s a k : Nat} (hs : s < 6) (hi : a + k < 60) : vp_in ((60 : Int32) * nI s + nI a + nI k) 360 ∧ ((60 : Int32) * nI s + nI a + nI k).toNatClampNeg = 60 * s + a + k := by
  have e : (60 : Int32) * nI s + nI a + nI k = nI (60 * s + a + k) := by rw [show (60 : Int32) = nI 60 from rfl, pk_mul, nI_add, nI_add]
  rw [e]
  exact ⟨vp_in_nI (by omega) (by omega), nI_clamp (by omega)⟩

set_option maxRecDepth 100000 in
set_option maxHeartbeats 4000000 in
theorem w_M_sh1 {g : zG} {d : Nat} {P : Nat → zMem → Prop} {s a p b N : Nat} {Q : Option Value → zMem → Prop} (hs6 : s < 6) (haN : a + N ≤ 60) (hP : ∀ (i : Nat) (μ : zMem), i < N → P i μ → P (i + 1) (zpL μ 53 i (μ.2.1 52 (60 * s + a + i)))) (hQ : ∀ μ : zMem, P N μ → zW g M_shift d 158 [some (.ref 0), some (.int (nI s)), some (.int (nI a)), some (.int (nI p)), some (.int (nI b)), some (.int (nI N)), some (.int (nI N))] [] μ Q) : ∀ (j i : Nat) (μ : zMem), i + j = N → (P i μ) → zW g M_shift d 124 [some (.ref 0), some (.int (nI s)), some (.int (nI a)), some (.int (nI p)), some (.int (nI b)), some (.int (nI N)), some (.int (nI i))] [] μ (Q) := by
  intro j
  induction j with
  | zero =>
    intro i  μ hi  hv0
    have hi : N = i := by omega
    subst hi
    refine zb M_shift_s124 rfl ?_
    refine z_cge M_shift_d128 (tgt := 158) rfl (fun h128 => ?_) (fun h128 => absurd (Int32.le_refl _) h128)
    exact hQ _ hv0
  | succ j ih =>
    intro i  μ hi  hv0
    have hilt : i < N := by omega
    have ei : (nI i).toNatClampNeg = i := nI_clamp (by omega)
    have ix := ix60b (a := a) hs6 (show a + i < 60 by omega)
    have hvi : vp_in (nI i) 60 := vp_in_nI (by omega) (by omega)
    refine zb M_shift_s124 rfl ?_
    refine z_cge M_shift_d128 (tgt := 158) rfl (fun h128 => absurd h128 (show ¬ nI N ≤ nI i from nI_ge hilt (by omega))) (fun h128 => ?_)
    refine zb2 M_shift_s131 rfl (by first | exact ix.1 | exact hvi) (by first | exact ix.1 | exact hvi) ?_
    rw [nI_1, ix.2, ei]
    exact ih (i + 1) _ (by omega) (hP i μ hilt hv0)

set_option maxRecDepth 100000 in
set_option maxHeartbeats 4000000 in
theorem w_M_sh2 {g : zG} {d : Nat} {P : Nat → zMem → Prop} {s a p b N : Nat} {Q : Option Value → zMem → Prop} (hp6 : p < 6) (hbN : b + N ≤ 60) (hP : ∀ (i : Nat) (μ : zMem), i < N → P i μ → P (i + 1) (zpL μ 52 (60 * p + b + i) (μ.2.1 53 i))) (hQ : ∀ μ : zMem, P N μ → zW g M_shift d 196 [some (.ref 0), some (.int (nI s)), some (.int (nI a)), some (.int (nI p)), some (.int (nI b)), some (.int (nI N)), some (.int (nI N))] [] μ Q) : ∀ (j i : Nat) (μ : zMem), i + j = N → (P i μ) → zW g M_shift d 161 [some (.ref 0), some (.int (nI s)), some (.int (nI a)), some (.int (nI p)), some (.int (nI b)), some (.int (nI N)), some (.int (nI i))] [] μ (Q) := by
  intro j
  induction j with
  | zero =>
    intro i  μ hi  hv0
    have hi : N = i := by omega
    subst hi
    refine zb M_shift_s161 rfl ?_
    refine z_cge M_shift_d165 (tgt := 196) rfl (fun h165 => ?_) (fun h165 => absurd (Int32.le_refl _) h165)
    exact hQ _ hv0
  | succ j ih =>
    intro i  μ hi  hv0
    have hilt : i < N := by omega
    have ei : (nI i).toNatClampNeg = i := nI_clamp (by omega)
    have ix := ix60b (a := b) hp6 (show b + i < 60 by omega)
    have hvi : vp_in (nI i) 60 := vp_in_nI (by omega) (by omega)
    refine zb M_shift_s161 rfl ?_
    refine z_cge M_shift_d165 (tgt := 196) rfl (fun h165 => absurd h165 (show ¬ nI N ≤ nI i from nI_ge hilt (by omega))) (fun h165 => ?_)
    refine zb2 M_shift_s168 rfl (by first | exact ix.1 | exact hvi) (by first | exact ix.1 | exact hvi) ?_
    rw [nI_1, ix.2, ei]
    exact ih (i + 1) _ (by omega) (hP i μ hilt hv0)

set_option maxRecDepth 100000 in
set_option maxHeartbeats 4000000 in
theorem s_M_shift {g : zG} {d : Nat} {S : zS} {μ : zMem} {s i p j n : Int32} (hd : 1 ≤ d) (hS : mS S μ) (hok : okH S) : zM g d M_shift [.ref 0, .int s, .int i, .int p, .int j, .int n] μ (pO mS onlyM (opShift S s i p j n) μ) := by
  refine zM_of (by decide +kernel) rfl rfl (Nat.le_of_ble_eq_true rfl) rfl ?_
  obtain ⟨ho, h2, hT, hC, hD, hI, hA, hH⟩ := hS
  have hS : mS S μ := ⟨ho, h2, hT, hC, hD, hI, hA, hH⟩
  have hb := ho.b
  have hv := ho.v
  have h6 := ho.b6
  have h12 := ho.v12
  have hz : zq sM μ μ := zq.rf
  replace hA : mA (zA_ S) μ := hA
  have e7 : μ.1 0 7 = nI (zA_ S).1.1 := hA.1
  have h50 : (zA_ S).1.1 ≤ 50 := hA.2.1
  have e46 : μ.1 46 = (zA_ S).1.2 := hA.2.2.1
  replace hH : mH (zH S) μ := hH
  have e48 : μ.1 48 = hHeld S := hH.1
  have e49 : μ.1 49 = hSort S := hH.2.1
  have e50 : μ.1 50 = hSize S := hH.2.2.1
  have e51 : μ.1 51 = hShown S := hH.2.2.2.1
  refine zb M_shift_s0 rfl ?_
  refine zcallV M_shift_d2 k11_124 (by omega) (o_isShelf _) rfl rfl rfl (Nat.le_of_ble_eq_true rfl) ?_
  rintro _ μx ⟨rfl, hx⟩
  rw [hx]
  clear hx μx
  refine z_eq M_shift_d5 (tgt := 16) rfl (fun h5 => ?_) (fun h5 => ?_)
  · refine zb M_shift_s16 rfl ?_
    refine z_ret M_shift_d17 rfl ?_
    unfold opShift
    first
      | (rw [if_pos (fun z => (zB_eq0.mp h5) z.1)]; exact ⟨rfl, hS, onlyM.rf⟩)
      | (rw [if_pos (fun z => (zB_eq0.mp h13) z.2)]; exact ⟨rfl, hS, onlyM.rf⟩)
      | (rw [if_neg (fun z => z ⟨g1, g3⟩), es, ep]
         rw [e48, es] at h24
         first
           | (rw [if_pos (show hHeld S q = 0 ∨ hHeld S p' = 0 from Or.inl h24)]; exact ⟨rfl, hS, onlyM.rf⟩)
           | (rw [e48, ep] at h33
              first
                | (rw [if_pos (show hHeld S q = 0 ∨ hHeld S p' = 0 from Or.inr h33)]; exact ⟨rfl, hS, onlyM.rf⟩)
                | (rw [if_neg (show ¬ (hHeld S q = 0 ∨ hHeld S p' = 0) from fun z => z.elim h24 h33)]
                   rw [e48, es] at h46
                   first
                     | (rw [if_pos (show hHeld S q = 1 ∨ hHeld S p' = 1 ∨ ¬ hSort S q = hSort S p' from Or.inl h46)]; exact ⟨rfl, hS, onlyM.rf⟩)
                     | (rw [e48, ep] at h56
                        first
                          | (rw [if_pos (show hHeld S q = 1 ∨ hHeld S p' = 1 ∨ ¬ hSort S q = hSort S p' from Or.inr (Or.inl h56))]; exact ⟨rfl, hS, onlyM.rf⟩)
                          | (rw [e49, es, ep] at h71
                             first
                               | (rw [if_pos (show hHeld S q = 1 ∨ hHeld S p' = 1 ∨ ¬ hSort S q = hSort S p' from Or.inr (Or.inr h71))]; exact ⟨rfl, hS, onlyM.rf⟩)
                               | (rw [if_neg (show ¬ (hHeld S q = 1 ∨ hHeld S p' = 1 ∨ ¬ hSort S q = hSort S p') from fun z => z.elim h46 (fun y => y.elim h56 (fun x => x h71))), if_pos (fun z => by
                                    first
                                      | exact absurd z.1 (Int32.not_le.mpr h79)
                                      | exact absurd z.2.1 (Int32.not_le.mpr h83)
                                      | exact absurd z.2.2.1 (Int32.not_le.mpr h88)
                                      | (rw [e50, es] at h101; exact absurd z.2.2.2.1 (Int32.not_le.mpr h101))
                                      | (rw [e50, ep] at h115; exact h115 z.2.2.2.2))]
                                  exact ⟨rfl, hS, onlyM.rf⟩))))))
  · refine zb M_shift_s8 rfl ?_
    refine zcallV M_shift_d10 k11_124 (by omega) (o_isShelf _) rfl rfl rfl (Nat.le_of_ble_eq_true rfl) ?_
    rintro _ μx ⟨rfl, hx⟩
    rw [hx]
    clear hx μx
    refine z_ne M_shift_d13 (tgt := 18) rfl (fun h13 => ?_) (fun h13 => ?_)
    · have g1 := zB_ne0.mp h5
      obtain ⟨q, hs6, rfl, es⟩ := zix (n := 6) g1.1 g1.2 (by omega)
      have hvs : vp_in (nI q) 6 := vp_in_nI (by omega) (by omega)
      have g3 := zB_ne0.mp h13
      obtain ⟨p', hp6, rfl, ep⟩ := zix (n := 6) g3.1 g3.2 (by omega)
      have hvp : vp_in (nI p') 6 := vp_in_nI (by omega) (by omega)
      refine zb1 M_shift_s18 rfl (by first | exact hvs | exact hvp) ?_
      refine z_eq M_shift_d24 (tgt := 36) rfl (fun h24 => ?_) (fun h24 => ?_)
      · refine zb M_shift_s36 rfl ?_
        refine z_ret M_shift_d38 rfl ?_
        unfold opShift
        first
          | (rw [if_pos (fun z => (zB_eq0.mp h5) z.1)]; exact ⟨rfl, hS, onlyM.rf⟩)
          | (rw [if_pos (fun z => (zB_eq0.mp h13) z.2)]; exact ⟨rfl, hS, onlyM.rf⟩)
          | (rw [if_neg (fun z => z ⟨g1, g3⟩), es, ep]
             rw [e48, es] at h24
             first
               | (rw [if_pos (show hHeld S q = 0 ∨ hHeld S p' = 0 from Or.inl h24)]; exact ⟨rfl, hS, onlyM.rf⟩)
               | (rw [e48, ep] at h33
                  first
                    | (rw [if_pos (show hHeld S q = 0 ∨ hHeld S p' = 0 from Or.inr h33)]; exact ⟨rfl, hS, onlyM.rf⟩)
                    | (rw [if_neg (show ¬ (hHeld S q = 0 ∨ hHeld S p' = 0) from fun z => z.elim h24 h33)]
                       rw [e48, es] at h46
                       first
                         | (rw [if_pos (show hHeld S q = 1 ∨ hHeld S p' = 1 ∨ ¬ hSort S q = hSort S p' from Or.inl h46)]; exact ⟨rfl, hS, onlyM.rf⟩)
                         | (rw [e48, ep] at h56
                            first
                              | (rw [if_pos (show hHeld S q = 1 ∨ hHeld S p' = 1 ∨ ¬ hSort S q = hSort S p' from Or.inr (Or.inl h56))]; exact ⟨rfl, hS, onlyM.rf⟩)
                              | (rw [e49, es, ep] at h71
                                 first
                                   | (rw [if_pos (show hHeld S q = 1 ∨ hHeld S p' = 1 ∨ ¬ hSort S q = hSort S p' from Or.inr (Or.inr h71))]; exact ⟨rfl, hS, onlyM.rf⟩)
                                   | (rw [if_neg (show ¬ (hHeld S q = 1 ∨ hHeld S p' = 1 ∨ ¬ hSort S q = hSort S p') from fun z => z.elim h46 (fun y => y.elim h56 (fun x => x h71))), if_pos (fun z => by
                                        first
                                          | exact absurd z.1 (Int32.not_le.mpr h79)
                                          | exact absurd z.2.1 (Int32.not_le.mpr h83)
                                          | exact absurd z.2.2.1 (Int32.not_le.mpr h88)
                                          | (rw [e50, es] at h101; exact absurd z.2.2.2.1 (Int32.not_le.mpr h101))
                                          | (rw [e50, ep] at h115; exact h115 z.2.2.2.2))]
                                      exact ⟨rfl, hS, onlyM.rf⟩))))))
      · refine zb1 M_shift_s27 rfl (by first | exact hvs | exact hvp) ?_
        refine z_ne M_shift_d33 (tgt := 39) rfl (fun h33 => ?_) (fun h33 => ?_)
        · refine zb1 M_shift_s39 rfl (by first | exact hvs | exact hvp) ?_
          refine z_ceq M_shift_d46 (tgt := 74) rfl (fun h46 => ?_) (fun h46 => ?_)
          · refine zb M_shift_s74 rfl ?_
            refine z_ret M_shift_d76 rfl ?_
            unfold opShift
            first
              | (rw [if_pos (fun z => (zB_eq0.mp h5) z.1)]; exact ⟨rfl, hS, onlyM.rf⟩)
              | (rw [if_pos (fun z => (zB_eq0.mp h13) z.2)]; exact ⟨rfl, hS, onlyM.rf⟩)
              | (rw [if_neg (fun z => z ⟨g1, g3⟩), es, ep]
                 rw [e48, es] at h24
                 first
                   | (rw [if_pos (show hHeld S q = 0 ∨ hHeld S p' = 0 from Or.inl h24)]; exact ⟨rfl, hS, onlyM.rf⟩)
                   | (rw [e48, ep] at h33
                      first
                        | (rw [if_pos (show hHeld S q = 0 ∨ hHeld S p' = 0 from Or.inr h33)]; exact ⟨rfl, hS, onlyM.rf⟩)
                        | (rw [if_neg (show ¬ (hHeld S q = 0 ∨ hHeld S p' = 0) from fun z => z.elim h24 h33)]
                           rw [e48, es] at h46
                           first
                             | (rw [if_pos (show hHeld S q = 1 ∨ hHeld S p' = 1 ∨ ¬ hSort S q = hSort S p' from Or.inl h46)]; exact ⟨rfl, hS, onlyM.rf⟩)
                             | (rw [e48, ep] at h56
                                first
                                  | (rw [if_pos (show hHeld S q = 1 ∨ hHeld S p' = 1 ∨ ¬ hSort S q = hSort S p' from Or.inr (Or.inl h56))]; exact ⟨rfl, hS, onlyM.rf⟩)
                                  | (rw [e49, es, ep] at h71
                                     first
                                       | (rw [if_pos (show hHeld S q = 1 ∨ hHeld S p' = 1 ∨ ¬ hSort S q = hSort S p' from Or.inr (Or.inr h71))]; exact ⟨rfl, hS, onlyM.rf⟩)
                                       | (rw [if_neg (show ¬ (hHeld S q = 1 ∨ hHeld S p' = 1 ∨ ¬ hSort S q = hSort S p') from fun z => z.elim h46 (fun y => y.elim h56 (fun x => x h71))), if_pos (fun z => by
                                            first
                                              | exact absurd z.1 (Int32.not_le.mpr h79)
                                              | exact absurd z.2.1 (Int32.not_le.mpr h83)
                                              | exact absurd z.2.2.1 (Int32.not_le.mpr h88)
                                              | (rw [e50, es] at h101; exact absurd z.2.2.2.1 (Int32.not_le.mpr h101))
                                              | (rw [e50, ep] at h115; exact h115 z.2.2.2.2))]
                                          exact ⟨rfl, hS, onlyM.rf⟩))))))
          · refine zb1 M_shift_s49 rfl (by first | exact hvs | exact hvp) ?_
            refine z_ceq M_shift_d56 (tgt := 74) rfl (fun h56 => ?_) (fun h56 => ?_)
            · refine zb M_shift_s74 rfl ?_
              refine z_ret M_shift_d76 rfl ?_
              unfold opShift
              first
                | (rw [if_pos (fun z => (zB_eq0.mp h5) z.1)]; exact ⟨rfl, hS, onlyM.rf⟩)
                | (rw [if_pos (fun z => (zB_eq0.mp h13) z.2)]; exact ⟨rfl, hS, onlyM.rf⟩)
                | (rw [if_neg (fun z => z ⟨g1, g3⟩), es, ep]
                   rw [e48, es] at h24
                   first
                     | (rw [if_pos (show hHeld S q = 0 ∨ hHeld S p' = 0 from Or.inl h24)]; exact ⟨rfl, hS, onlyM.rf⟩)
                     | (rw [e48, ep] at h33
                        first
                          | (rw [if_pos (show hHeld S q = 0 ∨ hHeld S p' = 0 from Or.inr h33)]; exact ⟨rfl, hS, onlyM.rf⟩)
                          | (rw [if_neg (show ¬ (hHeld S q = 0 ∨ hHeld S p' = 0) from fun z => z.elim h24 h33)]
                             rw [e48, es] at h46
                             first
                               | (rw [if_pos (show hHeld S q = 1 ∨ hHeld S p' = 1 ∨ ¬ hSort S q = hSort S p' from Or.inl h46)]; exact ⟨rfl, hS, onlyM.rf⟩)
                               | (rw [e48, ep] at h56
                                  first
                                    | (rw [if_pos (show hHeld S q = 1 ∨ hHeld S p' = 1 ∨ ¬ hSort S q = hSort S p' from Or.inr (Or.inl h56))]; exact ⟨rfl, hS, onlyM.rf⟩)
                                    | (rw [e49, es, ep] at h71
                                       first
                                         | (rw [if_pos (show hHeld S q = 1 ∨ hHeld S p' = 1 ∨ ¬ hSort S q = hSort S p' from Or.inr (Or.inr h71))]; exact ⟨rfl, hS, onlyM.rf⟩)
                                         | (rw [if_neg (show ¬ (hHeld S q = 1 ∨ hHeld S p' = 1 ∨ ¬ hSort S q = hSort S p') from fun z => z.elim h46 (fun y => y.elim h56 (fun x => x h71))), if_pos (fun z => by
                                              first
                                                | exact absurd z.1 (Int32.not_le.mpr h79)
                                                | exact absurd z.2.1 (Int32.not_le.mpr h83)
                                                | exact absurd z.2.2.1 (Int32.not_le.mpr h88)
                                                | (rw [e50, es] at h101; exact absurd z.2.2.2.1 (Int32.not_le.mpr h101))
                                                | (rw [e50, ep] at h115; exact h115 z.2.2.2.2))]
                                            exact ⟨rfl, hS, onlyM.rf⟩))))))
            · refine zb2 M_shift_s59 rfl (by first | exact hvs | exact hvp) (by first | exact hvs | exact hvp) ?_
              refine z_ceq M_shift_d71 (tgt := 77) rfl (fun h71 => ?_) (fun h71 => ?_)
              · refine zb M_shift_s77 rfl ?_
                refine z_lt M_shift_d79 (tgt := 118) rfl (fun h79 => ?_) (fun h79 => ?_)
                · refine zb M_shift_s118 rfl ?_
                  refine z_ret M_shift_d120 rfl ?_
                  unfold opShift
                  first
                    | (rw [if_pos (fun z => (zB_eq0.mp h5) z.1)]; exact ⟨rfl, hS, onlyM.rf⟩)
                    | (rw [if_pos (fun z => (zB_eq0.mp h13) z.2)]; exact ⟨rfl, hS, onlyM.rf⟩)
                    | (rw [if_neg (fun z => z ⟨g1, g3⟩), es, ep]
                       rw [e48, es] at h24
                       first
                         | (rw [if_pos (show hHeld S q = 0 ∨ hHeld S p' = 0 from Or.inl h24)]; exact ⟨rfl, hS, onlyM.rf⟩)
                         | (rw [e48, ep] at h33
                            first
                              | (rw [if_pos (show hHeld S q = 0 ∨ hHeld S p' = 0 from Or.inr h33)]; exact ⟨rfl, hS, onlyM.rf⟩)
                              | (rw [if_neg (show ¬ (hHeld S q = 0 ∨ hHeld S p' = 0) from fun z => z.elim h24 h33)]
                                 rw [e48, es] at h46
                                 first
                                   | (rw [if_pos (show hHeld S q = 1 ∨ hHeld S p' = 1 ∨ ¬ hSort S q = hSort S p' from Or.inl h46)]; exact ⟨rfl, hS, onlyM.rf⟩)
                                   | (rw [e48, ep] at h56
                                      first
                                        | (rw [if_pos (show hHeld S q = 1 ∨ hHeld S p' = 1 ∨ ¬ hSort S q = hSort S p' from Or.inr (Or.inl h56))]; exact ⟨rfl, hS, onlyM.rf⟩)
                                        | (rw [e49, es, ep] at h71
                                           first
                                             | (rw [if_pos (show hHeld S q = 1 ∨ hHeld S p' = 1 ∨ ¬ hSort S q = hSort S p' from Or.inr (Or.inr h71))]; exact ⟨rfl, hS, onlyM.rf⟩)
                                             | (rw [if_neg (show ¬ (hHeld S q = 1 ∨ hHeld S p' = 1 ∨ ¬ hSort S q = hSort S p') from fun z => z.elim h46 (fun y => y.elim h56 (fun x => x h71))), if_pos (fun z => by
                                                  first
                                                    | exact absurd z.1 (Int32.not_le.mpr h79)
                                                    | exact absurd z.2.1 (Int32.not_le.mpr h83)
                                                    | exact absurd z.2.2.1 (Int32.not_le.mpr h88)
                                                    | (rw [e50, es] at h101; exact absurd z.2.2.2.1 (Int32.not_le.mpr h101))
                                                    | (rw [e50, ep] at h115; exact h115 z.2.2.2.2))]
                                                exact ⟨rfl, hS, onlyM.rf⟩))))))
                · refine zb M_shift_s82 rfl ?_
                  refine z_lt M_shift_d83 (tgt := 118) rfl (fun h83 => ?_) (fun h83 => ?_)
                  · refine zb M_shift_s118 rfl ?_
                    refine z_ret M_shift_d120 rfl ?_
                    unfold opShift
                    first
                      | (rw [if_pos (fun z => (zB_eq0.mp h5) z.1)]; exact ⟨rfl, hS, onlyM.rf⟩)
                      | (rw [if_pos (fun z => (zB_eq0.mp h13) z.2)]; exact ⟨rfl, hS, onlyM.rf⟩)
                      | (rw [if_neg (fun z => z ⟨g1, g3⟩), es, ep]
                         rw [e48, es] at h24
                         first
                           | (rw [if_pos (show hHeld S q = 0 ∨ hHeld S p' = 0 from Or.inl h24)]; exact ⟨rfl, hS, onlyM.rf⟩)
                           | (rw [e48, ep] at h33
                              first
                                | (rw [if_pos (show hHeld S q = 0 ∨ hHeld S p' = 0 from Or.inr h33)]; exact ⟨rfl, hS, onlyM.rf⟩)
                                | (rw [if_neg (show ¬ (hHeld S q = 0 ∨ hHeld S p' = 0) from fun z => z.elim h24 h33)]
                                   rw [e48, es] at h46
                                   first
                                     | (rw [if_pos (show hHeld S q = 1 ∨ hHeld S p' = 1 ∨ ¬ hSort S q = hSort S p' from Or.inl h46)]; exact ⟨rfl, hS, onlyM.rf⟩)
                                     | (rw [e48, ep] at h56
                                        first
                                          | (rw [if_pos (show hHeld S q = 1 ∨ hHeld S p' = 1 ∨ ¬ hSort S q = hSort S p' from Or.inr (Or.inl h56))]; exact ⟨rfl, hS, onlyM.rf⟩)
                                          | (rw [e49, es, ep] at h71
                                             first
                                               | (rw [if_pos (show hHeld S q = 1 ∨ hHeld S p' = 1 ∨ ¬ hSort S q = hSort S p' from Or.inr (Or.inr h71))]; exact ⟨rfl, hS, onlyM.rf⟩)
                                               | (rw [if_neg (show ¬ (hHeld S q = 1 ∨ hHeld S p' = 1 ∨ ¬ hSort S q = hSort S p') from fun z => z.elim h46 (fun y => y.elim h56 (fun x => x h71))), if_pos (fun z => by
                                                    first
                                                      | exact absurd z.1 (Int32.not_le.mpr h79)
                                                      | exact absurd z.2.1 (Int32.not_le.mpr h83)
                                                      | exact absurd z.2.2.1 (Int32.not_le.mpr h88)
                                                      | (rw [e50, es] at h101; exact absurd z.2.2.2.1 (Int32.not_le.mpr h101))
                                                      | (rw [e50, ep] at h115; exact h115 z.2.2.2.2))]
                                                  exact ⟨rfl, hS, onlyM.rf⟩))))))
                  · refine zb M_shift_s86 rfl ?_
                    refine z_lt M_shift_d88 (tgt := 118) rfl (fun h88 => ?_) (fun h88 => ?_)
                    · refine zb M_shift_s118 rfl ?_
                      refine z_ret M_shift_d120 rfl ?_
                      unfold opShift
                      first
                        | (rw [if_pos (fun z => (zB_eq0.mp h5) z.1)]; exact ⟨rfl, hS, onlyM.rf⟩)
                        | (rw [if_pos (fun z => (zB_eq0.mp h13) z.2)]; exact ⟨rfl, hS, onlyM.rf⟩)
                        | (rw [if_neg (fun z => z ⟨g1, g3⟩), es, ep]
                           rw [e48, es] at h24
                           first
                             | (rw [if_pos (show hHeld S q = 0 ∨ hHeld S p' = 0 from Or.inl h24)]; exact ⟨rfl, hS, onlyM.rf⟩)
                             | (rw [e48, ep] at h33
                                first
                                  | (rw [if_pos (show hHeld S q = 0 ∨ hHeld S p' = 0 from Or.inr h33)]; exact ⟨rfl, hS, onlyM.rf⟩)
                                  | (rw [if_neg (show ¬ (hHeld S q = 0 ∨ hHeld S p' = 0) from fun z => z.elim h24 h33)]
                                     rw [e48, es] at h46
                                     first
                                       | (rw [if_pos (show hHeld S q = 1 ∨ hHeld S p' = 1 ∨ ¬ hSort S q = hSort S p' from Or.inl h46)]; exact ⟨rfl, hS, onlyM.rf⟩)
                                       | (rw [e48, ep] at h56
                                          first
                                            | (rw [if_pos (show hHeld S q = 1 ∨ hHeld S p' = 1 ∨ ¬ hSort S q = hSort S p' from Or.inr (Or.inl h56))]; exact ⟨rfl, hS, onlyM.rf⟩)
                                            | (rw [e49, es, ep] at h71
                                               first
                                                 | (rw [if_pos (show hHeld S q = 1 ∨ hHeld S p' = 1 ∨ ¬ hSort S q = hSort S p' from Or.inr (Or.inr h71))]; exact ⟨rfl, hS, onlyM.rf⟩)
                                                 | (rw [if_neg (show ¬ (hHeld S q = 1 ∨ hHeld S p' = 1 ∨ ¬ hSort S q = hSort S p') from fun z => z.elim h46 (fun y => y.elim h56 (fun x => x h71))), if_pos (fun z => by
                                                      first
                                                        | exact absurd z.1 (Int32.not_le.mpr h79)
                                                        | exact absurd z.2.1 (Int32.not_le.mpr h83)
                                                        | exact absurd z.2.2.1 (Int32.not_le.mpr h88)
                                                        | (rw [e50, es] at h101; exact absurd z.2.2.2.1 (Int32.not_le.mpr h101))
                                                        | (rw [e50, ep] at h115; exact h115 z.2.2.2.2))]
                                                    exact ⟨rfl, hS, onlyM.rf⟩))))))
                    · refine zb1 M_shift_s91 rfl (by first | exact hvs | exact hvp) ?_
                      refine z_cgt M_shift_d101 (tgt := 118) rfl (fun h101 => ?_) (fun h101 => ?_)
                      · refine zb M_shift_s118 rfl ?_
                        refine z_ret M_shift_d120 rfl ?_
                        unfold opShift
                        first
                          | (rw [if_pos (fun z => (zB_eq0.mp h5) z.1)]; exact ⟨rfl, hS, onlyM.rf⟩)
                          | (rw [if_pos (fun z => (zB_eq0.mp h13) z.2)]; exact ⟨rfl, hS, onlyM.rf⟩)
                          | (rw [if_neg (fun z => z ⟨g1, g3⟩), es, ep]
                             rw [e48, es] at h24
                             first
                               | (rw [if_pos (show hHeld S q = 0 ∨ hHeld S p' = 0 from Or.inl h24)]; exact ⟨rfl, hS, onlyM.rf⟩)
                               | (rw [e48, ep] at h33
                                  first
                                    | (rw [if_pos (show hHeld S q = 0 ∨ hHeld S p' = 0 from Or.inr h33)]; exact ⟨rfl, hS, onlyM.rf⟩)
                                    | (rw [if_neg (show ¬ (hHeld S q = 0 ∨ hHeld S p' = 0) from fun z => z.elim h24 h33)]
                                       rw [e48, es] at h46
                                       first
                                         | (rw [if_pos (show hHeld S q = 1 ∨ hHeld S p' = 1 ∨ ¬ hSort S q = hSort S p' from Or.inl h46)]; exact ⟨rfl, hS, onlyM.rf⟩)
                                         | (rw [e48, ep] at h56
                                            first
                                              | (rw [if_pos (show hHeld S q = 1 ∨ hHeld S p' = 1 ∨ ¬ hSort S q = hSort S p' from Or.inr (Or.inl h56))]; exact ⟨rfl, hS, onlyM.rf⟩)
                                              | (rw [e49, es, ep] at h71
                                                 first
                                                   | (rw [if_pos (show hHeld S q = 1 ∨ hHeld S p' = 1 ∨ ¬ hSort S q = hSort S p' from Or.inr (Or.inr h71))]; exact ⟨rfl, hS, onlyM.rf⟩)
                                                   | (rw [if_neg (show ¬ (hHeld S q = 1 ∨ hHeld S p' = 1 ∨ ¬ hSort S q = hSort S p') from fun z => z.elim h46 (fun y => y.elim h56 (fun x => x h71))), if_pos (fun z => by
                                                        first
                                                          | exact absurd z.1 (Int32.not_le.mpr h79)
                                                          | exact absurd z.2.1 (Int32.not_le.mpr h83)
                                                          | exact absurd z.2.2.1 (Int32.not_le.mpr h88)
                                                          | (rw [e50, es] at h101; exact absurd z.2.2.2.1 (Int32.not_le.mpr h101))
                                                          | (rw [e50, ep] at h115; exact h115 z.2.2.2.2))]
                                                      exact ⟨rfl, hS, onlyM.rf⟩))))))
                      · refine zb1 M_shift_s104 rfl (by first | exact hvs | exact hvp) ?_
                        refine z_cle M_shift_d115 (tgt := 121) rfl (fun h115 => ?_) (fun h115 => ?_)
                        · refine zb M_shift_s121 rfl ?_
                          rw [e48, es] at h24 h46
                          rw [e48, ep] at h33 h56
                          rw [e49, es, ep] at h71
                          rw [e50, es] at h101
                          rw [e50, ep] at h115
                          obtain ⟨-, ⟨m1, hm1, em1⟩, -⟩ := hok.two hs6 (show hHeld S q = 2 by rcases hok q hs6 with w | w | w <;> first | exact absurd w h24 | exact absurd w.1 h46 | exact w.1)
                          obtain ⟨-, ⟨m2, hm2, em2⟩, -⟩ := hok.two hp6 (show hHeld S p' = 2 by rcases hok p' hp6 with w | w | w <;> first | exact absurd w h33 | exact absurd w.1 h56 | exact w.1)
                          unfold opShift
                          rw [if_neg (fun z => z ⟨g1, g3⟩), es, ep, if_neg (show ¬ (hHeld S q = 0 ∨ hHeld S p' = 0) from fun z => z.elim h24 h33), if_neg (show ¬ (hHeld S q = 1 ∨ hHeld S p' = 1 ∨ ¬ hSort S q = hSort S p') from fun z => z.elim h46 (fun y => y.elim h56 (fun x => x h71))), if_neg (fun z => z ⟨Int32.not_lt.mp h79, Int32.not_lt.mp h83, Int32.not_lt.mp h88, Int32.not_lt.mp h101, h115⟩)]
                          obtain ⟨N, hN, rfl⟩ := nI_of h79
                          obtain ⟨a, ha, rfl⟩ := nI_of h83
                          obtain ⟨b, hb', rfl⟩ := nI_of h88
                          rw [em1] at h101
                          rw [em2] at h115
                          have l1 := (le_sub ha hm1 hN).mp (Int32.not_lt.mp h101)
                          have l2 := (le_sub hb' hm2 hN).mp h115
                          rw [nI_clamp ha, nI_clamp hb', nI_clamp hN]
                          refine w_M_sh1 (P := fun k μ2 => (mS S μ2 ∧ onlyM μ μ2) ∧ ∀ r, r < k → μ2.2.1 53 r = hCell S q (a + r)) hs6 (by omega) (fun k μ2 hk h => ⟨⟨mS_53 h.1.1, h.1.2.tr (onlyM.putL rfl onlyM.rf)⟩, fun r hr => ?_⟩) (fun μ2 h => ?_) N 0 μ (by omega) ⟨⟨hS, onlyM.rf⟩, fun r hr => absurd hr (Nat.not_lt_zero _)⟩
                          · rw [zpL_at]
                            by_cases e : r = k
                            · rw [if_pos e, e]
                              have := h.1.1.2.2.2.2.2.2.2.2.2.2.2 q (a + k) hs6 (by omega)
                              rw [Nat.add_assoc]
                              exact this
                            · rw [if_neg e]
                              exact h.2 r (by omega)
                          · refine zb M_shift_s158 rfl ?_
                            refine w_M_sh2 (P := fun k μ3 => (mS (shS S q a p' b k) μ3 ∧ onlyM μ μ3) ∧ ∀ r, r < N → μ3.2.1 53 r = hCell S q (a + r)) hp6 (by omega) (fun k μ3 hk h3 => ⟨⟨shS.s h3.1.1 hp6 (by omega) (h3.2 k hk), h3.1.2.tr (onlyM.putL rfl onlyM.rf)⟩, fun r hr => ?_⟩) (fun μ3 h3 => ?_) N 0 μ2 (by omega) ⟨⟨shS.z h.1.1, h.1.2⟩, h.2⟩
                            · rw [zpL_ne (by decide)]
                              exact h3.2 r hr
                            · refine zb M_shift_s196 rfl ?_
                              refine z_ret M_shift_d198 rfl ?_
                              exact ⟨rfl, h3.1.1, h3.1.2⟩
                        · refine zb M_shift_s118 rfl ?_
                          refine z_ret M_shift_d120 rfl ?_
                          unfold opShift
                          first
                            | (rw [if_pos (fun z => (zB_eq0.mp h5) z.1)]; exact ⟨rfl, hS, onlyM.rf⟩)
                            | (rw [if_pos (fun z => (zB_eq0.mp h13) z.2)]; exact ⟨rfl, hS, onlyM.rf⟩)
                            | (rw [if_neg (fun z => z ⟨g1, g3⟩), es, ep]
                               rw [e48, es] at h24
                               first
                                 | (rw [if_pos (show hHeld S q = 0 ∨ hHeld S p' = 0 from Or.inl h24)]; exact ⟨rfl, hS, onlyM.rf⟩)
                                 | (rw [e48, ep] at h33
                                    first
                                      | (rw [if_pos (show hHeld S q = 0 ∨ hHeld S p' = 0 from Or.inr h33)]; exact ⟨rfl, hS, onlyM.rf⟩)
                                      | (rw [if_neg (show ¬ (hHeld S q = 0 ∨ hHeld S p' = 0) from fun z => z.elim h24 h33)]
                                         rw [e48, es] at h46
                                         first
                                           | (rw [if_pos (show hHeld S q = 1 ∨ hHeld S p' = 1 ∨ ¬ hSort S q = hSort S p' from Or.inl h46)]; exact ⟨rfl, hS, onlyM.rf⟩)
                                           | (rw [e48, ep] at h56
                                              first
                                                | (rw [if_pos (show hHeld S q = 1 ∨ hHeld S p' = 1 ∨ ¬ hSort S q = hSort S p' from Or.inr (Or.inl h56))]; exact ⟨rfl, hS, onlyM.rf⟩)
                                                | (rw [e49, es, ep] at h71
                                                   first
                                                     | (rw [if_pos (show hHeld S q = 1 ∨ hHeld S p' = 1 ∨ ¬ hSort S q = hSort S p' from Or.inr (Or.inr h71))]; exact ⟨rfl, hS, onlyM.rf⟩)
                                                     | (rw [if_neg (show ¬ (hHeld S q = 1 ∨ hHeld S p' = 1 ∨ ¬ hSort S q = hSort S p') from fun z => z.elim h46 (fun y => y.elim h56 (fun x => x h71))), if_pos (fun z => by
                                                          first
                                                            | exact absurd z.1 (Int32.not_le.mpr h79)
                                                            | exact absurd z.2.1 (Int32.not_le.mpr h83)
                                                            | exact absurd z.2.2.1 (Int32.not_le.mpr h88)
                                                            | (rw [e50, es] at h101; exact absurd z.2.2.2.1 (Int32.not_le.mpr h101))
                                                            | (rw [e50, ep] at h115; exact h115 z.2.2.2.2))]
                                                        exact ⟨rfl, hS, onlyM.rf⟩))))))
              · refine zb M_shift_s74 rfl ?_
                refine z_ret M_shift_d76 rfl ?_
                unfold opShift
                first
                  | (rw [if_pos (fun z => (zB_eq0.mp h5) z.1)]; exact ⟨rfl, hS, onlyM.rf⟩)
                  | (rw [if_pos (fun z => (zB_eq0.mp h13) z.2)]; exact ⟨rfl, hS, onlyM.rf⟩)
                  | (rw [if_neg (fun z => z ⟨g1, g3⟩), es, ep]
                     rw [e48, es] at h24
                     first
                       | (rw [if_pos (show hHeld S q = 0 ∨ hHeld S p' = 0 from Or.inl h24)]; exact ⟨rfl, hS, onlyM.rf⟩)
                       | (rw [e48, ep] at h33
                          first
                            | (rw [if_pos (show hHeld S q = 0 ∨ hHeld S p' = 0 from Or.inr h33)]; exact ⟨rfl, hS, onlyM.rf⟩)
                            | (rw [if_neg (show ¬ (hHeld S q = 0 ∨ hHeld S p' = 0) from fun z => z.elim h24 h33)]
                               rw [e48, es] at h46
                               first
                                 | (rw [if_pos (show hHeld S q = 1 ∨ hHeld S p' = 1 ∨ ¬ hSort S q = hSort S p' from Or.inl h46)]; exact ⟨rfl, hS, onlyM.rf⟩)
                                 | (rw [e48, ep] at h56
                                    first
                                      | (rw [if_pos (show hHeld S q = 1 ∨ hHeld S p' = 1 ∨ ¬ hSort S q = hSort S p' from Or.inr (Or.inl h56))]; exact ⟨rfl, hS, onlyM.rf⟩)
                                      | (rw [e49, es, ep] at h71
                                         first
                                           | (rw [if_pos (show hHeld S q = 1 ∨ hHeld S p' = 1 ∨ ¬ hSort S q = hSort S p' from Or.inr (Or.inr h71))]; exact ⟨rfl, hS, onlyM.rf⟩)
                                           | (rw [if_neg (show ¬ (hHeld S q = 1 ∨ hHeld S p' = 1 ∨ ¬ hSort S q = hSort S p') from fun z => z.elim h46 (fun y => y.elim h56 (fun x => x h71))), if_pos (fun z => by
                                                first
                                                  | exact absurd z.1 (Int32.not_le.mpr h79)
                                                  | exact absurd z.2.1 (Int32.not_le.mpr h83)
                                                  | exact absurd z.2.2.1 (Int32.not_le.mpr h88)
                                                  | (rw [e50, es] at h101; exact absurd z.2.2.2.1 (Int32.not_le.mpr h101))
                                                  | (rw [e50, ep] at h115; exact h115 z.2.2.2.2))]
                                              exact ⟨rfl, hS, onlyM.rf⟩))))))
        · refine zb M_shift_s36 rfl ?_
          refine z_ret M_shift_d38 rfl ?_
          unfold opShift
          first
            | (rw [if_pos (fun z => (zB_eq0.mp h5) z.1)]; exact ⟨rfl, hS, onlyM.rf⟩)
            | (rw [if_pos (fun z => (zB_eq0.mp h13) z.2)]; exact ⟨rfl, hS, onlyM.rf⟩)
            | (rw [if_neg (fun z => z ⟨g1, g3⟩), es, ep]
               rw [e48, es] at h24
               first
                 | (rw [if_pos (show hHeld S q = 0 ∨ hHeld S p' = 0 from Or.inl h24)]; exact ⟨rfl, hS, onlyM.rf⟩)
                 | (rw [e48, ep] at h33
                    first
                      | (rw [if_pos (show hHeld S q = 0 ∨ hHeld S p' = 0 from Or.inr h33)]; exact ⟨rfl, hS, onlyM.rf⟩)
                      | (rw [if_neg (show ¬ (hHeld S q = 0 ∨ hHeld S p' = 0) from fun z => z.elim h24 h33)]
                         rw [e48, es] at h46
                         first
                           | (rw [if_pos (show hHeld S q = 1 ∨ hHeld S p' = 1 ∨ ¬ hSort S q = hSort S p' from Or.inl h46)]; exact ⟨rfl, hS, onlyM.rf⟩)
                           | (rw [e48, ep] at h56
                              first
                                | (rw [if_pos (show hHeld S q = 1 ∨ hHeld S p' = 1 ∨ ¬ hSort S q = hSort S p' from Or.inr (Or.inl h56))]; exact ⟨rfl, hS, onlyM.rf⟩)
                                | (rw [e49, es, ep] at h71
                                   first
                                     | (rw [if_pos (show hHeld S q = 1 ∨ hHeld S p' = 1 ∨ ¬ hSort S q = hSort S p' from Or.inr (Or.inr h71))]; exact ⟨rfl, hS, onlyM.rf⟩)
                                     | (rw [if_neg (show ¬ (hHeld S q = 1 ∨ hHeld S p' = 1 ∨ ¬ hSort S q = hSort S p') from fun z => z.elim h46 (fun y => y.elim h56 (fun x => x h71))), if_pos (fun z => by
                                          first
                                            | exact absurd z.1 (Int32.not_le.mpr h79)
                                            | exact absurd z.2.1 (Int32.not_le.mpr h83)
                                            | exact absurd z.2.2.1 (Int32.not_le.mpr h88)
                                            | (rw [e50, es] at h101; exact absurd z.2.2.2.1 (Int32.not_le.mpr h101))
                                            | (rw [e50, ep] at h115; exact h115 z.2.2.2.2))]
                                        exact ⟨rfl, hS, onlyM.rf⟩))))))
    · refine zb M_shift_s16 rfl ?_
      refine z_ret M_shift_d17 rfl ?_
      unfold opShift
      first
        | (rw [if_pos (fun z => (zB_eq0.mp h5) z.1)]; exact ⟨rfl, hS, onlyM.rf⟩)
        | (rw [if_pos (fun z => (zB_eq0.mp h13) z.2)]; exact ⟨rfl, hS, onlyM.rf⟩)
        | (rw [if_neg (fun z => z ⟨g1, g3⟩), es, ep]
           rw [e48, es] at h24
           first
             | (rw [if_pos (show hHeld S q = 0 ∨ hHeld S p' = 0 from Or.inl h24)]; exact ⟨rfl, hS, onlyM.rf⟩)
             | (rw [e48, ep] at h33
                first
                  | (rw [if_pos (show hHeld S q = 0 ∨ hHeld S p' = 0 from Or.inr h33)]; exact ⟨rfl, hS, onlyM.rf⟩)
                  | (rw [if_neg (show ¬ (hHeld S q = 0 ∨ hHeld S p' = 0) from fun z => z.elim h24 h33)]
                     rw [e48, es] at h46
                     first
                       | (rw [if_pos (show hHeld S q = 1 ∨ hHeld S p' = 1 ∨ ¬ hSort S q = hSort S p' from Or.inl h46)]; exact ⟨rfl, hS, onlyM.rf⟩)
                       | (rw [e48, ep] at h56
                          first
                            | (rw [if_pos (show hHeld S q = 1 ∨ hHeld S p' = 1 ∨ ¬ hSort S q = hSort S p' from Or.inr (Or.inl h56))]; exact ⟨rfl, hS, onlyM.rf⟩)
                            | (rw [e49, es, ep] at h71
                               first
                                 | (rw [if_pos (show hHeld S q = 1 ∨ hHeld S p' = 1 ∨ ¬ hSort S q = hSort S p' from Or.inr (Or.inr h71))]; exact ⟨rfl, hS, onlyM.rf⟩)
                                 | (rw [if_neg (show ¬ (hHeld S q = 1 ∨ hHeld S p' = 1 ∨ ¬ hSort S q = hSort S p') from fun z => z.elim h46 (fun y => y.elim h56 (fun x => x h71))), if_pos (fun z => by
                                      first
                                        | exact absurd z.1 (Int32.not_le.mpr h79)
                                        | exact absurd z.2.1 (Int32.not_le.mpr h83)
                                        | exact absurd z.2.2.1 (Int32.not_le.mpr h88)
                                        | (rw [e50, es] at h101; exact absurd z.2.2.2.1 (Int32.not_le.mpr h101))
                                        | (rw [e50, ep] at h115; exact h115 z.2.2.2.2))]
                                    exact ⟨rfl, hS, onlyM.rf⟩))))))

set_option maxRecDepth 100000 in
set_option maxHeartbeats 4000000 in
theorem w_M_taken {g : zG} {d : Nat} {μ : zMem} {s k is : Int32} (hd : 1 ≤ d) : ∀ (f K : Nat), K < 8 → rkN K + 1 < f → zW g M_taken d 61 [some (.ref 0), some (.int s), some (.int k), some (.int is), some (.int (nI K))] [] μ (fun r μ' => r = some (.int (if unF f (nI K) k = true then is else -12)) ∧ μ' = μ) := by
  intro f
  induction f with
  | zero => intro K _ h; exact absurd h (Nat.not_lt_zero _)
  | succ f ih =>
    intro K hk hr
    have hpos : ¬ nI K < 0 := nI_pos (by omega)
    have e : unF (f + 1) (nI K) k = if nI K = k then true else unF f (aboI (nI K)) k := if_neg hpos
    rw [e]
    refine zb M_taken_s61 rfl ?_
    refine z_lt M_taken_d63 (tgt := 85) rfl (fun h63 => absurd h63 hpos) (fun h63 => ?_)
    refine zb M_taken_s66 rfl ?_
    refine z_cne M_taken_d69 (tgt := 74) rfl (fun h69 => ?_) (fun h69 => ?_)
    · refine zb M_taken_s74 rfl ?_
      refine zcallV M_taken_d77 k11_364 (by omega) (o_above hk) rfl rfl rfl (Nat.le_of_ble_eq_true rfl) ?_
      rintro _ μx ⟨rfl, hx⟩
      rw [hx]
      clear hx μx
      refine zb M_taken_s80 rfl ?_
      rw [if_neg h69]
      rcases Nat.eq_zero_or_pos K with z | z
      · subst z
        have e2 : unF f (aboI (nI 0)) k = false := by
          obtain ⟨f', rfl⟩ : ∃ f', f = f' + 1 := ⟨f - 1, by omega⟩
          rfl
        rw [e2]
        refine zb M_taken_s61 rfl ?_
        refine z_lt M_taken_d63 (tgt := 85) rfl (fun h => ?_) (fun h => absurd (by decide) h)
        refine zb M_taken_s85 rfl ?_
        refine z_ret M_taken_d87 rfl ?_
        exact ⟨rfl, rfl⟩
      · have h1 := rkN_lt hk z
        rw [aboI_N hk z]
        exact ih (aboN K) h1.2 (by omega)
    · refine zb M_taken_s72 rfl ?_
      refine z_ret M_taken_d73 rfl ?_
      exact ⟨by rw [if_pos h69]; rfl, rfl⟩

set_option maxRecDepth 100000 in
set_option maxHeartbeats 4000000 in
theorem s_M_taken {g : zG} {d : Nat} {S : zS} {μ : zMem} {s k : Int32} (hd : 1 ≤ d) (hS : mS S μ) (hok : okH S) (hokA : okA S) : zM g d M_taken [.ref 0, .int s, .int k] μ (pO mS onlyM ((opTaken S s k, S)) μ) := by
  refine zM_of (by decide +kernel) rfl rfl (Nat.le_of_ble_eq_true rfl) rfl ?_
  obtain ⟨ho, h2, hT, hC, hD, hI, hA, hH⟩ := hS
  have hS : mS S μ := ⟨ho, h2, hT, hC, hD, hI, hA, hH⟩
  have hb := ho.b
  have hv := ho.v
  have h6 := ho.b6
  have h12 := ho.v12
  have hz : zq sM μ μ := zq.rf
  replace hA : mA (zA_ S) μ := hA
  have e7 : μ.1 0 7 = nI (zA_ S).1.1 := hA.1
  have h50 : (zA_ S).1.1 ≤ 50 := hA.2.1
  have e46 : μ.1 46 = (zA_ S).1.2 := hA.2.2.1
  replace hH : mH (zH S) μ := hH
  have e48 : μ.1 48 = hHeld S := hH.1
  have e49 : μ.1 49 = hSort S := hH.2.1
  have e50 : μ.1 50 = hSize S := hH.2.2.1
  have e51 : μ.1 51 = hShown S := hH.2.2.2.1
  refine zb M_taken_s0 rfl ?_
  refine zcallV M_taken_d2 k11_124 (by omega) (o_isShelf _) rfl rfl rfl (Nat.le_of_ble_eq_true rfl) ?_
  rintro _ μx ⟨rfl, hx⟩
  rw [hx]
  clear hx μx
  refine z_eq M_taken_d5 (tgt := 19) rfl (fun h5 => ?_) (fun h5 => ?_)
  · refine zb M_taken_s19 rfl ?_
    refine z_ret M_taken_d20 rfl ?_
    refine ⟨?_, hS, onlyM.rf⟩
    unfold opTaken
    first
      | rw [if_pos (fun z => (zB_eq0.mp h5) z.1)]
      | rw [if_pos (fun z => (zB_eq0.mp h16) z.2)]
      | (rw [e48, es] at h27
         rw [if_neg (fun z => z ⟨g1, zB_ne0.mp h16⟩), es]
         first
           | rw [if_pos h27]
           | (rw [e48, es] at h40
              rw [if_neg h27, if_pos h40]))
  · refine zb M_taken_s8 rfl ?_
    refine zcallV M_taken_d13 k11_112 (by omega) (c_M_isIn _ _ _) rfl rfl rfl (Nat.le_of_ble_eq_true rfl) ?_
    rintro _ μx ⟨rfl, hx⟩
    rw [hx]
    clear hx μx
    refine z_ne M_taken_d16 (tgt := 21) rfl (fun h16 => ?_) (fun h16 => ?_)
    · have g1 := zB_ne0.mp h5
      obtain ⟨q, hs6, rfl, es⟩ := zix (n := 6) g1.1 g1.2 (by omega)
      have hvs : vp_in (nI q) 6 := vp_in_nI (by omega) (by omega)
      refine zb1 M_taken_s21 rfl (by first | exact hvs | exact hvb) ?_
      refine z_ne M_taken_d27 (tgt := 33) rfl (fun h27 => ?_) (fun h27 => ?_)
      · refine zb1 M_taken_s33 rfl (by first | exact hvs | exact hvb) ?_
        refine z_cne M_taken_d40 (tgt := 46) rfl (fun h40 => ?_) (fun h40 => ?_)
        · rw [e48, es] at h27 h40
          obtain ⟨hh, b, hb', eb⟩ : hHeld S q = 1 ∧ ∃ b, b < (zA_ S).1.1 ∧ hShown S q = nI b := by
            rcases hok q hs6 with w | w | w
            · exact absurd w h27
            · exact w
            · exact absurd w.1 h40
          obtain ⟨K, hK8, eK⟩ := hokA b hb'
          have hvb : vp_in (μ.1 51 (nI q).toNatClampNeg) 50 := by rw [e51, es, eb]; exact vp_in_nI (by omega) (by omega)
          refine zb2 M_taken_s46 rfl (by first | exact hvs | exact hvb) (by first | exact hvs | exact hvb) ?_
          rw [e51, es, eb, nI_clamp (by omega), e46, eK]
          refine (w_M_taken hd 5 K hK8 (by have := rk4 hK8; omega)).mono (fun v μ' hq => ⟨?_, ?_⟩)
          · have e : opTaken S (nI q) k = if unF 5 (nI K) k = true then nI K else -12 := by
              unfold opTaken
              rw [if_neg (fun z => z ⟨g1, zB_ne0.mp h16⟩), es, if_neg h27, if_neg h40, eb, nI_clamp (by omega), eK]
            show v = some (Value.int (opTaken S (nI q) k))
            rw [e]
            exact hq.1
          · rw [hq.2]
            exact ⟨hS, onlyM.rf⟩
        · refine zb M_taken_s43 rfl ?_
          refine z_ret M_taken_d45 rfl ?_
          refine ⟨?_, hS, onlyM.rf⟩
          unfold opTaken
          first
            | rw [if_pos (fun z => (zB_eq0.mp h5) z.1)]
            | rw [if_pos (fun z => (zB_eq0.mp h16) z.2)]
            | (rw [e48, es] at h27
               rw [if_neg (fun z => z ⟨g1, zB_ne0.mp h16⟩), es]
               first
                 | rw [if_pos h27]
                 | (rw [e48, es] at h40
                    rw [if_neg h27, if_pos h40]))
      · refine zb M_taken_s30 rfl ?_
        refine z_ret M_taken_d32 rfl ?_
        refine ⟨?_, hS, onlyM.rf⟩
        unfold opTaken
        first
          | rw [if_pos (fun z => (zB_eq0.mp h5) z.1)]
          | rw [if_pos (fun z => (zB_eq0.mp h16) z.2)]
          | (rw [e48, es] at h27
             rw [if_neg (fun z => z ⟨g1, zB_ne0.mp h16⟩), es]
             first
               | rw [if_pos h27]
               | (rw [e48, es] at h40
                  rw [if_neg h27, if_pos h40]))
    · refine zb M_taken_s19 rfl ?_
      refine z_ret M_taken_d20 rfl ?_
      refine ⟨?_, hS, onlyM.rf⟩
      unfold opTaken
      first
        | rw [if_pos (fun z => (zB_eq0.mp h5) z.1)]
        | rw [if_pos (fun z => (zB_eq0.mp h16) z.2)]
        | (rw [e48, es] at h27
           rw [if_neg (fun z => z ⟨g1, zB_ne0.mp h16⟩), es]
           first
             | rw [if_pos h27]
             | (rw [e48, es] at h40
                rw [if_neg h27, if_pos h40]))
