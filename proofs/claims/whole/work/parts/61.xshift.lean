/-! the class: shelves shifted -/
theorem xshE {S : zS} {μ : zMem} {s : Nat} (hS : xS S μ) (hok : okH S) (hs : s < 6) : bE (13 + s) μ ↔ hHeld S s = 0 := by
  rcases xsh hS hok hs with ⟨a, b, -⟩ | ⟨a, b, -⟩ | ⟨a, b, -⟩
  · exact ⟨fun _ => a, fun _ => b⟩
  · exact ⟨fun z => absurd z b, fun z => by rw [a] at z; exact absurd z (by decide)⟩
  · exact ⟨fun z => absurd z b, fun z => by rw [a] at z; exact absurd z (by decide)⟩
theorem xshR {S : zS} {μ : zMem} {s : Nat} (hS : xS S μ) (hok : okH S) (hs : s < 6) : bR (13 + s) μ ↔ hHeld S s = 2 := by
  rcases xsh hS hok hs with ⟨a, -, b⟩ | ⟨a, -, b, -⟩ | ⟨a, -, b, -⟩
  · exact ⟨fun z => absurd z b, fun z => by rw [a] at z; exact absurd z (by decide)⟩
  · exact ⟨fun z => absurd z b, fun z => by rw [a] at z; exact absurd z (by decide)⟩
  · exact ⟨fun _ => a, fun _ => b⟩
theorem xsh1 {S : zS} {s : Nat} (hok : okH S) (hs : s < 6) (h0 : ¬ hHeld S s = 0) (h2 : ¬ hHeld S s = 2) : hHeld S s = 1 := by
  rcases hok s hs with z | z | z
  · exact absurd z h0
  · exact z.1
  · exact absurd z.1 h2
theorem xsh2 {S : zS} {μ : zMem} {s : Nat} (hS : xS S μ) (hok : okH S) (hs : s < 6) (h : hHeld S s = 2) : μ.1 (13 + s) 2 = hSort S s ∧ μ.1 (13 + s) 3 = hSize S s ∧ ∃ m, m ≤ 60 ∧ hSize S s = nI m := by
  rcases xsh hS hok hs with z | z | z
  · rw [h] at z; exact absurd z.1 (by decide)
  · rw [h] at z; exact absurd z.1 (by decide)
  · exact ⟨z.2.2.2.1, z.2.2.2.2, (hok.two hs h).2.1⟩
theorem bPn {i n : Int32} {m c : Nat} {μ : zMem} (hm : m ≤ 60) (e : μ.1 c 3 = nI m) : bP c i n μ ↔ (0 ≤ i ∧ 0 ≤ n ∧ i ≤ nI m - n) := by
  unfold bP
  rw [e]
  constructor
  · rintro ⟨h0, h1, h2, h3⟩
    obtain ⟨k, hk, rfl⟩ := nI_of (Int32.not_lt.mpr h0)
    obtain ⟨N, hN, rfl⟩ := nI_of (Int32.not_lt.mpr h1)
    have a := (le_sub hN hm hk).mp h3
    exact ⟨h0, h1, (le_sub hk hm hN).mpr (by omega)⟩
  · rintro ⟨h0, h1, h2⟩
    obtain ⟨k, hk, rfl⟩ := nI_of (Int32.not_lt.mpr h0)
    obtain ⟨N, hN, rfl⟩ := nI_of (Int32.not_lt.mpr h1)
    have a := (le_sub hk hm hN).mp h2
    exact ⟨h0, h1, (nI_leI hk (by omega)).mpr (by omega), (le_sub hN hm hk).mpr (by omega)⟩
theorem opSh_a {S : zS} {s p : Nat} {i j n : Int32} (hs : s < 6) (hp : p < 6) (h : hHeld S s = 0 ∨ hHeld S p = 0) : opShift S (nI s) i (nI p) j n = (-11, S) := by
  have es : (nI s).toNatClampNeg = s := nI_clamp (by omega)
  have ep : (nI p).toNatClampNeg = p := nI_clamp (by omega)
  unfold opShift
  rw [if_neg (fun z => z (And.intro (And.intro (Int32.not_lt.mp (nI_pos (by omega))) (nI_lt (b := 6) hs (by omega))) (And.intro (Int32.not_lt.mp (nI_pos (by omega))) (nI_lt (b := 6) hp (by omega))))), es, ep, if_pos h]
theorem opSh_b {S : zS} {s p : Nat} {i j n : Int32} (hs : s < 6) (hp : p < 6) (h0 : ¬ hHeld S s = 0) (h0' : ¬ hHeld S p = 0) (h : hHeld S s = 1 ∨ hHeld S p = 1 ∨ ¬ hSort S s = hSort S p) : opShift S (nI s) i (nI p) j n = (-12, S) := by
  have es : (nI s).toNatClampNeg = s := nI_clamp (by omega)
  have ep : (nI p).toNatClampNeg = p := nI_clamp (by omega)
  unfold opShift
  rw [if_neg (fun z => z (And.intro (And.intro (Int32.not_lt.mp (nI_pos (by omega))) (nI_lt (b := 6) hs (by omega))) (And.intro (Int32.not_lt.mp (nI_pos (by omega))) (nI_lt (b := 6) hp (by omega))))), es, ep, if_neg (show ¬ (hHeld S s = 0 ∨ hHeld S p = 0) from fun z => z.elim h0 h0'), if_pos h]
theorem opSh_c {S : zS} {s p : Nat} {i j n : Int32} (hs : s < 6) (hp : p < 6) (h0 : hHeld S s = 2) (h0' : hHeld S p = 2) (h1 : hSort S s = hSort S p) (h : ¬ (0 ≤ n ∧ 0 ≤ i ∧ 0 ≤ j ∧ i ≤ hSize S s - n ∧ j ≤ hSize S p - n)) : opShift S (nI s) i (nI p) j n = (-13, S) := by
  have es : (nI s).toNatClampNeg = s := nI_clamp (by omega)
  have ep : (nI p).toNatClampNeg = p := nI_clamp (by omega)
  unfold opShift
  rw [if_neg (fun z => z (And.intro (And.intro (Int32.not_lt.mp (nI_pos (by omega))) (nI_lt (b := 6) hs (by omega))) (And.intro (Int32.not_lt.mp (nI_pos (by omega))) (nI_lt (b := 6) hp (by omega))))), es, ep, h0, h0', if_neg (by decide), h1, if_neg (show ¬ ((2 : Int32) = 1 ∨ (2 : Int32) = 1 ∨ ¬ hSort S p = hSort S p) from fun z => by
    rcases z with z | z | z
    · exact absurd z (by decide)
    · exact absurd z (by decide)
    · exact z rfl), if_pos h]
theorem opSh_d {S : zS} {s p : Nat} {i j n : Int32} (hs : s < 6) (hp : p < 6) (h0 : hHeld S s = 2) (h0' : hHeld S p = 2) (h1 : hSort S s = hSort S p) (h : 0 ≤ n ∧ 0 ≤ i ∧ 0 ≤ j ∧ i ≤ hSize S s - n ∧ j ≤ hSize S p - n) : opShift S (nI s) i (nI p) j n = (n, sH S (hHeld S, hSort S, hSize S, hShown S, shC S s i.toNatClampNeg p j.toNatClampNeg n.toNatClampNeg)) := by
  have es : (nI s).toNatClampNeg = s := nI_clamp (by omega)
  have ep : (nI p).toNatClampNeg = p := nI_clamp (by omega)
  unfold opShift
  rw [if_neg (fun z => z (And.intro (And.intro (Int32.not_lt.mp (nI_pos (by omega))) (nI_lt (b := 6) hs (by omega))) (And.intro (Int32.not_lt.mp (nI_pos (by omega))) (nI_lt (b := 6) hp (by omega))))), es, ep, h0, h0', if_neg (by decide), h1, if_neg (show ¬ ((2 : Int32) = 1 ∨ (2 : Int32) = 1 ∨ ¬ hSort S p = hSort S p) from fun z => by
    rcases z with z | z | z
    · exact absurd z (by decide)
    · exact absurd z (by decide)
    · exact z rfl), if_neg (fun z => z h)]
theorem zpAL_ne {μ : zMem} {c c' : Nat} {r : Nat → Int64} (h : ¬ c' = c) : (zpAL μ c r).2.1 c' = μ.2.1 c' := by simp [zpAL, zuAL, h]
theorem zpAL_row {μ : zMem} {c : Nat} {r : Nat → Int64} : (zpAL μ c r).2.1 c = r := by simp [zpAL, zuAL]
theorem fin_shift {S : zS} {μ : zMem} {s p a b N : Nat} (hS : xS S μ) (hs : s < 6) (hp : p < 6) (ha : a + N ≤ 60) : xS (sH S (hHeld S, hSort S, hSize S, hShown S, shC S s a p b N)) (zpAL μ (19 + p) (va_cpy (μ.2.1 (19 + s)) (μ.2.1 (19 + p)) a b N)) ∧ onlyX μ (zpAL μ (19 + p) (va_cpy (μ.2.1 (19 + s)) (μ.2.1 (19 + p)) a b N)) := by
  have hH : xH (zH S) μ := hS.2.2.2.2.2.2.2
  refine hS.sh hp (fun c hc => rfl) rfl (fun c hc => zpAL_ne hc) (fun s' hs' hne q => ?_) ?_
  · unfold xH1 at q ⊢
    refine ⟨q.1, fun i hi => ?_⟩
    show _ = shC S s a p b N s' i
    unfold shC
    rw [if_neg (fun z => hne z.1)]
    exact q.2 i hi
  · have q := hH.one hp
    have q2 := hH.one hs
    unfold xH1 at q q2 ⊢
    refine ⟨q.1, fun i hi => ?_⟩
    show _ = shC S s a p b N p i
    rw [zpAL_row]
    unfold shC va_cpy
    by_cases y : b ≤ i ∧ i < b + N
    · rw [if_pos y, if_pos ⟨rfl, y.1, y.2⟩]
      exact q2.2 _ (by omega)
    · rw [if_neg y, if_neg (fun z => y z.2)]
      exact q.2 i hi

set_option maxRecDepth 100000 in
set_option maxHeartbeats 4000000 in
theorem x_shelf_in {g : zG} {d : Nat} {i : Int32} {μ : zMem} (hd : 1 ≤ d) (hi : 0 ≤ i ∧ i ≤ 5) : zM g d X_shelfAt [.ref 1, .int i] μ (fun r μ' => r = some (.ref (13 + i.toNatClampNeg)) ∧ μ' = μ) := by
  refine zM_of (by decide +kernel) rfl rfl (Nat.le_of_ble_eq_true rfl) rfl ?_
  obtain ⟨q, hq, rfl, -⟩ := zix (n := 6) hi.1 (by have := hi.2; show i < 6; grind) (by omega)
  refine zb X_shelfAt_s0 rfl ?_
  refine zcallS X_shelfAt_d2 k10_170 (by omega) (x_isWithin _ _) rfl rfl (Nat.le_of_ble_eq_true rfl) ?_
  rintro _ μx ⟨rfl, hx⟩
  rw [hx]
  clear hx μx
  refine z_eq X_shelfAt_d5 (tgt := 17) rfl (fun h5 => absurd h5 (by rw [zB_t hi]; decide)) (fun h5 => ?_)
  refine zb1 X_shelfAt_s8 rfl (vp_in_nI (by omega) (by omega)) ?_
  refine z_retA X_shelfAt_d18 rfl (by first | exact Or.inl ⟨_, rfl⟩ | exact Or.inr ⟨_, rfl⟩) ?_
  exact ⟨rfl, rfl⟩

set_option maxRecDepth 100000 in
set_option maxHeartbeats 4000000 in
theorem xs_shift_0_0 {g : zG} {d : Nat} {S : zS} {μ : zMem} {i j n : Int32} (hd : 2 ≤ d) (hS : xS S μ) (hok : okH S) : zM g d X_shift [.ref 1, .int (nI 0), .int i, .int (nI 0), .int j, .int n] μ (pO xS onlyX (opShift S (nI 0) i (nI 0) j n) μ) := by
  refine zM_of (by decide +kernel) rfl rfl (Nat.le_of_ble_eq_true rfl) rfl ?_
  obtain ⟨ho, h2, hT, hC, hD, hI, hA, hH⟩ := hS
  have hS : xS S μ := ⟨ho, h2, hT, hC, hD, hI, hA, hH⟩
  have hb := ho.b
  have hv := ho.v
  have hB6 := ho.b6
  have hV12 := ho.v12
  have hz : zq sX μ μ := zq.rf
  have E1 := xshE (s := 0) hS hok (by omega)
  have E2 := xshE (s := 0) hS hok (by omega)
  have R1 := xshR (s := 0) hS hok (by omega)
  have R2 := xshR (s := 0) hS hok (by omega)
  refine zb X_shift_s0 rfl ?_
  refine zcallV X_shift_d2 k10_93 (by omega) (x_shelf_0 (by omega)) rfl rfl rfl (Nat.le_of_ble_eq_true rfl) ?_
  rintro _ μx ⟨rfl, hx⟩
  rw [hx]
  clear hx μx
  refine zb X_shift_s5 rfl ?_
  refine zcallV X_shift_d9 k10_93 (by omega) (x_shelf_0 (by omega)) rfl rfl rfl (Nat.le_of_ble_eq_true rfl) ?_
  rintro _ μx ⟨rfl, hx⟩
  rw [hx]
  clear hx μx
  refine zb X_shift_s12 rfl ?_
  refine z_null X_shift_d16 ?_
  refine zb X_shift_s19 rfl ?_
  refine z_nonnull X_shift_d21 (tgt := 26) rfl ?_
  refine zb X_shift_s26 rfl ?_
  refine zcallV X_shift_d28 k10_97 (by omega) (x_isEmpty_0) rfl rfl rfl (Nat.le_of_ble_eq_true rfl) ?_
  rintro _ μx ⟨rfl, hx⟩
  rw [hx]
  clear hx μx
  refine z_ne X_shift_d31 (tgt := 42) rfl (fun h31 => ?_) (fun h31 => ?_)
  · refine zb X_shift_s42 rfl ?_
    refine z_ret X_shift_d44 rfl ?_
    first
      | (have f := fin_shift (s := 0) (p := 0) (a := x) (b := y) (N := N) hS (by omega) (by omega) (by omega)
         rw [cN, cx, cy]
         exact ⟨rfl, f.1, f.2⟩)
      | (have q : ¬ bP 13 j n μ := zB_eq0.mp h89
         rw [opSh_c (by omega) (by omega) f1 f2 hsrt (fun z => q (P2.mpr (And.intro z.2.2.1 (And.intro z.1 (by rw [← ew]; exact z.2.2.2.2)))))]
         exact ⟨rfl, hS, onlyX.rf⟩)
      | (have q : ¬ bP 13 i n μ := zB_eq0.mp h77
         rw [opSh_c (by omega) (by omega) f1 f2 hsrt (fun z => q (P1.mpr (And.intro z.2.1 (And.intro z.1 (by rw [← em]; exact z.2.2.2.1)))))]
         exact ⟨rfl, hS, onlyX.rf⟩)
      | (have q := zB_eq0.mp h63
         have f1 : hHeld S 0 = 2 := R1.mp (zB_ne0.mp h50)
         have n2 : ¬ hHeld S 0 = 0 := fun z => (show ¬ bE 13 μ from zB_eq0.mp h39) (E2.mpr z)
         rw [opSh_b (by omega) (by omega) (by rw [f1]; decide) n2 (by
           by_cases z : hHeld S 0 = 2
           · refine Or.inr (Or.inr (fun y => q (And.intro (R2.mpr z) ?_)))
             exact (show μ.1 13 2 = _ from (xsh2 hS hok (show 0 < 6 by omega) z).1).trans (y.symm.trans (show μ.1 13 2 = _ from (xsh2 hS hok (show 0 < 6 by omega) f1).1).symm)
           · exact Or.inr (Or.inl (xsh1 hok (by omega) n2 z)))]
         exact ⟨rfl, hS, onlyX.rf⟩)
      | (have q : ¬ bR 13 μ := zB_eq0.mp h50
         have n1 : ¬ hHeld S 0 = 0 := fun z => (show ¬ bE 13 μ from zB_eq0.mp h31) (E1.mpr z)
         have n2 : ¬ hHeld S 0 = 0 := fun z => (show ¬ bE 13 μ from zB_eq0.mp h39) (E2.mpr z)
         rw [opSh_b (by omega) (by omega) n1 n2 (Or.inl (xsh1 hok (by omega) n1 (fun z => q (R1.mpr z))))]
         exact ⟨rfl, hS, onlyX.rf⟩)
      | (have q : bE 13 μ := zB_ne0.mp h39
         rw [opSh_a (by omega) (by omega) (Or.inr (E2.mp q))]
         exact ⟨rfl, hS, onlyX.rf⟩)
      | (have q : bE 13 μ := zB_ne0.mp h31
         rw [opSh_a (by omega) (by omega) (Or.inl (E1.mp q))]
         exact ⟨rfl, hS, onlyX.rf⟩)
  · refine zb X_shift_s34 rfl ?_
    refine zcallV X_shift_d36 k10_97 (by omega) (x_isEmpty_0) rfl rfl rfl (Nat.le_of_ble_eq_true rfl) ?_
    rintro _ μx ⟨rfl, hx⟩
    rw [hx]
    clear hx μx
    refine z_eq X_shift_d39 (tgt := 45) rfl (fun h39 => ?_) (fun h39 => ?_)
    · refine zb X_shift_s45 rfl ?_
      refine zcallV X_shift_d47 k10_357 (by omega) (x_isRow_0) rfl rfl rfl (Nat.le_of_ble_eq_true rfl) ?_
      rintro _ μx ⟨rfl, hx⟩
      rw [hx]
      clear hx μx
      refine z_eq X_shift_d50 (tgt := 66) rfl (fun h50 => ?_) (fun h50 => ?_)
      · refine zb X_shift_s66 rfl ?_
        refine z_ret X_shift_d68 rfl ?_
        first
          | (have f := fin_shift (s := 0) (p := 0) (a := x) (b := y) (N := N) hS (by omega) (by omega) (by omega)
             rw [cN, cx, cy]
             exact ⟨rfl, f.1, f.2⟩)
          | (have q : ¬ bP 13 j n μ := zB_eq0.mp h89
             rw [opSh_c (by omega) (by omega) f1 f2 hsrt (fun z => q (P2.mpr (And.intro z.2.2.1 (And.intro z.1 (by rw [← ew]; exact z.2.2.2.2)))))]
             exact ⟨rfl, hS, onlyX.rf⟩)
          | (have q : ¬ bP 13 i n μ := zB_eq0.mp h77
             rw [opSh_c (by omega) (by omega) f1 f2 hsrt (fun z => q (P1.mpr (And.intro z.2.1 (And.intro z.1 (by rw [← em]; exact z.2.2.2.1)))))]
             exact ⟨rfl, hS, onlyX.rf⟩)
          | (have q := zB_eq0.mp h63
             have f1 : hHeld S 0 = 2 := R1.mp (zB_ne0.mp h50)
             have n2 : ¬ hHeld S 0 = 0 := fun z => (show ¬ bE 13 μ from zB_eq0.mp h39) (E2.mpr z)
             rw [opSh_b (by omega) (by omega) (by rw [f1]; decide) n2 (by
               by_cases z : hHeld S 0 = 2
               · refine Or.inr (Or.inr (fun y => q (And.intro (R2.mpr z) ?_)))
                 exact (show μ.1 13 2 = _ from (xsh2 hS hok (show 0 < 6 by omega) z).1).trans (y.symm.trans (show μ.1 13 2 = _ from (xsh2 hS hok (show 0 < 6 by omega) f1).1).symm)
               · exact Or.inr (Or.inl (xsh1 hok (by omega) n2 z)))]
             exact ⟨rfl, hS, onlyX.rf⟩)
          | (have q : ¬ bR 13 μ := zB_eq0.mp h50
             have n1 : ¬ hHeld S 0 = 0 := fun z => (show ¬ bE 13 μ from zB_eq0.mp h31) (E1.mpr z)
             have n2 : ¬ hHeld S 0 = 0 := fun z => (show ¬ bE 13 μ from zB_eq0.mp h39) (E2.mpr z)
             rw [opSh_b (by omega) (by omega) n1 n2 (Or.inl (xsh1 hok (by omega) n1 (fun z => q (R1.mpr z))))]
             exact ⟨rfl, hS, onlyX.rf⟩)
          | (have q : bE 13 μ := zB_ne0.mp h39
             rw [opSh_a (by omega) (by omega) (Or.inr (E2.mp q))]
             exact ⟨rfl, hS, onlyX.rf⟩)
          | (have q : bE 13 μ := zB_ne0.mp h31
             rw [opSh_a (by omega) (by omega) (Or.inl (E1.mp q))]
             exact ⟨rfl, hS, onlyX.rf⟩)
      · refine zb X_shift_s53 rfl ?_
        refine zcallV X_shift_d60 k10_101 (by omega) (x_isRowOf_0 _ (by omega)) rfl rfl rfl (Nat.le_of_ble_eq_true rfl) ?_
        rintro _ μx ⟨rfl, hx⟩
        rw [hx]
        clear hx μx
        refine z_ne X_shift_d63 (tgt := 69) rfl (fun h63 => ?_) (fun h63 => ?_)
        · have f1 : hHeld S 0 = 2 := R1.mp (zB_ne0.mp h50)
          have f2 : hHeld S 0 = 2 := R2.mp (zB_ne0.mp h63).1
          obtain ⟨a1, a2, m, hm, em⟩ := xsh2 hS hok (show 0 < 6 by omega) f1
          obtain ⟨b1, b2, w, hw, ew⟩ := xsh2 hS hok (show 0 < 6 by omega) f2
          have hsrt : hSort S 0 = hSort S 0 := a1.symm.trans ((zB_ne0.mp h63).2.symm.trans b1)
          have P1 := bPn (i := i) (n := n) hm (a2.trans em)
          have P2 := bPn (i := j) (n := n) hw (b2.trans ew)
          refine zb X_shift_s69 rfl ?_
          refine zcallV X_shift_d74 k10_363 (by omega) (x_hasPlaces_0 _ _) rfl rfl rfl (Nat.le_of_ble_eq_true rfl) ?_
          rintro _ μx ⟨rfl, hx⟩
          rw [hx]
          clear hx μx
          refine z_eq X_shift_d77 (tgt := 92) rfl (fun h77 => ?_) (fun h77 => ?_)
          · refine zb X_shift_s92 rfl ?_
            refine z_ret X_shift_d94 rfl ?_
            first
              | (have f := fin_shift (s := 0) (p := 0) (a := x) (b := y) (N := N) hS (by omega) (by omega) (by omega)
                 rw [cN, cx, cy]
                 exact ⟨rfl, f.1, f.2⟩)
              | (have q : ¬ bP 13 j n μ := zB_eq0.mp h89
                 rw [opSh_c (by omega) (by omega) f1 f2 hsrt (fun z => q (P2.mpr (And.intro z.2.2.1 (And.intro z.1 (by rw [← ew]; exact z.2.2.2.2)))))]
                 exact ⟨rfl, hS, onlyX.rf⟩)
              | (have q : ¬ bP 13 i n μ := zB_eq0.mp h77
                 rw [opSh_c (by omega) (by omega) f1 f2 hsrt (fun z => q (P1.mpr (And.intro z.2.1 (And.intro z.1 (by rw [← em]; exact z.2.2.2.1)))))]
                 exact ⟨rfl, hS, onlyX.rf⟩)
              | (have q := zB_eq0.mp h63
                 have f1 : hHeld S 0 = 2 := R1.mp (zB_ne0.mp h50)
                 have n2 : ¬ hHeld S 0 = 0 := fun z => (show ¬ bE 13 μ from zB_eq0.mp h39) (E2.mpr z)
                 rw [opSh_b (by omega) (by omega) (by rw [f1]; decide) n2 (by
                   by_cases z : hHeld S 0 = 2
                   · refine Or.inr (Or.inr (fun y => q (And.intro (R2.mpr z) ?_)))
                     exact (show μ.1 13 2 = _ from (xsh2 hS hok (show 0 < 6 by omega) z).1).trans (y.symm.trans (show μ.1 13 2 = _ from (xsh2 hS hok (show 0 < 6 by omega) f1).1).symm)
                   · exact Or.inr (Or.inl (xsh1 hok (by omega) n2 z)))]
                 exact ⟨rfl, hS, onlyX.rf⟩)
              | (have q : ¬ bR 13 μ := zB_eq0.mp h50
                 have n1 : ¬ hHeld S 0 = 0 := fun z => (show ¬ bE 13 μ from zB_eq0.mp h31) (E1.mpr z)
                 have n2 : ¬ hHeld S 0 = 0 := fun z => (show ¬ bE 13 μ from zB_eq0.mp h39) (E2.mpr z)
                 rw [opSh_b (by omega) (by omega) n1 n2 (Or.inl (xsh1 hok (by omega) n1 (fun z => q (R1.mpr z))))]
                 exact ⟨rfl, hS, onlyX.rf⟩)
              | (have q : bE 13 μ := zB_ne0.mp h39
                 rw [opSh_a (by omega) (by omega) (Or.inr (E2.mp q))]
                 exact ⟨rfl, hS, onlyX.rf⟩)
              | (have q : bE 13 μ := zB_ne0.mp h31
                 rw [opSh_a (by omega) (by omega) (Or.inl (E1.mp q))]
                 exact ⟨rfl, hS, onlyX.rf⟩)
          · refine zb X_shift_s80 rfl ?_
            refine zcallV X_shift_d86 k10_363 (by omega) (x_hasPlaces_0 _ _) rfl rfl rfl (Nat.le_of_ble_eq_true rfl) ?_
            rintro _ μx ⟨rfl, hx⟩
            rw [hx]
            clear hx μx
            refine z_ne X_shift_d89 (tgt := 95) rfl (fun h89 => ?_) (fun h89 => ?_)
            · have g1 := P1.mp (zB_ne0.mp h77)
              have g2 := P2.mp (zB_ne0.mp h89)
              have hall : 0 ≤ n ∧ 0 ≤ i ∧ 0 ≤ j ∧ i ≤ hSize S 0 - n ∧ j ≤ hSize S 0 - n := by
                exact ⟨g1.2.1, g1.1, g2.1, by rw [em]; exact g1.2.2, by rw [ew]; exact g2.2.2⟩
              rw [opSh_d (by omega) (by omega) f1 f2 hsrt hall]
              clear hall
              obtain ⟨N, hN, rfl⟩ := nI_of (Int32.not_lt.mpr g1.2.1)
              obtain ⟨x, hx, rfl⟩ := nI_of (Int32.not_lt.mpr g1.1)
              obtain ⟨y, hy, rfl⟩ := nI_of (Int32.not_lt.mpr g2.1)
              have k1 := (le_sub hx hm hN).mp g1.2.2
              have k2 := (le_sub hy hw hN).mp g2.2.2
              have cN : (nI N).toNatClampNeg = N := nI_clamp hN
              have cx : (nI x).toNatClampNeg = x := nI_clamp hx
              have cy : (nI y).toNatClampNeg = y := nI_clamp hy
              refine zb X_shift_s95 rfl ?_
              refine zcpL X_shift_d110 k10_366 (by omega) (Nat.le_of_ble_eq_true rfl) rfl rfl (nI_pos (by omega)) (nI_pos (by omega)) (nI_pos (by omega)) (by rw [cN, cx]; omega) (by rw [cN, cy]; omega) ?_
              refine zb X_shift_s113 rfl ?_
              refine z_ret X_shift_d115 rfl ?_
              first
                | (have f := fin_shift (s := 0) (p := 0) (a := x) (b := y) (N := N) hS (by omega) (by omega) (by omega)
                   rw [cN, cx, cy]
                   exact ⟨rfl, f.1, f.2⟩)
                | (have q : ¬ bP 13 j n μ := zB_eq0.mp h89
                   rw [opSh_c (by omega) (by omega) f1 f2 hsrt (fun z => q (P2.mpr (And.intro z.2.2.1 (And.intro z.1 (by rw [← ew]; exact z.2.2.2.2)))))]
                   exact ⟨rfl, hS, onlyX.rf⟩)
                | (have q : ¬ bP 13 i n μ := zB_eq0.mp h77
                   rw [opSh_c (by omega) (by omega) f1 f2 hsrt (fun z => q (P1.mpr (And.intro z.2.1 (And.intro z.1 (by rw [← em]; exact z.2.2.2.1)))))]
                   exact ⟨rfl, hS, onlyX.rf⟩)
                | (have q := zB_eq0.mp h63
                   have f1 : hHeld S 0 = 2 := R1.mp (zB_ne0.mp h50)
                   have n2 : ¬ hHeld S 0 = 0 := fun z => (show ¬ bE 13 μ from zB_eq0.mp h39) (E2.mpr z)
                   rw [opSh_b (by omega) (by omega) (by rw [f1]; decide) n2 (by
                     by_cases z : hHeld S 0 = 2
                     · refine Or.inr (Or.inr (fun y => q (And.intro (R2.mpr z) ?_)))
                       exact (show μ.1 13 2 = _ from (xsh2 hS hok (show 0 < 6 by omega) z).1).trans (y.symm.trans (show μ.1 13 2 = _ from (xsh2 hS hok (show 0 < 6 by omega) f1).1).symm)
                     · exact Or.inr (Or.inl (xsh1 hok (by omega) n2 z)))]
                   exact ⟨rfl, hS, onlyX.rf⟩)
                | (have q : ¬ bR 13 μ := zB_eq0.mp h50
                   have n1 : ¬ hHeld S 0 = 0 := fun z => (show ¬ bE 13 μ from zB_eq0.mp h31) (E1.mpr z)
                   have n2 : ¬ hHeld S 0 = 0 := fun z => (show ¬ bE 13 μ from zB_eq0.mp h39) (E2.mpr z)
                   rw [opSh_b (by omega) (by omega) n1 n2 (Or.inl (xsh1 hok (by omega) n1 (fun z => q (R1.mpr z))))]
                   exact ⟨rfl, hS, onlyX.rf⟩)
                | (have q : bE 13 μ := zB_ne0.mp h39
                   rw [opSh_a (by omega) (by omega) (Or.inr (E2.mp q))]
                   exact ⟨rfl, hS, onlyX.rf⟩)
                | (have q : bE 13 μ := zB_ne0.mp h31
                   rw [opSh_a (by omega) (by omega) (Or.inl (E1.mp q))]
                   exact ⟨rfl, hS, onlyX.rf⟩)
            · refine zb X_shift_s92 rfl ?_
              refine z_ret X_shift_d94 rfl ?_
              first
                | (have f := fin_shift (s := 0) (p := 0) (a := x) (b := y) (N := N) hS (by omega) (by omega) (by omega)
                   rw [cN, cx, cy]
                   exact ⟨rfl, f.1, f.2⟩)
                | (have q : ¬ bP 13 j n μ := zB_eq0.mp h89
                   rw [opSh_c (by omega) (by omega) f1 f2 hsrt (fun z => q (P2.mpr (And.intro z.2.2.1 (And.intro z.1 (by rw [← ew]; exact z.2.2.2.2)))))]
                   exact ⟨rfl, hS, onlyX.rf⟩)
                | (have q : ¬ bP 13 i n μ := zB_eq0.mp h77
                   rw [opSh_c (by omega) (by omega) f1 f2 hsrt (fun z => q (P1.mpr (And.intro z.2.1 (And.intro z.1 (by rw [← em]; exact z.2.2.2.1)))))]
                   exact ⟨rfl, hS, onlyX.rf⟩)
                | (have q := zB_eq0.mp h63
                   have f1 : hHeld S 0 = 2 := R1.mp (zB_ne0.mp h50)
                   have n2 : ¬ hHeld S 0 = 0 := fun z => (show ¬ bE 13 μ from zB_eq0.mp h39) (E2.mpr z)
                   rw [opSh_b (by omega) (by omega) (by rw [f1]; decide) n2 (by
                     by_cases z : hHeld S 0 = 2
                     · refine Or.inr (Or.inr (fun y => q (And.intro (R2.mpr z) ?_)))
                       exact (show μ.1 13 2 = _ from (xsh2 hS hok (show 0 < 6 by omega) z).1).trans (y.symm.trans (show μ.1 13 2 = _ from (xsh2 hS hok (show 0 < 6 by omega) f1).1).symm)
                     · exact Or.inr (Or.inl (xsh1 hok (by omega) n2 z)))]
                   exact ⟨rfl, hS, onlyX.rf⟩)
                | (have q : ¬ bR 13 μ := zB_eq0.mp h50
                   have n1 : ¬ hHeld S 0 = 0 := fun z => (show ¬ bE 13 μ from zB_eq0.mp h31) (E1.mpr z)
                   have n2 : ¬ hHeld S 0 = 0 := fun z => (show ¬ bE 13 μ from zB_eq0.mp h39) (E2.mpr z)
                   rw [opSh_b (by omega) (by omega) n1 n2 (Or.inl (xsh1 hok (by omega) n1 (fun z => q (R1.mpr z))))]
                   exact ⟨rfl, hS, onlyX.rf⟩)
                | (have q : bE 13 μ := zB_ne0.mp h39
                   rw [opSh_a (by omega) (by omega) (Or.inr (E2.mp q))]
                   exact ⟨rfl, hS, onlyX.rf⟩)
                | (have q : bE 13 μ := zB_ne0.mp h31
                   rw [opSh_a (by omega) (by omega) (Or.inl (E1.mp q))]
                   exact ⟨rfl, hS, onlyX.rf⟩)
        · refine zb X_shift_s66 rfl ?_
          refine z_ret X_shift_d68 rfl ?_
          first
            | (have f := fin_shift (s := 0) (p := 0) (a := x) (b := y) (N := N) hS (by omega) (by omega) (by omega)
               rw [cN, cx, cy]
               exact ⟨rfl, f.1, f.2⟩)
            | (have q : ¬ bP 13 j n μ := zB_eq0.mp h89
               rw [opSh_c (by omega) (by omega) f1 f2 hsrt (fun z => q (P2.mpr (And.intro z.2.2.1 (And.intro z.1 (by rw [← ew]; exact z.2.2.2.2)))))]
               exact ⟨rfl, hS, onlyX.rf⟩)
            | (have q : ¬ bP 13 i n μ := zB_eq0.mp h77
               rw [opSh_c (by omega) (by omega) f1 f2 hsrt (fun z => q (P1.mpr (And.intro z.2.1 (And.intro z.1 (by rw [← em]; exact z.2.2.2.1)))))]
               exact ⟨rfl, hS, onlyX.rf⟩)
            | (have q := zB_eq0.mp h63
               have f1 : hHeld S 0 = 2 := R1.mp (zB_ne0.mp h50)
               have n2 : ¬ hHeld S 0 = 0 := fun z => (show ¬ bE 13 μ from zB_eq0.mp h39) (E2.mpr z)
               rw [opSh_b (by omega) (by omega) (by rw [f1]; decide) n2 (by
                 by_cases z : hHeld S 0 = 2
                 · refine Or.inr (Or.inr (fun y => q (And.intro (R2.mpr z) ?_)))
                   exact (show μ.1 13 2 = _ from (xsh2 hS hok (show 0 < 6 by omega) z).1).trans (y.symm.trans (show μ.1 13 2 = _ from (xsh2 hS hok (show 0 < 6 by omega) f1).1).symm)
                 · exact Or.inr (Or.inl (xsh1 hok (by omega) n2 z)))]
               exact ⟨rfl, hS, onlyX.rf⟩)
            | (have q : ¬ bR 13 μ := zB_eq0.mp h50
               have n1 : ¬ hHeld S 0 = 0 := fun z => (show ¬ bE 13 μ from zB_eq0.mp h31) (E1.mpr z)
               have n2 : ¬ hHeld S 0 = 0 := fun z => (show ¬ bE 13 μ from zB_eq0.mp h39) (E2.mpr z)
               rw [opSh_b (by omega) (by omega) n1 n2 (Or.inl (xsh1 hok (by omega) n1 (fun z => q (R1.mpr z))))]
               exact ⟨rfl, hS, onlyX.rf⟩)
            | (have q : bE 13 μ := zB_ne0.mp h39
               rw [opSh_a (by omega) (by omega) (Or.inr (E2.mp q))]
               exact ⟨rfl, hS, onlyX.rf⟩)
            | (have q : bE 13 μ := zB_ne0.mp h31
               rw [opSh_a (by omega) (by omega) (Or.inl (E1.mp q))]
               exact ⟨rfl, hS, onlyX.rf⟩)
    · refine zb X_shift_s42 rfl ?_
      refine z_ret X_shift_d44 rfl ?_
      first
        | (have f := fin_shift (s := 0) (p := 0) (a := x) (b := y) (N := N) hS (by omega) (by omega) (by omega)
           rw [cN, cx, cy]
           exact ⟨rfl, f.1, f.2⟩)
        | (have q : ¬ bP 13 j n μ := zB_eq0.mp h89
           rw [opSh_c (by omega) (by omega) f1 f2 hsrt (fun z => q (P2.mpr (And.intro z.2.2.1 (And.intro z.1 (by rw [← ew]; exact z.2.2.2.2)))))]
           exact ⟨rfl, hS, onlyX.rf⟩)
        | (have q : ¬ bP 13 i n μ := zB_eq0.mp h77
           rw [opSh_c (by omega) (by omega) f1 f2 hsrt (fun z => q (P1.mpr (And.intro z.2.1 (And.intro z.1 (by rw [← em]; exact z.2.2.2.1)))))]
           exact ⟨rfl, hS, onlyX.rf⟩)
        | (have q := zB_eq0.mp h63
           have f1 : hHeld S 0 = 2 := R1.mp (zB_ne0.mp h50)
           have n2 : ¬ hHeld S 0 = 0 := fun z => (show ¬ bE 13 μ from zB_eq0.mp h39) (E2.mpr z)
           rw [opSh_b (by omega) (by omega) (by rw [f1]; decide) n2 (by
             by_cases z : hHeld S 0 = 2
             · refine Or.inr (Or.inr (fun y => q (And.intro (R2.mpr z) ?_)))
               exact (show μ.1 13 2 = _ from (xsh2 hS hok (show 0 < 6 by omega) z).1).trans (y.symm.trans (show μ.1 13 2 = _ from (xsh2 hS hok (show 0 < 6 by omega) f1).1).symm)
             · exact Or.inr (Or.inl (xsh1 hok (by omega) n2 z)))]
           exact ⟨rfl, hS, onlyX.rf⟩)
        | (have q : ¬ bR 13 μ := zB_eq0.mp h50
           have n1 : ¬ hHeld S 0 = 0 := fun z => (show ¬ bE 13 μ from zB_eq0.mp h31) (E1.mpr z)
           have n2 : ¬ hHeld S 0 = 0 := fun z => (show ¬ bE 13 μ from zB_eq0.mp h39) (E2.mpr z)
           rw [opSh_b (by omega) (by omega) n1 n2 (Or.inl (xsh1 hok (by omega) n1 (fun z => q (R1.mpr z))))]
           exact ⟨rfl, hS, onlyX.rf⟩)
        | (have q : bE 13 μ := zB_ne0.mp h39
           rw [opSh_a (by omega) (by omega) (Or.inr (E2.mp q))]
           exact ⟨rfl, hS, onlyX.rf⟩)
        | (have q : bE 13 μ := zB_ne0.mp h31
           rw [opSh_a (by omega) (by omega) (Or.inl (E1.mp q))]
           exact ⟨rfl, hS, onlyX.rf⟩)

set_option maxRecDepth 100000 in
set_option maxHeartbeats 4000000 in
theorem xs_shift_0_1 {g : zG} {d : Nat} {S : zS} {μ : zMem} {i j n : Int32} (hd : 2 ≤ d) (hS : xS S μ) (hok : okH S) : zM g d X_shift [.ref 1, .int (nI 0), .int i, .int (nI 1), .int j, .int n] μ (pO xS onlyX (opShift S (nI 0) i (nI 1) j n) μ) := by
  refine zM_of (by decide +kernel) rfl rfl (Nat.le_of_ble_eq_true rfl) rfl ?_
  obtain ⟨ho, h2, hT, hC, hD, hI, hA, hH⟩ := hS
  have hS : xS S μ := ⟨ho, h2, hT, hC, hD, hI, hA, hH⟩
  have hb := ho.b
  have hv := ho.v
  have hB6 := ho.b6
  have hV12 := ho.v12
  have hz : zq sX μ μ := zq.rf
  have E1 := xshE (s := 0) hS hok (by omega)
  have E2 := xshE (s := 1) hS hok (by omega)
  have R1 := xshR (s := 0) hS hok (by omega)
  have R2 := xshR (s := 1) hS hok (by omega)
  refine zb X_shift_s0 rfl ?_
  refine zcallV X_shift_d2 k10_93 (by omega) (x_shelf_0 (by omega)) rfl rfl rfl (Nat.le_of_ble_eq_true rfl) ?_
  rintro _ μx ⟨rfl, hx⟩
  rw [hx]
  clear hx μx
  refine zb X_shift_s5 rfl ?_
  refine zcallV X_shift_d9 k10_93 (by omega) (x_shelf_1 (by omega)) rfl rfl rfl (Nat.le_of_ble_eq_true rfl) ?_
  rintro _ μx ⟨rfl, hx⟩
  rw [hx]
  clear hx μx
  refine zb X_shift_s12 rfl ?_
  refine z_null X_shift_d16 ?_
  refine zb X_shift_s19 rfl ?_
  refine z_nonnull X_shift_d21 (tgt := 26) rfl ?_
  refine zb X_shift_s26 rfl ?_
  refine zcallV X_shift_d28 k10_97 (by omega) (x_isEmpty_0) rfl rfl rfl (Nat.le_of_ble_eq_true rfl) ?_
  rintro _ μx ⟨rfl, hx⟩
  rw [hx]
  clear hx μx
  refine z_ne X_shift_d31 (tgt := 42) rfl (fun h31 => ?_) (fun h31 => ?_)
  · refine zb X_shift_s42 rfl ?_
    refine z_ret X_shift_d44 rfl ?_
    first
      | (have f := fin_shift (s := 0) (p := 1) (a := x) (b := y) (N := N) hS (by omega) (by omega) (by omega)
         rw [cN, cx, cy]
         exact ⟨rfl, f.1, f.2⟩)
      | (have q : ¬ bP 14 j n μ := zB_eq0.mp h89
         rw [opSh_c (by omega) (by omega) f1 f2 hsrt (fun z => q (P2.mpr (And.intro z.2.2.1 (And.intro z.1 (by rw [← ew]; exact z.2.2.2.2)))))]
         exact ⟨rfl, hS, onlyX.rf⟩)
      | (have q : ¬ bP 13 i n μ := zB_eq0.mp h77
         rw [opSh_c (by omega) (by omega) f1 f2 hsrt (fun z => q (P1.mpr (And.intro z.2.1 (And.intro z.1 (by rw [← em]; exact z.2.2.2.1)))))]
         exact ⟨rfl, hS, onlyX.rf⟩)
      | (have q := zB_eq0.mp h63
         have f1 : hHeld S 0 = 2 := R1.mp (zB_ne0.mp h50)
         have n2 : ¬ hHeld S 1 = 0 := fun z => (show ¬ bE 14 μ from zB_eq0.mp h39) (E2.mpr z)
         rw [opSh_b (by omega) (by omega) (by rw [f1]; decide) n2 (by
           by_cases z : hHeld S 1 = 2
           · refine Or.inr (Or.inr (fun y => q (And.intro (R2.mpr z) ?_)))
             exact (show μ.1 14 2 = _ from (xsh2 hS hok (show 1 < 6 by omega) z).1).trans (y.symm.trans (show μ.1 13 2 = _ from (xsh2 hS hok (show 0 < 6 by omega) f1).1).symm)
           · exact Or.inr (Or.inl (xsh1 hok (by omega) n2 z)))]
         exact ⟨rfl, hS, onlyX.rf⟩)
      | (have q : ¬ bR 13 μ := zB_eq0.mp h50
         have n1 : ¬ hHeld S 0 = 0 := fun z => (show ¬ bE 13 μ from zB_eq0.mp h31) (E1.mpr z)
         have n2 : ¬ hHeld S 1 = 0 := fun z => (show ¬ bE 14 μ from zB_eq0.mp h39) (E2.mpr z)
         rw [opSh_b (by omega) (by omega) n1 n2 (Or.inl (xsh1 hok (by omega) n1 (fun z => q (R1.mpr z))))]
         exact ⟨rfl, hS, onlyX.rf⟩)
      | (have q : bE 14 μ := zB_ne0.mp h39
         rw [opSh_a (by omega) (by omega) (Or.inr (E2.mp q))]
         exact ⟨rfl, hS, onlyX.rf⟩)
      | (have q : bE 13 μ := zB_ne0.mp h31
         rw [opSh_a (by omega) (by omega) (Or.inl (E1.mp q))]
         exact ⟨rfl, hS, onlyX.rf⟩)
  · refine zb X_shift_s34 rfl ?_
    refine zcallV X_shift_d36 k10_97 (by omega) (x_isEmpty_1) rfl rfl rfl (Nat.le_of_ble_eq_true rfl) ?_
    rintro _ μx ⟨rfl, hx⟩
    rw [hx]
    clear hx μx
    refine z_eq X_shift_d39 (tgt := 45) rfl (fun h39 => ?_) (fun h39 => ?_)
    · refine zb X_shift_s45 rfl ?_
      refine zcallV X_shift_d47 k10_357 (by omega) (x_isRow_0) rfl rfl rfl (Nat.le_of_ble_eq_true rfl) ?_
      rintro _ μx ⟨rfl, hx⟩
      rw [hx]
      clear hx μx
      refine z_eq X_shift_d50 (tgt := 66) rfl (fun h50 => ?_) (fun h50 => ?_)
      · refine zb X_shift_s66 rfl ?_
        refine z_ret X_shift_d68 rfl ?_
        first
          | (have f := fin_shift (s := 0) (p := 1) (a := x) (b := y) (N := N) hS (by omega) (by omega) (by omega)
             rw [cN, cx, cy]
             exact ⟨rfl, f.1, f.2⟩)
          | (have q : ¬ bP 14 j n μ := zB_eq0.mp h89
             rw [opSh_c (by omega) (by omega) f1 f2 hsrt (fun z => q (P2.mpr (And.intro z.2.2.1 (And.intro z.1 (by rw [← ew]; exact z.2.2.2.2)))))]
             exact ⟨rfl, hS, onlyX.rf⟩)
          | (have q : ¬ bP 13 i n μ := zB_eq0.mp h77
             rw [opSh_c (by omega) (by omega) f1 f2 hsrt (fun z => q (P1.mpr (And.intro z.2.1 (And.intro z.1 (by rw [← em]; exact z.2.2.2.1)))))]
             exact ⟨rfl, hS, onlyX.rf⟩)
          | (have q := zB_eq0.mp h63
             have f1 : hHeld S 0 = 2 := R1.mp (zB_ne0.mp h50)
             have n2 : ¬ hHeld S 1 = 0 := fun z => (show ¬ bE 14 μ from zB_eq0.mp h39) (E2.mpr z)
             rw [opSh_b (by omega) (by omega) (by rw [f1]; decide) n2 (by
               by_cases z : hHeld S 1 = 2
               · refine Or.inr (Or.inr (fun y => q (And.intro (R2.mpr z) ?_)))
                 exact (show μ.1 14 2 = _ from (xsh2 hS hok (show 1 < 6 by omega) z).1).trans (y.symm.trans (show μ.1 13 2 = _ from (xsh2 hS hok (show 0 < 6 by omega) f1).1).symm)
               · exact Or.inr (Or.inl (xsh1 hok (by omega) n2 z)))]
             exact ⟨rfl, hS, onlyX.rf⟩)
          | (have q : ¬ bR 13 μ := zB_eq0.mp h50
             have n1 : ¬ hHeld S 0 = 0 := fun z => (show ¬ bE 13 μ from zB_eq0.mp h31) (E1.mpr z)
             have n2 : ¬ hHeld S 1 = 0 := fun z => (show ¬ bE 14 μ from zB_eq0.mp h39) (E2.mpr z)
             rw [opSh_b (by omega) (by omega) n1 n2 (Or.inl (xsh1 hok (by omega) n1 (fun z => q (R1.mpr z))))]
             exact ⟨rfl, hS, onlyX.rf⟩)
          | (have q : bE 14 μ := zB_ne0.mp h39
             rw [opSh_a (by omega) (by omega) (Or.inr (E2.mp q))]
             exact ⟨rfl, hS, onlyX.rf⟩)
          | (have q : bE 13 μ := zB_ne0.mp h31
             rw [opSh_a (by omega) (by omega) (Or.inl (E1.mp q))]
             exact ⟨rfl, hS, onlyX.rf⟩)
      · refine zb X_shift_s53 rfl ?_
        refine zcallV X_shift_d60 k10_101 (by omega) (x_isRowOf_1 _ (by omega)) rfl rfl rfl (Nat.le_of_ble_eq_true rfl) ?_
        rintro _ μx ⟨rfl, hx⟩
        rw [hx]
        clear hx μx
        refine z_ne X_shift_d63 (tgt := 69) rfl (fun h63 => ?_) (fun h63 => ?_)
        · have f1 : hHeld S 0 = 2 := R1.mp (zB_ne0.mp h50)
          have f2 : hHeld S 1 = 2 := R2.mp (zB_ne0.mp h63).1
          obtain ⟨a1, a2, m, hm, em⟩ := xsh2 hS hok (show 0 < 6 by omega) f1
          obtain ⟨b1, b2, w, hw, ew⟩ := xsh2 hS hok (show 1 < 6 by omega) f2
          have hsrt : hSort S 0 = hSort S 1 := a1.symm.trans ((zB_ne0.mp h63).2.symm.trans b1)
          have P1 := bPn (i := i) (n := n) hm (a2.trans em)
          have P2 := bPn (i := j) (n := n) hw (b2.trans ew)
          refine zb X_shift_s69 rfl ?_
          refine zcallV X_shift_d74 k10_363 (by omega) (x_hasPlaces_0 _ _) rfl rfl rfl (Nat.le_of_ble_eq_true rfl) ?_
          rintro _ μx ⟨rfl, hx⟩
          rw [hx]
          clear hx μx
          refine z_eq X_shift_d77 (tgt := 92) rfl (fun h77 => ?_) (fun h77 => ?_)
          · refine zb X_shift_s92 rfl ?_
            refine z_ret X_shift_d94 rfl ?_
            first
              | (have f := fin_shift (s := 0) (p := 1) (a := x) (b := y) (N := N) hS (by omega) (by omega) (by omega)
                 rw [cN, cx, cy]
                 exact ⟨rfl, f.1, f.2⟩)
              | (have q : ¬ bP 14 j n μ := zB_eq0.mp h89
                 rw [opSh_c (by omega) (by omega) f1 f2 hsrt (fun z => q (P2.mpr (And.intro z.2.2.1 (And.intro z.1 (by rw [← ew]; exact z.2.2.2.2)))))]
                 exact ⟨rfl, hS, onlyX.rf⟩)
              | (have q : ¬ bP 13 i n μ := zB_eq0.mp h77
                 rw [opSh_c (by omega) (by omega) f1 f2 hsrt (fun z => q (P1.mpr (And.intro z.2.1 (And.intro z.1 (by rw [← em]; exact z.2.2.2.1)))))]
                 exact ⟨rfl, hS, onlyX.rf⟩)
              | (have q := zB_eq0.mp h63
                 have f1 : hHeld S 0 = 2 := R1.mp (zB_ne0.mp h50)
                 have n2 : ¬ hHeld S 1 = 0 := fun z => (show ¬ bE 14 μ from zB_eq0.mp h39) (E2.mpr z)
                 rw [opSh_b (by omega) (by omega) (by rw [f1]; decide) n2 (by
                   by_cases z : hHeld S 1 = 2
                   · refine Or.inr (Or.inr (fun y => q (And.intro (R2.mpr z) ?_)))
                     exact (show μ.1 14 2 = _ from (xsh2 hS hok (show 1 < 6 by omega) z).1).trans (y.symm.trans (show μ.1 13 2 = _ from (xsh2 hS hok (show 0 < 6 by omega) f1).1).symm)
                   · exact Or.inr (Or.inl (xsh1 hok (by omega) n2 z)))]
                 exact ⟨rfl, hS, onlyX.rf⟩)
              | (have q : ¬ bR 13 μ := zB_eq0.mp h50
                 have n1 : ¬ hHeld S 0 = 0 := fun z => (show ¬ bE 13 μ from zB_eq0.mp h31) (E1.mpr z)
                 have n2 : ¬ hHeld S 1 = 0 := fun z => (show ¬ bE 14 μ from zB_eq0.mp h39) (E2.mpr z)
                 rw [opSh_b (by omega) (by omega) n1 n2 (Or.inl (xsh1 hok (by omega) n1 (fun z => q (R1.mpr z))))]
                 exact ⟨rfl, hS, onlyX.rf⟩)
              | (have q : bE 14 μ := zB_ne0.mp h39
                 rw [opSh_a (by omega) (by omega) (Or.inr (E2.mp q))]
                 exact ⟨rfl, hS, onlyX.rf⟩)
              | (have q : bE 13 μ := zB_ne0.mp h31
                 rw [opSh_a (by omega) (by omega) (Or.inl (E1.mp q))]
                 exact ⟨rfl, hS, onlyX.rf⟩)
          · refine zb X_shift_s80 rfl ?_
            refine zcallV X_shift_d86 k10_363 (by omega) (x_hasPlaces_1 _ _) rfl rfl rfl (Nat.le_of_ble_eq_true rfl) ?_
            rintro _ μx ⟨rfl, hx⟩
            rw [hx]
            clear hx μx
            refine z_ne X_shift_d89 (tgt := 95) rfl (fun h89 => ?_) (fun h89 => ?_)
            · have g1 := P1.mp (zB_ne0.mp h77)
              have g2 := P2.mp (zB_ne0.mp h89)
              have hall : 0 ≤ n ∧ 0 ≤ i ∧ 0 ≤ j ∧ i ≤ hSize S 0 - n ∧ j ≤ hSize S 1 - n := by
                exact ⟨g1.2.1, g1.1, g2.1, by rw [em]; exact g1.2.2, by rw [ew]; exact g2.2.2⟩
              rw [opSh_d (by omega) (by omega) f1 f2 hsrt hall]
              clear hall
              obtain ⟨N, hN, rfl⟩ := nI_of (Int32.not_lt.mpr g1.2.1)
              obtain ⟨x, hx, rfl⟩ := nI_of (Int32.not_lt.mpr g1.1)
              obtain ⟨y, hy, rfl⟩ := nI_of (Int32.not_lt.mpr g2.1)
              have k1 := (le_sub hx hm hN).mp g1.2.2
              have k2 := (le_sub hy hw hN).mp g2.2.2
              have cN : (nI N).toNatClampNeg = N := nI_clamp hN
              have cx : (nI x).toNatClampNeg = x := nI_clamp hx
              have cy : (nI y).toNatClampNeg = y := nI_clamp hy
              refine zb X_shift_s95 rfl ?_
              refine zcpL X_shift_d110 k10_366 (by omega) (Nat.le_of_ble_eq_true rfl) rfl rfl (nI_pos (by omega)) (nI_pos (by omega)) (nI_pos (by omega)) (by rw [cN, cx]; omega) (by rw [cN, cy]; omega) ?_
              refine zb X_shift_s113 rfl ?_
              refine z_ret X_shift_d115 rfl ?_
              first
                | (have f := fin_shift (s := 0) (p := 1) (a := x) (b := y) (N := N) hS (by omega) (by omega) (by omega)
                   rw [cN, cx, cy]
                   exact ⟨rfl, f.1, f.2⟩)
                | (have q : ¬ bP 14 j n μ := zB_eq0.mp h89
                   rw [opSh_c (by omega) (by omega) f1 f2 hsrt (fun z => q (P2.mpr (And.intro z.2.2.1 (And.intro z.1 (by rw [← ew]; exact z.2.2.2.2)))))]
                   exact ⟨rfl, hS, onlyX.rf⟩)
                | (have q : ¬ bP 13 i n μ := zB_eq0.mp h77
                   rw [opSh_c (by omega) (by omega) f1 f2 hsrt (fun z => q (P1.mpr (And.intro z.2.1 (And.intro z.1 (by rw [← em]; exact z.2.2.2.1)))))]
                   exact ⟨rfl, hS, onlyX.rf⟩)
                | (have q := zB_eq0.mp h63
                   have f1 : hHeld S 0 = 2 := R1.mp (zB_ne0.mp h50)
                   have n2 : ¬ hHeld S 1 = 0 := fun z => (show ¬ bE 14 μ from zB_eq0.mp h39) (E2.mpr z)
                   rw [opSh_b (by omega) (by omega) (by rw [f1]; decide) n2 (by
                     by_cases z : hHeld S 1 = 2
                     · refine Or.inr (Or.inr (fun y => q (And.intro (R2.mpr z) ?_)))
                       exact (show μ.1 14 2 = _ from (xsh2 hS hok (show 1 < 6 by omega) z).1).trans (y.symm.trans (show μ.1 13 2 = _ from (xsh2 hS hok (show 0 < 6 by omega) f1).1).symm)
                     · exact Or.inr (Or.inl (xsh1 hok (by omega) n2 z)))]
                   exact ⟨rfl, hS, onlyX.rf⟩)
                | (have q : ¬ bR 13 μ := zB_eq0.mp h50
                   have n1 : ¬ hHeld S 0 = 0 := fun z => (show ¬ bE 13 μ from zB_eq0.mp h31) (E1.mpr z)
                   have n2 : ¬ hHeld S 1 = 0 := fun z => (show ¬ bE 14 μ from zB_eq0.mp h39) (E2.mpr z)
                   rw [opSh_b (by omega) (by omega) n1 n2 (Or.inl (xsh1 hok (by omega) n1 (fun z => q (R1.mpr z))))]
                   exact ⟨rfl, hS, onlyX.rf⟩)
                | (have q : bE 14 μ := zB_ne0.mp h39
                   rw [opSh_a (by omega) (by omega) (Or.inr (E2.mp q))]
                   exact ⟨rfl, hS, onlyX.rf⟩)
                | (have q : bE 13 μ := zB_ne0.mp h31
                   rw [opSh_a (by omega) (by omega) (Or.inl (E1.mp q))]
                   exact ⟨rfl, hS, onlyX.rf⟩)
            · refine zb X_shift_s92 rfl ?_
              refine z_ret X_shift_d94 rfl ?_
              first
                | (have f := fin_shift (s := 0) (p := 1) (a := x) (b := y) (N := N) hS (by omega) (by omega) (by omega)
                   rw [cN, cx, cy]
                   exact ⟨rfl, f.1, f.2⟩)
                | (have q : ¬ bP 14 j n μ := zB_eq0.mp h89
                   rw [opSh_c (by omega) (by omega) f1 f2 hsrt (fun z => q (P2.mpr (And.intro z.2.2.1 (And.intro z.1 (by rw [← ew]; exact z.2.2.2.2)))))]
                   exact ⟨rfl, hS, onlyX.rf⟩)
                | (have q : ¬ bP 13 i n μ := zB_eq0.mp h77
                   rw [opSh_c (by omega) (by omega) f1 f2 hsrt (fun z => q (P1.mpr (And.intro z.2.1 (And.intro z.1 (by rw [← em]; exact z.2.2.2.1)))))]
                   exact ⟨rfl, hS, onlyX.rf⟩)
                | (have q := zB_eq0.mp h63
                   have f1 : hHeld S 0 = 2 := R1.mp (zB_ne0.mp h50)
                   have n2 : ¬ hHeld S 1 = 0 := fun z => (show ¬ bE 14 μ from zB_eq0.mp h39) (E2.mpr z)
                   rw [opSh_b (by omega) (by omega) (by rw [f1]; decide) n2 (by
                     by_cases z : hHeld S 1 = 2
                     · refine Or.inr (Or.inr (fun y => q (And.intro (R2.mpr z) ?_)))
                       exact (show μ.1 14 2 = _ from (xsh2 hS hok (show 1 < 6 by omega) z).1).trans (y.symm.trans (show μ.1 13 2 = _ from (xsh2 hS hok (show 0 < 6 by omega) f1).1).symm)
                     · exact Or.inr (Or.inl (xsh1 hok (by omega) n2 z)))]
                   exact ⟨rfl, hS, onlyX.rf⟩)
                | (have q : ¬ bR 13 μ := zB_eq0.mp h50
                   have n1 : ¬ hHeld S 0 = 0 := fun z => (show ¬ bE 13 μ from zB_eq0.mp h31) (E1.mpr z)
                   have n2 : ¬ hHeld S 1 = 0 := fun z => (show ¬ bE 14 μ from zB_eq0.mp h39) (E2.mpr z)
                   rw [opSh_b (by omega) (by omega) n1 n2 (Or.inl (xsh1 hok (by omega) n1 (fun z => q (R1.mpr z))))]
                   exact ⟨rfl, hS, onlyX.rf⟩)
                | (have q : bE 14 μ := zB_ne0.mp h39
                   rw [opSh_a (by omega) (by omega) (Or.inr (E2.mp q))]
                   exact ⟨rfl, hS, onlyX.rf⟩)
                | (have q : bE 13 μ := zB_ne0.mp h31
                   rw [opSh_a (by omega) (by omega) (Or.inl (E1.mp q))]
                   exact ⟨rfl, hS, onlyX.rf⟩)
        · refine zb X_shift_s66 rfl ?_
          refine z_ret X_shift_d68 rfl ?_
          first
            | (have f := fin_shift (s := 0) (p := 1) (a := x) (b := y) (N := N) hS (by omega) (by omega) (by omega)
               rw [cN, cx, cy]
               exact ⟨rfl, f.1, f.2⟩)
            | (have q : ¬ bP 14 j n μ := zB_eq0.mp h89
               rw [opSh_c (by omega) (by omega) f1 f2 hsrt (fun z => q (P2.mpr (And.intro z.2.2.1 (And.intro z.1 (by rw [← ew]; exact z.2.2.2.2)))))]
               exact ⟨rfl, hS, onlyX.rf⟩)
            | (have q : ¬ bP 13 i n μ := zB_eq0.mp h77
               rw [opSh_c (by omega) (by omega) f1 f2 hsrt (fun z => q (P1.mpr (And.intro z.2.1 (And.intro z.1 (by rw [← em]; exact z.2.2.2.1)))))]
               exact ⟨rfl, hS, onlyX.rf⟩)
            | (have q := zB_eq0.mp h63
               have f1 : hHeld S 0 = 2 := R1.mp (zB_ne0.mp h50)
               have n2 : ¬ hHeld S 1 = 0 := fun z => (show ¬ bE 14 μ from zB_eq0.mp h39) (E2.mpr z)
               rw [opSh_b (by omega) (by omega) (by rw [f1]; decide) n2 (by
                 by_cases z : hHeld S 1 = 2
                 · refine Or.inr (Or.inr (fun y => q (And.intro (R2.mpr z) ?_)))
                   exact (show μ.1 14 2 = _ from (xsh2 hS hok (show 1 < 6 by omega) z).1).trans (y.symm.trans (show μ.1 13 2 = _ from (xsh2 hS hok (show 0 < 6 by omega) f1).1).symm)
                 · exact Or.inr (Or.inl (xsh1 hok (by omega) n2 z)))]
               exact ⟨rfl, hS, onlyX.rf⟩)
            | (have q : ¬ bR 13 μ := zB_eq0.mp h50
               have n1 : ¬ hHeld S 0 = 0 := fun z => (show ¬ bE 13 μ from zB_eq0.mp h31) (E1.mpr z)
               have n2 : ¬ hHeld S 1 = 0 := fun z => (show ¬ bE 14 μ from zB_eq0.mp h39) (E2.mpr z)
               rw [opSh_b (by omega) (by omega) n1 n2 (Or.inl (xsh1 hok (by omega) n1 (fun z => q (R1.mpr z))))]
               exact ⟨rfl, hS, onlyX.rf⟩)
            | (have q : bE 14 μ := zB_ne0.mp h39
               rw [opSh_a (by omega) (by omega) (Or.inr (E2.mp q))]
               exact ⟨rfl, hS, onlyX.rf⟩)
            | (have q : bE 13 μ := zB_ne0.mp h31
               rw [opSh_a (by omega) (by omega) (Or.inl (E1.mp q))]
               exact ⟨rfl, hS, onlyX.rf⟩)
    · refine zb X_shift_s42 rfl ?_
      refine z_ret X_shift_d44 rfl ?_
      first
        | (have f := fin_shift (s := 0) (p := 1) (a := x) (b := y) (N := N) hS (by omega) (by omega) (by omega)
           rw [cN, cx, cy]
           exact ⟨rfl, f.1, f.2⟩)
        | (have q : ¬ bP 14 j n μ := zB_eq0.mp h89
           rw [opSh_c (by omega) (by omega) f1 f2 hsrt (fun z => q (P2.mpr (And.intro z.2.2.1 (And.intro z.1 (by rw [← ew]; exact z.2.2.2.2)))))]
           exact ⟨rfl, hS, onlyX.rf⟩)
        | (have q : ¬ bP 13 i n μ := zB_eq0.mp h77
           rw [opSh_c (by omega) (by omega) f1 f2 hsrt (fun z => q (P1.mpr (And.intro z.2.1 (And.intro z.1 (by rw [← em]; exact z.2.2.2.1)))))]
           exact ⟨rfl, hS, onlyX.rf⟩)
        | (have q := zB_eq0.mp h63
           have f1 : hHeld S 0 = 2 := R1.mp (zB_ne0.mp h50)
           have n2 : ¬ hHeld S 1 = 0 := fun z => (show ¬ bE 14 μ from zB_eq0.mp h39) (E2.mpr z)
           rw [opSh_b (by omega) (by omega) (by rw [f1]; decide) n2 (by
             by_cases z : hHeld S 1 = 2
             · refine Or.inr (Or.inr (fun y => q (And.intro (R2.mpr z) ?_)))
               exact (show μ.1 14 2 = _ from (xsh2 hS hok (show 1 < 6 by omega) z).1).trans (y.symm.trans (show μ.1 13 2 = _ from (xsh2 hS hok (show 0 < 6 by omega) f1).1).symm)
             · exact Or.inr (Or.inl (xsh1 hok (by omega) n2 z)))]
           exact ⟨rfl, hS, onlyX.rf⟩)
        | (have q : ¬ bR 13 μ := zB_eq0.mp h50
           have n1 : ¬ hHeld S 0 = 0 := fun z => (show ¬ bE 13 μ from zB_eq0.mp h31) (E1.mpr z)
           have n2 : ¬ hHeld S 1 = 0 := fun z => (show ¬ bE 14 μ from zB_eq0.mp h39) (E2.mpr z)
           rw [opSh_b (by omega) (by omega) n1 n2 (Or.inl (xsh1 hok (by omega) n1 (fun z => q (R1.mpr z))))]
           exact ⟨rfl, hS, onlyX.rf⟩)
        | (have q : bE 14 μ := zB_ne0.mp h39
           rw [opSh_a (by omega) (by omega) (Or.inr (E2.mp q))]
           exact ⟨rfl, hS, onlyX.rf⟩)
        | (have q : bE 13 μ := zB_ne0.mp h31
           rw [opSh_a (by omega) (by omega) (Or.inl (E1.mp q))]
           exact ⟨rfl, hS, onlyX.rf⟩)

set_option maxRecDepth 100000 in
set_option maxHeartbeats 4000000 in
theorem xs_shift_0_2 {g : zG} {d : Nat} {S : zS} {μ : zMem} {i j n : Int32} (hd : 2 ≤ d) (hS : xS S μ) (hok : okH S) : zM g d X_shift [.ref 1, .int (nI 0), .int i, .int (nI 2), .int j, .int n] μ (pO xS onlyX (opShift S (nI 0) i (nI 2) j n) μ) := by
  refine zM_of (by decide +kernel) rfl rfl (Nat.le_of_ble_eq_true rfl) rfl ?_
  obtain ⟨ho, h2, hT, hC, hD, hI, hA, hH⟩ := hS
  have hS : xS S μ := ⟨ho, h2, hT, hC, hD, hI, hA, hH⟩
  have hb := ho.b
  have hv := ho.v
  have hB6 := ho.b6
  have hV12 := ho.v12
  have hz : zq sX μ μ := zq.rf
  have E1 := xshE (s := 0) hS hok (by omega)
  have E2 := xshE (s := 2) hS hok (by omega)
  have R1 := xshR (s := 0) hS hok (by omega)
  have R2 := xshR (s := 2) hS hok (by omega)
  refine zb X_shift_s0 rfl ?_
  refine zcallV X_shift_d2 k10_93 (by omega) (x_shelf_0 (by omega)) rfl rfl rfl (Nat.le_of_ble_eq_true rfl) ?_
  rintro _ μx ⟨rfl, hx⟩
  rw [hx]
  clear hx μx
  refine zb X_shift_s5 rfl ?_
  refine zcallV X_shift_d9 k10_93 (by omega) (x_shelf_2 (by omega)) rfl rfl rfl (Nat.le_of_ble_eq_true rfl) ?_
  rintro _ μx ⟨rfl, hx⟩
  rw [hx]
  clear hx μx
  refine zb X_shift_s12 rfl ?_
  refine z_null X_shift_d16 ?_
  refine zb X_shift_s19 rfl ?_
  refine z_nonnull X_shift_d21 (tgt := 26) rfl ?_
  refine zb X_shift_s26 rfl ?_
  refine zcallV X_shift_d28 k10_97 (by omega) (x_isEmpty_0) rfl rfl rfl (Nat.le_of_ble_eq_true rfl) ?_
  rintro _ μx ⟨rfl, hx⟩
  rw [hx]
  clear hx μx
  refine z_ne X_shift_d31 (tgt := 42) rfl (fun h31 => ?_) (fun h31 => ?_)
  · refine zb X_shift_s42 rfl ?_
    refine z_ret X_shift_d44 rfl ?_
    first
      | (have f := fin_shift (s := 0) (p := 2) (a := x) (b := y) (N := N) hS (by omega) (by omega) (by omega)
         rw [cN, cx, cy]
         exact ⟨rfl, f.1, f.2⟩)
      | (have q : ¬ bP 15 j n μ := zB_eq0.mp h89
         rw [opSh_c (by omega) (by omega) f1 f2 hsrt (fun z => q (P2.mpr (And.intro z.2.2.1 (And.intro z.1 (by rw [← ew]; exact z.2.2.2.2)))))]
         exact ⟨rfl, hS, onlyX.rf⟩)
      | (have q : ¬ bP 13 i n μ := zB_eq0.mp h77
         rw [opSh_c (by omega) (by omega) f1 f2 hsrt (fun z => q (P1.mpr (And.intro z.2.1 (And.intro z.1 (by rw [← em]; exact z.2.2.2.1)))))]
         exact ⟨rfl, hS, onlyX.rf⟩)
      | (have q := zB_eq0.mp h63
         have f1 : hHeld S 0 = 2 := R1.mp (zB_ne0.mp h50)
         have n2 : ¬ hHeld S 2 = 0 := fun z => (show ¬ bE 15 μ from zB_eq0.mp h39) (E2.mpr z)
         rw [opSh_b (by omega) (by omega) (by rw [f1]; decide) n2 (by
           by_cases z : hHeld S 2 = 2
           · refine Or.inr (Or.inr (fun y => q (And.intro (R2.mpr z) ?_)))
             exact (show μ.1 15 2 = _ from (xsh2 hS hok (show 2 < 6 by omega) z).1).trans (y.symm.trans (show μ.1 13 2 = _ from (xsh2 hS hok (show 0 < 6 by omega) f1).1).symm)
           · exact Or.inr (Or.inl (xsh1 hok (by omega) n2 z)))]
         exact ⟨rfl, hS, onlyX.rf⟩)
      | (have q : ¬ bR 13 μ := zB_eq0.mp h50
         have n1 : ¬ hHeld S 0 = 0 := fun z => (show ¬ bE 13 μ from zB_eq0.mp h31) (E1.mpr z)
         have n2 : ¬ hHeld S 2 = 0 := fun z => (show ¬ bE 15 μ from zB_eq0.mp h39) (E2.mpr z)
         rw [opSh_b (by omega) (by omega) n1 n2 (Or.inl (xsh1 hok (by omega) n1 (fun z => q (R1.mpr z))))]
         exact ⟨rfl, hS, onlyX.rf⟩)
      | (have q : bE 15 μ := zB_ne0.mp h39
         rw [opSh_a (by omega) (by omega) (Or.inr (E2.mp q))]
         exact ⟨rfl, hS, onlyX.rf⟩)
      | (have q : bE 13 μ := zB_ne0.mp h31
         rw [opSh_a (by omega) (by omega) (Or.inl (E1.mp q))]
         exact ⟨rfl, hS, onlyX.rf⟩)
  · refine zb X_shift_s34 rfl ?_
    refine zcallV X_shift_d36 k10_97 (by omega) (x_isEmpty_2) rfl rfl rfl (Nat.le_of_ble_eq_true rfl) ?_
    rintro _ μx ⟨rfl, hx⟩
    rw [hx]
    clear hx μx
    refine z_eq X_shift_d39 (tgt := 45) rfl (fun h39 => ?_) (fun h39 => ?_)
    · refine zb X_shift_s45 rfl ?_
      refine zcallV X_shift_d47 k10_357 (by omega) (x_isRow_0) rfl rfl rfl (Nat.le_of_ble_eq_true rfl) ?_
      rintro _ μx ⟨rfl, hx⟩
      rw [hx]
      clear hx μx
      refine z_eq X_shift_d50 (tgt := 66) rfl (fun h50 => ?_) (fun h50 => ?_)
      · refine zb X_shift_s66 rfl ?_
        refine z_ret X_shift_d68 rfl ?_
        first
          | (have f := fin_shift (s := 0) (p := 2) (a := x) (b := y) (N := N) hS (by omega) (by omega) (by omega)
             rw [cN, cx, cy]
             exact ⟨rfl, f.1, f.2⟩)
          | (have q : ¬ bP 15 j n μ := zB_eq0.mp h89
             rw [opSh_c (by omega) (by omega) f1 f2 hsrt (fun z => q (P2.mpr (And.intro z.2.2.1 (And.intro z.1 (by rw [← ew]; exact z.2.2.2.2)))))]
             exact ⟨rfl, hS, onlyX.rf⟩)
          | (have q : ¬ bP 13 i n μ := zB_eq0.mp h77
             rw [opSh_c (by omega) (by omega) f1 f2 hsrt (fun z => q (P1.mpr (And.intro z.2.1 (And.intro z.1 (by rw [← em]; exact z.2.2.2.1)))))]
             exact ⟨rfl, hS, onlyX.rf⟩)
          | (have q := zB_eq0.mp h63
             have f1 : hHeld S 0 = 2 := R1.mp (zB_ne0.mp h50)
             have n2 : ¬ hHeld S 2 = 0 := fun z => (show ¬ bE 15 μ from zB_eq0.mp h39) (E2.mpr z)
             rw [opSh_b (by omega) (by omega) (by rw [f1]; decide) n2 (by
               by_cases z : hHeld S 2 = 2
               · refine Or.inr (Or.inr (fun y => q (And.intro (R2.mpr z) ?_)))
                 exact (show μ.1 15 2 = _ from (xsh2 hS hok (show 2 < 6 by omega) z).1).trans (y.symm.trans (show μ.1 13 2 = _ from (xsh2 hS hok (show 0 < 6 by omega) f1).1).symm)
               · exact Or.inr (Or.inl (xsh1 hok (by omega) n2 z)))]
             exact ⟨rfl, hS, onlyX.rf⟩)
          | (have q : ¬ bR 13 μ := zB_eq0.mp h50
             have n1 : ¬ hHeld S 0 = 0 := fun z => (show ¬ bE 13 μ from zB_eq0.mp h31) (E1.mpr z)
             have n2 : ¬ hHeld S 2 = 0 := fun z => (show ¬ bE 15 μ from zB_eq0.mp h39) (E2.mpr z)
             rw [opSh_b (by omega) (by omega) n1 n2 (Or.inl (xsh1 hok (by omega) n1 (fun z => q (R1.mpr z))))]
             exact ⟨rfl, hS, onlyX.rf⟩)
          | (have q : bE 15 μ := zB_ne0.mp h39
             rw [opSh_a (by omega) (by omega) (Or.inr (E2.mp q))]
             exact ⟨rfl, hS, onlyX.rf⟩)
          | (have q : bE 13 μ := zB_ne0.mp h31
             rw [opSh_a (by omega) (by omega) (Or.inl (E1.mp q))]
             exact ⟨rfl, hS, onlyX.rf⟩)
      · refine zb X_shift_s53 rfl ?_
        refine zcallV X_shift_d60 k10_101 (by omega) (x_isRowOf_2 _ (by omega)) rfl rfl rfl (Nat.le_of_ble_eq_true rfl) ?_
        rintro _ μx ⟨rfl, hx⟩
        rw [hx]
        clear hx μx
        refine z_ne X_shift_d63 (tgt := 69) rfl (fun h63 => ?_) (fun h63 => ?_)
        · have f1 : hHeld S 0 = 2 := R1.mp (zB_ne0.mp h50)
          have f2 : hHeld S 2 = 2 := R2.mp (zB_ne0.mp h63).1
          obtain ⟨a1, a2, m, hm, em⟩ := xsh2 hS hok (show 0 < 6 by omega) f1
          obtain ⟨b1, b2, w, hw, ew⟩ := xsh2 hS hok (show 2 < 6 by omega) f2
          have hsrt : hSort S 0 = hSort S 2 := a1.symm.trans ((zB_ne0.mp h63).2.symm.trans b1)
          have P1 := bPn (i := i) (n := n) hm (a2.trans em)
          have P2 := bPn (i := j) (n := n) hw (b2.trans ew)
          refine zb X_shift_s69 rfl ?_
          refine zcallV X_shift_d74 k10_363 (by omega) (x_hasPlaces_0 _ _) rfl rfl rfl (Nat.le_of_ble_eq_true rfl) ?_
          rintro _ μx ⟨rfl, hx⟩
          rw [hx]
          clear hx μx
          refine z_eq X_shift_d77 (tgt := 92) rfl (fun h77 => ?_) (fun h77 => ?_)
          · refine zb X_shift_s92 rfl ?_
            refine z_ret X_shift_d94 rfl ?_
            first
              | (have f := fin_shift (s := 0) (p := 2) (a := x) (b := y) (N := N) hS (by omega) (by omega) (by omega)
                 rw [cN, cx, cy]
                 exact ⟨rfl, f.1, f.2⟩)
              | (have q : ¬ bP 15 j n μ := zB_eq0.mp h89
                 rw [opSh_c (by omega) (by omega) f1 f2 hsrt (fun z => q (P2.mpr (And.intro z.2.2.1 (And.intro z.1 (by rw [← ew]; exact z.2.2.2.2)))))]
                 exact ⟨rfl, hS, onlyX.rf⟩)
              | (have q : ¬ bP 13 i n μ := zB_eq0.mp h77
                 rw [opSh_c (by omega) (by omega) f1 f2 hsrt (fun z => q (P1.mpr (And.intro z.2.1 (And.intro z.1 (by rw [← em]; exact z.2.2.2.1)))))]
                 exact ⟨rfl, hS, onlyX.rf⟩)
              | (have q := zB_eq0.mp h63
                 have f1 : hHeld S 0 = 2 := R1.mp (zB_ne0.mp h50)
                 have n2 : ¬ hHeld S 2 = 0 := fun z => (show ¬ bE 15 μ from zB_eq0.mp h39) (E2.mpr z)
                 rw [opSh_b (by omega) (by omega) (by rw [f1]; decide) n2 (by
                   by_cases z : hHeld S 2 = 2
                   · refine Or.inr (Or.inr (fun y => q (And.intro (R2.mpr z) ?_)))
                     exact (show μ.1 15 2 = _ from (xsh2 hS hok (show 2 < 6 by omega) z).1).trans (y.symm.trans (show μ.1 13 2 = _ from (xsh2 hS hok (show 0 < 6 by omega) f1).1).symm)
                   · exact Or.inr (Or.inl (xsh1 hok (by omega) n2 z)))]
                 exact ⟨rfl, hS, onlyX.rf⟩)
              | (have q : ¬ bR 13 μ := zB_eq0.mp h50
                 have n1 : ¬ hHeld S 0 = 0 := fun z => (show ¬ bE 13 μ from zB_eq0.mp h31) (E1.mpr z)
                 have n2 : ¬ hHeld S 2 = 0 := fun z => (show ¬ bE 15 μ from zB_eq0.mp h39) (E2.mpr z)
                 rw [opSh_b (by omega) (by omega) n1 n2 (Or.inl (xsh1 hok (by omega) n1 (fun z => q (R1.mpr z))))]
                 exact ⟨rfl, hS, onlyX.rf⟩)
              | (have q : bE 15 μ := zB_ne0.mp h39
                 rw [opSh_a (by omega) (by omega) (Or.inr (E2.mp q))]
                 exact ⟨rfl, hS, onlyX.rf⟩)
              | (have q : bE 13 μ := zB_ne0.mp h31
                 rw [opSh_a (by omega) (by omega) (Or.inl (E1.mp q))]
                 exact ⟨rfl, hS, onlyX.rf⟩)
          · refine zb X_shift_s80 rfl ?_
            refine zcallV X_shift_d86 k10_363 (by omega) (x_hasPlaces_2 _ _) rfl rfl rfl (Nat.le_of_ble_eq_true rfl) ?_
            rintro _ μx ⟨rfl, hx⟩
            rw [hx]
            clear hx μx
            refine z_ne X_shift_d89 (tgt := 95) rfl (fun h89 => ?_) (fun h89 => ?_)
            · have g1 := P1.mp (zB_ne0.mp h77)
              have g2 := P2.mp (zB_ne0.mp h89)
              have hall : 0 ≤ n ∧ 0 ≤ i ∧ 0 ≤ j ∧ i ≤ hSize S 0 - n ∧ j ≤ hSize S 2 - n := by
                exact ⟨g1.2.1, g1.1, g2.1, by rw [em]; exact g1.2.2, by rw [ew]; exact g2.2.2⟩
              rw [opSh_d (by omega) (by omega) f1 f2 hsrt hall]
              clear hall
              obtain ⟨N, hN, rfl⟩ := nI_of (Int32.not_lt.mpr g1.2.1)
              obtain ⟨x, hx, rfl⟩ := nI_of (Int32.not_lt.mpr g1.1)
              obtain ⟨y, hy, rfl⟩ := nI_of (Int32.not_lt.mpr g2.1)
              have k1 := (le_sub hx hm hN).mp g1.2.2
              have k2 := (le_sub hy hw hN).mp g2.2.2
              have cN : (nI N).toNatClampNeg = N := nI_clamp hN
              have cx : (nI x).toNatClampNeg = x := nI_clamp hx
              have cy : (nI y).toNatClampNeg = y := nI_clamp hy
              refine zb X_shift_s95 rfl ?_
              refine zcpL X_shift_d110 k10_366 (by omega) (Nat.le_of_ble_eq_true rfl) rfl rfl (nI_pos (by omega)) (nI_pos (by omega)) (nI_pos (by omega)) (by rw [cN, cx]; omega) (by rw [cN, cy]; omega) ?_
              refine zb X_shift_s113 rfl ?_
              refine z_ret X_shift_d115 rfl ?_
              first
                | (have f := fin_shift (s := 0) (p := 2) (a := x) (b := y) (N := N) hS (by omega) (by omega) (by omega)
                   rw [cN, cx, cy]
                   exact ⟨rfl, f.1, f.2⟩)
                | (have q : ¬ bP 15 j n μ := zB_eq0.mp h89
                   rw [opSh_c (by omega) (by omega) f1 f2 hsrt (fun z => q (P2.mpr (And.intro z.2.2.1 (And.intro z.1 (by rw [← ew]; exact z.2.2.2.2)))))]
                   exact ⟨rfl, hS, onlyX.rf⟩)
                | (have q : ¬ bP 13 i n μ := zB_eq0.mp h77
                   rw [opSh_c (by omega) (by omega) f1 f2 hsrt (fun z => q (P1.mpr (And.intro z.2.1 (And.intro z.1 (by rw [← em]; exact z.2.2.2.1)))))]
                   exact ⟨rfl, hS, onlyX.rf⟩)
                | (have q := zB_eq0.mp h63
                   have f1 : hHeld S 0 = 2 := R1.mp (zB_ne0.mp h50)
                   have n2 : ¬ hHeld S 2 = 0 := fun z => (show ¬ bE 15 μ from zB_eq0.mp h39) (E2.mpr z)
                   rw [opSh_b (by omega) (by omega) (by rw [f1]; decide) n2 (by
                     by_cases z : hHeld S 2 = 2
                     · refine Or.inr (Or.inr (fun y => q (And.intro (R2.mpr z) ?_)))
                       exact (show μ.1 15 2 = _ from (xsh2 hS hok (show 2 < 6 by omega) z).1).trans (y.symm.trans (show μ.1 13 2 = _ from (xsh2 hS hok (show 0 < 6 by omega) f1).1).symm)
                     · exact Or.inr (Or.inl (xsh1 hok (by omega) n2 z)))]
                   exact ⟨rfl, hS, onlyX.rf⟩)
                | (have q : ¬ bR 13 μ := zB_eq0.mp h50
                   have n1 : ¬ hHeld S 0 = 0 := fun z => (show ¬ bE 13 μ from zB_eq0.mp h31) (E1.mpr z)
                   have n2 : ¬ hHeld S 2 = 0 := fun z => (show ¬ bE 15 μ from zB_eq0.mp h39) (E2.mpr z)
                   rw [opSh_b (by omega) (by omega) n1 n2 (Or.inl (xsh1 hok (by omega) n1 (fun z => q (R1.mpr z))))]
                   exact ⟨rfl, hS, onlyX.rf⟩)
                | (have q : bE 15 μ := zB_ne0.mp h39
                   rw [opSh_a (by omega) (by omega) (Or.inr (E2.mp q))]
                   exact ⟨rfl, hS, onlyX.rf⟩)
                | (have q : bE 13 μ := zB_ne0.mp h31
                   rw [opSh_a (by omega) (by omega) (Or.inl (E1.mp q))]
                   exact ⟨rfl, hS, onlyX.rf⟩)
            · refine zb X_shift_s92 rfl ?_
              refine z_ret X_shift_d94 rfl ?_
              first
                | (have f := fin_shift (s := 0) (p := 2) (a := x) (b := y) (N := N) hS (by omega) (by omega) (by omega)
                   rw [cN, cx, cy]
                   exact ⟨rfl, f.1, f.2⟩)
                | (have q : ¬ bP 15 j n μ := zB_eq0.mp h89
                   rw [opSh_c (by omega) (by omega) f1 f2 hsrt (fun z => q (P2.mpr (And.intro z.2.2.1 (And.intro z.1 (by rw [← ew]; exact z.2.2.2.2)))))]
                   exact ⟨rfl, hS, onlyX.rf⟩)
                | (have q : ¬ bP 13 i n μ := zB_eq0.mp h77
                   rw [opSh_c (by omega) (by omega) f1 f2 hsrt (fun z => q (P1.mpr (And.intro z.2.1 (And.intro z.1 (by rw [← em]; exact z.2.2.2.1)))))]
                   exact ⟨rfl, hS, onlyX.rf⟩)
                | (have q := zB_eq0.mp h63
                   have f1 : hHeld S 0 = 2 := R1.mp (zB_ne0.mp h50)
                   have n2 : ¬ hHeld S 2 = 0 := fun z => (show ¬ bE 15 μ from zB_eq0.mp h39) (E2.mpr z)
                   rw [opSh_b (by omega) (by omega) (by rw [f1]; decide) n2 (by
                     by_cases z : hHeld S 2 = 2
                     · refine Or.inr (Or.inr (fun y => q (And.intro (R2.mpr z) ?_)))
                       exact (show μ.1 15 2 = _ from (xsh2 hS hok (show 2 < 6 by omega) z).1).trans (y.symm.trans (show μ.1 13 2 = _ from (xsh2 hS hok (show 0 < 6 by omega) f1).1).symm)
                     · exact Or.inr (Or.inl (xsh1 hok (by omega) n2 z)))]
                   exact ⟨rfl, hS, onlyX.rf⟩)
                | (have q : ¬ bR 13 μ := zB_eq0.mp h50
                   have n1 : ¬ hHeld S 0 = 0 := fun z => (show ¬ bE 13 μ from zB_eq0.mp h31) (E1.mpr z)
                   have n2 : ¬ hHeld S 2 = 0 := fun z => (show ¬ bE 15 μ from zB_eq0.mp h39) (E2.mpr z)
                   rw [opSh_b (by omega) (by omega) n1 n2 (Or.inl (xsh1 hok (by omega) n1 (fun z => q (R1.mpr z))))]
                   exact ⟨rfl, hS, onlyX.rf⟩)
                | (have q : bE 15 μ := zB_ne0.mp h39
                   rw [opSh_a (by omega) (by omega) (Or.inr (E2.mp q))]
                   exact ⟨rfl, hS, onlyX.rf⟩)
                | (have q : bE 13 μ := zB_ne0.mp h31
                   rw [opSh_a (by omega) (by omega) (Or.inl (E1.mp q))]
                   exact ⟨rfl, hS, onlyX.rf⟩)
        · refine zb X_shift_s66 rfl ?_
          refine z_ret X_shift_d68 rfl ?_
          first
            | (have f := fin_shift (s := 0) (p := 2) (a := x) (b := y) (N := N) hS (by omega) (by omega) (by omega)
               rw [cN, cx, cy]
               exact ⟨rfl, f.1, f.2⟩)
            | (have q : ¬ bP 15 j n μ := zB_eq0.mp h89
               rw [opSh_c (by omega) (by omega) f1 f2 hsrt (fun z => q (P2.mpr (And.intro z.2.2.1 (And.intro z.1 (by rw [← ew]; exact z.2.2.2.2)))))]
               exact ⟨rfl, hS, onlyX.rf⟩)
            | (have q : ¬ bP 13 i n μ := zB_eq0.mp h77
               rw [opSh_c (by omega) (by omega) f1 f2 hsrt (fun z => q (P1.mpr (And.intro z.2.1 (And.intro z.1 (by rw [← em]; exact z.2.2.2.1)))))]
               exact ⟨rfl, hS, onlyX.rf⟩)
            | (have q := zB_eq0.mp h63
               have f1 : hHeld S 0 = 2 := R1.mp (zB_ne0.mp h50)
               have n2 : ¬ hHeld S 2 = 0 := fun z => (show ¬ bE 15 μ from zB_eq0.mp h39) (E2.mpr z)
               rw [opSh_b (by omega) (by omega) (by rw [f1]; decide) n2 (by
                 by_cases z : hHeld S 2 = 2
                 · refine Or.inr (Or.inr (fun y => q (And.intro (R2.mpr z) ?_)))
                   exact (show μ.1 15 2 = _ from (xsh2 hS hok (show 2 < 6 by omega) z).1).trans (y.symm.trans (show μ.1 13 2 = _ from (xsh2 hS hok (show 0 < 6 by omega) f1).1).symm)
                 · exact Or.inr (Or.inl (xsh1 hok (by omega) n2 z)))]
               exact ⟨rfl, hS, onlyX.rf⟩)
            | (have q : ¬ bR 13 μ := zB_eq0.mp h50
               have n1 : ¬ hHeld S 0 = 0 := fun z => (show ¬ bE 13 μ from zB_eq0.mp h31) (E1.mpr z)
               have n2 : ¬ hHeld S 2 = 0 := fun z => (show ¬ bE 15 μ from zB_eq0.mp h39) (E2.mpr z)
               rw [opSh_b (by omega) (by omega) n1 n2 (Or.inl (xsh1 hok (by omega) n1 (fun z => q (R1.mpr z))))]
               exact ⟨rfl, hS, onlyX.rf⟩)
            | (have q : bE 15 μ := zB_ne0.mp h39
               rw [opSh_a (by omega) (by omega) (Or.inr (E2.mp q))]
               exact ⟨rfl, hS, onlyX.rf⟩)
            | (have q : bE 13 μ := zB_ne0.mp h31
               rw [opSh_a (by omega) (by omega) (Or.inl (E1.mp q))]
               exact ⟨rfl, hS, onlyX.rf⟩)
    · refine zb X_shift_s42 rfl ?_
      refine z_ret X_shift_d44 rfl ?_
      first
        | (have f := fin_shift (s := 0) (p := 2) (a := x) (b := y) (N := N) hS (by omega) (by omega) (by omega)
           rw [cN, cx, cy]
           exact ⟨rfl, f.1, f.2⟩)
        | (have q : ¬ bP 15 j n μ := zB_eq0.mp h89
           rw [opSh_c (by omega) (by omega) f1 f2 hsrt (fun z => q (P2.mpr (And.intro z.2.2.1 (And.intro z.1 (by rw [← ew]; exact z.2.2.2.2)))))]
           exact ⟨rfl, hS, onlyX.rf⟩)
        | (have q : ¬ bP 13 i n μ := zB_eq0.mp h77
           rw [opSh_c (by omega) (by omega) f1 f2 hsrt (fun z => q (P1.mpr (And.intro z.2.1 (And.intro z.1 (by rw [← em]; exact z.2.2.2.1)))))]
           exact ⟨rfl, hS, onlyX.rf⟩)
        | (have q := zB_eq0.mp h63
           have f1 : hHeld S 0 = 2 := R1.mp (zB_ne0.mp h50)
           have n2 : ¬ hHeld S 2 = 0 := fun z => (show ¬ bE 15 μ from zB_eq0.mp h39) (E2.mpr z)
           rw [opSh_b (by omega) (by omega) (by rw [f1]; decide) n2 (by
             by_cases z : hHeld S 2 = 2
             · refine Or.inr (Or.inr (fun y => q (And.intro (R2.mpr z) ?_)))
               exact (show μ.1 15 2 = _ from (xsh2 hS hok (show 2 < 6 by omega) z).1).trans (y.symm.trans (show μ.1 13 2 = _ from (xsh2 hS hok (show 0 < 6 by omega) f1).1).symm)
             · exact Or.inr (Or.inl (xsh1 hok (by omega) n2 z)))]
           exact ⟨rfl, hS, onlyX.rf⟩)
        | (have q : ¬ bR 13 μ := zB_eq0.mp h50
           have n1 : ¬ hHeld S 0 = 0 := fun z => (show ¬ bE 13 μ from zB_eq0.mp h31) (E1.mpr z)
           have n2 : ¬ hHeld S 2 = 0 := fun z => (show ¬ bE 15 μ from zB_eq0.mp h39) (E2.mpr z)
           rw [opSh_b (by omega) (by omega) n1 n2 (Or.inl (xsh1 hok (by omega) n1 (fun z => q (R1.mpr z))))]
           exact ⟨rfl, hS, onlyX.rf⟩)
        | (have q : bE 15 μ := zB_ne0.mp h39
           rw [opSh_a (by omega) (by omega) (Or.inr (E2.mp q))]
           exact ⟨rfl, hS, onlyX.rf⟩)
        | (have q : bE 13 μ := zB_ne0.mp h31
           rw [opSh_a (by omega) (by omega) (Or.inl (E1.mp q))]
           exact ⟨rfl, hS, onlyX.rf⟩)

set_option maxRecDepth 100000 in
set_option maxHeartbeats 4000000 in
theorem xs_shift_0_3 {g : zG} {d : Nat} {S : zS} {μ : zMem} {i j n : Int32} (hd : 2 ≤ d) (hS : xS S μ) (hok : okH S) : zM g d X_shift [.ref 1, .int (nI 0), .int i, .int (nI 3), .int j, .int n] μ (pO xS onlyX (opShift S (nI 0) i (nI 3) j n) μ) := by
  refine zM_of (by decide +kernel) rfl rfl (Nat.le_of_ble_eq_true rfl) rfl ?_
  obtain ⟨ho, h2, hT, hC, hD, hI, hA, hH⟩ := hS
  have hS : xS S μ := ⟨ho, h2, hT, hC, hD, hI, hA, hH⟩
  have hb := ho.b
  have hv := ho.v
  have hB6 := ho.b6
  have hV12 := ho.v12
  have hz : zq sX μ μ := zq.rf
  have E1 := xshE (s := 0) hS hok (by omega)
  have E2 := xshE (s := 3) hS hok (by omega)
  have R1 := xshR (s := 0) hS hok (by omega)
  have R2 := xshR (s := 3) hS hok (by omega)
  refine zb X_shift_s0 rfl ?_
  refine zcallV X_shift_d2 k10_93 (by omega) (x_shelf_0 (by omega)) rfl rfl rfl (Nat.le_of_ble_eq_true rfl) ?_
  rintro _ μx ⟨rfl, hx⟩
  rw [hx]
  clear hx μx
  refine zb X_shift_s5 rfl ?_
  refine zcallV X_shift_d9 k10_93 (by omega) (x_shelf_3 (by omega)) rfl rfl rfl (Nat.le_of_ble_eq_true rfl) ?_
  rintro _ μx ⟨rfl, hx⟩
  rw [hx]
  clear hx μx
  refine zb X_shift_s12 rfl ?_
  refine z_null X_shift_d16 ?_
  refine zb X_shift_s19 rfl ?_
  refine z_nonnull X_shift_d21 (tgt := 26) rfl ?_
  refine zb X_shift_s26 rfl ?_
  refine zcallV X_shift_d28 k10_97 (by omega) (x_isEmpty_0) rfl rfl rfl (Nat.le_of_ble_eq_true rfl) ?_
  rintro _ μx ⟨rfl, hx⟩
  rw [hx]
  clear hx μx
  refine z_ne X_shift_d31 (tgt := 42) rfl (fun h31 => ?_) (fun h31 => ?_)
  · refine zb X_shift_s42 rfl ?_
    refine z_ret X_shift_d44 rfl ?_
    first
      | (have f := fin_shift (s := 0) (p := 3) (a := x) (b := y) (N := N) hS (by omega) (by omega) (by omega)
         rw [cN, cx, cy]
         exact ⟨rfl, f.1, f.2⟩)
      | (have q : ¬ bP 16 j n μ := zB_eq0.mp h89
         rw [opSh_c (by omega) (by omega) f1 f2 hsrt (fun z => q (P2.mpr (And.intro z.2.2.1 (And.intro z.1 (by rw [← ew]; exact z.2.2.2.2)))))]
         exact ⟨rfl, hS, onlyX.rf⟩)
      | (have q : ¬ bP 13 i n μ := zB_eq0.mp h77
         rw [opSh_c (by omega) (by omega) f1 f2 hsrt (fun z => q (P1.mpr (And.intro z.2.1 (And.intro z.1 (by rw [← em]; exact z.2.2.2.1)))))]
         exact ⟨rfl, hS, onlyX.rf⟩)
      | (have q := zB_eq0.mp h63
         have f1 : hHeld S 0 = 2 := R1.mp (zB_ne0.mp h50)
         have n2 : ¬ hHeld S 3 = 0 := fun z => (show ¬ bE 16 μ from zB_eq0.mp h39) (E2.mpr z)
         rw [opSh_b (by omega) (by omega) (by rw [f1]; decide) n2 (by
           by_cases z : hHeld S 3 = 2
           · refine Or.inr (Or.inr (fun y => q (And.intro (R2.mpr z) ?_)))
             exact (show μ.1 16 2 = _ from (xsh2 hS hok (show 3 < 6 by omega) z).1).trans (y.symm.trans (show μ.1 13 2 = _ from (xsh2 hS hok (show 0 < 6 by omega) f1).1).symm)
           · exact Or.inr (Or.inl (xsh1 hok (by omega) n2 z)))]
         exact ⟨rfl, hS, onlyX.rf⟩)
      | (have q : ¬ bR 13 μ := zB_eq0.mp h50
         have n1 : ¬ hHeld S 0 = 0 := fun z => (show ¬ bE 13 μ from zB_eq0.mp h31) (E1.mpr z)
         have n2 : ¬ hHeld S 3 = 0 := fun z => (show ¬ bE 16 μ from zB_eq0.mp h39) (E2.mpr z)
         rw [opSh_b (by omega) (by omega) n1 n2 (Or.inl (xsh1 hok (by omega) n1 (fun z => q (R1.mpr z))))]
         exact ⟨rfl, hS, onlyX.rf⟩)
      | (have q : bE 16 μ := zB_ne0.mp h39
         rw [opSh_a (by omega) (by omega) (Or.inr (E2.mp q))]
         exact ⟨rfl, hS, onlyX.rf⟩)
      | (have q : bE 13 μ := zB_ne0.mp h31
         rw [opSh_a (by omega) (by omega) (Or.inl (E1.mp q))]
         exact ⟨rfl, hS, onlyX.rf⟩)
  · refine zb X_shift_s34 rfl ?_
    refine zcallV X_shift_d36 k10_97 (by omega) (x_isEmpty_3) rfl rfl rfl (Nat.le_of_ble_eq_true rfl) ?_
    rintro _ μx ⟨rfl, hx⟩
    rw [hx]
    clear hx μx
    refine z_eq X_shift_d39 (tgt := 45) rfl (fun h39 => ?_) (fun h39 => ?_)
    · refine zb X_shift_s45 rfl ?_
      refine zcallV X_shift_d47 k10_357 (by omega) (x_isRow_0) rfl rfl rfl (Nat.le_of_ble_eq_true rfl) ?_
      rintro _ μx ⟨rfl, hx⟩
      rw [hx]
      clear hx μx
      refine z_eq X_shift_d50 (tgt := 66) rfl (fun h50 => ?_) (fun h50 => ?_)
      · refine zb X_shift_s66 rfl ?_
        refine z_ret X_shift_d68 rfl ?_
        first
          | (have f := fin_shift (s := 0) (p := 3) (a := x) (b := y) (N := N) hS (by omega) (by omega) (by omega)
             rw [cN, cx, cy]
             exact ⟨rfl, f.1, f.2⟩)
          | (have q : ¬ bP 16 j n μ := zB_eq0.mp h89
             rw [opSh_c (by omega) (by omega) f1 f2 hsrt (fun z => q (P2.mpr (And.intro z.2.2.1 (And.intro z.1 (by rw [← ew]; exact z.2.2.2.2)))))]
             exact ⟨rfl, hS, onlyX.rf⟩)
          | (have q : ¬ bP 13 i n μ := zB_eq0.mp h77
             rw [opSh_c (by omega) (by omega) f1 f2 hsrt (fun z => q (P1.mpr (And.intro z.2.1 (And.intro z.1 (by rw [← em]; exact z.2.2.2.1)))))]
             exact ⟨rfl, hS, onlyX.rf⟩)
          | (have q := zB_eq0.mp h63
             have f1 : hHeld S 0 = 2 := R1.mp (zB_ne0.mp h50)
             have n2 : ¬ hHeld S 3 = 0 := fun z => (show ¬ bE 16 μ from zB_eq0.mp h39) (E2.mpr z)
             rw [opSh_b (by omega) (by omega) (by rw [f1]; decide) n2 (by
               by_cases z : hHeld S 3 = 2
               · refine Or.inr (Or.inr (fun y => q (And.intro (R2.mpr z) ?_)))
                 exact (show μ.1 16 2 = _ from (xsh2 hS hok (show 3 < 6 by omega) z).1).trans (y.symm.trans (show μ.1 13 2 = _ from (xsh2 hS hok (show 0 < 6 by omega) f1).1).symm)
               · exact Or.inr (Or.inl (xsh1 hok (by omega) n2 z)))]
             exact ⟨rfl, hS, onlyX.rf⟩)
          | (have q : ¬ bR 13 μ := zB_eq0.mp h50
             have n1 : ¬ hHeld S 0 = 0 := fun z => (show ¬ bE 13 μ from zB_eq0.mp h31) (E1.mpr z)
             have n2 : ¬ hHeld S 3 = 0 := fun z => (show ¬ bE 16 μ from zB_eq0.mp h39) (E2.mpr z)
             rw [opSh_b (by omega) (by omega) n1 n2 (Or.inl (xsh1 hok (by omega) n1 (fun z => q (R1.mpr z))))]
             exact ⟨rfl, hS, onlyX.rf⟩)
          | (have q : bE 16 μ := zB_ne0.mp h39
             rw [opSh_a (by omega) (by omega) (Or.inr (E2.mp q))]
             exact ⟨rfl, hS, onlyX.rf⟩)
          | (have q : bE 13 μ := zB_ne0.mp h31
             rw [opSh_a (by omega) (by omega) (Or.inl (E1.mp q))]
             exact ⟨rfl, hS, onlyX.rf⟩)
      · refine zb X_shift_s53 rfl ?_
        refine zcallV X_shift_d60 k10_101 (by omega) (x_isRowOf_3 _ (by omega)) rfl rfl rfl (Nat.le_of_ble_eq_true rfl) ?_
        rintro _ μx ⟨rfl, hx⟩
        rw [hx]
        clear hx μx
        refine z_ne X_shift_d63 (tgt := 69) rfl (fun h63 => ?_) (fun h63 => ?_)
        · have f1 : hHeld S 0 = 2 := R1.mp (zB_ne0.mp h50)
          have f2 : hHeld S 3 = 2 := R2.mp (zB_ne0.mp h63).1
          obtain ⟨a1, a2, m, hm, em⟩ := xsh2 hS hok (show 0 < 6 by omega) f1
          obtain ⟨b1, b2, w, hw, ew⟩ := xsh2 hS hok (show 3 < 6 by omega) f2
          have hsrt : hSort S 0 = hSort S 3 := a1.symm.trans ((zB_ne0.mp h63).2.symm.trans b1)
          have P1 := bPn (i := i) (n := n) hm (a2.trans em)
          have P2 := bPn (i := j) (n := n) hw (b2.trans ew)
          refine zb X_shift_s69 rfl ?_
          refine zcallV X_shift_d74 k10_363 (by omega) (x_hasPlaces_0 _ _) rfl rfl rfl (Nat.le_of_ble_eq_true rfl) ?_
          rintro _ μx ⟨rfl, hx⟩
          rw [hx]
          clear hx μx
          refine z_eq X_shift_d77 (tgt := 92) rfl (fun h77 => ?_) (fun h77 => ?_)
          · refine zb X_shift_s92 rfl ?_
            refine z_ret X_shift_d94 rfl ?_
            first
              | (have f := fin_shift (s := 0) (p := 3) (a := x) (b := y) (N := N) hS (by omega) (by omega) (by omega)
                 rw [cN, cx, cy]
                 exact ⟨rfl, f.1, f.2⟩)
              | (have q : ¬ bP 16 j n μ := zB_eq0.mp h89
                 rw [opSh_c (by omega) (by omega) f1 f2 hsrt (fun z => q (P2.mpr (And.intro z.2.2.1 (And.intro z.1 (by rw [← ew]; exact z.2.2.2.2)))))]
                 exact ⟨rfl, hS, onlyX.rf⟩)
              | (have q : ¬ bP 13 i n μ := zB_eq0.mp h77
                 rw [opSh_c (by omega) (by omega) f1 f2 hsrt (fun z => q (P1.mpr (And.intro z.2.1 (And.intro z.1 (by rw [← em]; exact z.2.2.2.1)))))]
                 exact ⟨rfl, hS, onlyX.rf⟩)
              | (have q := zB_eq0.mp h63
                 have f1 : hHeld S 0 = 2 := R1.mp (zB_ne0.mp h50)
                 have n2 : ¬ hHeld S 3 = 0 := fun z => (show ¬ bE 16 μ from zB_eq0.mp h39) (E2.mpr z)
                 rw [opSh_b (by omega) (by omega) (by rw [f1]; decide) n2 (by
                   by_cases z : hHeld S 3 = 2
                   · refine Or.inr (Or.inr (fun y => q (And.intro (R2.mpr z) ?_)))
                     exact (show μ.1 16 2 = _ from (xsh2 hS hok (show 3 < 6 by omega) z).1).trans (y.symm.trans (show μ.1 13 2 = _ from (xsh2 hS hok (show 0 < 6 by omega) f1).1).symm)
                   · exact Or.inr (Or.inl (xsh1 hok (by omega) n2 z)))]
                 exact ⟨rfl, hS, onlyX.rf⟩)
              | (have q : ¬ bR 13 μ := zB_eq0.mp h50
                 have n1 : ¬ hHeld S 0 = 0 := fun z => (show ¬ bE 13 μ from zB_eq0.mp h31) (E1.mpr z)
                 have n2 : ¬ hHeld S 3 = 0 := fun z => (show ¬ bE 16 μ from zB_eq0.mp h39) (E2.mpr z)
                 rw [opSh_b (by omega) (by omega) n1 n2 (Or.inl (xsh1 hok (by omega) n1 (fun z => q (R1.mpr z))))]
                 exact ⟨rfl, hS, onlyX.rf⟩)
              | (have q : bE 16 μ := zB_ne0.mp h39
                 rw [opSh_a (by omega) (by omega) (Or.inr (E2.mp q))]
                 exact ⟨rfl, hS, onlyX.rf⟩)
              | (have q : bE 13 μ := zB_ne0.mp h31
                 rw [opSh_a (by omega) (by omega) (Or.inl (E1.mp q))]
                 exact ⟨rfl, hS, onlyX.rf⟩)
          · refine zb X_shift_s80 rfl ?_
            refine zcallV X_shift_d86 k10_363 (by omega) (x_hasPlaces_3 _ _) rfl rfl rfl (Nat.le_of_ble_eq_true rfl) ?_
            rintro _ μx ⟨rfl, hx⟩
            rw [hx]
            clear hx μx
            refine z_ne X_shift_d89 (tgt := 95) rfl (fun h89 => ?_) (fun h89 => ?_)
            · have g1 := P1.mp (zB_ne0.mp h77)
              have g2 := P2.mp (zB_ne0.mp h89)
              have hall : 0 ≤ n ∧ 0 ≤ i ∧ 0 ≤ j ∧ i ≤ hSize S 0 - n ∧ j ≤ hSize S 3 - n := by
                exact ⟨g1.2.1, g1.1, g2.1, by rw [em]; exact g1.2.2, by rw [ew]; exact g2.2.2⟩
              rw [opSh_d (by omega) (by omega) f1 f2 hsrt hall]
              clear hall
              obtain ⟨N, hN, rfl⟩ := nI_of (Int32.not_lt.mpr g1.2.1)
              obtain ⟨x, hx, rfl⟩ := nI_of (Int32.not_lt.mpr g1.1)
              obtain ⟨y, hy, rfl⟩ := nI_of (Int32.not_lt.mpr g2.1)
              have k1 := (le_sub hx hm hN).mp g1.2.2
              have k2 := (le_sub hy hw hN).mp g2.2.2
              have cN : (nI N).toNatClampNeg = N := nI_clamp hN
              have cx : (nI x).toNatClampNeg = x := nI_clamp hx
              have cy : (nI y).toNatClampNeg = y := nI_clamp hy
              refine zb X_shift_s95 rfl ?_
              refine zcpL X_shift_d110 k10_366 (by omega) (Nat.le_of_ble_eq_true rfl) rfl rfl (nI_pos (by omega)) (nI_pos (by omega)) (nI_pos (by omega)) (by rw [cN, cx]; omega) (by rw [cN, cy]; omega) ?_
              refine zb X_shift_s113 rfl ?_
              refine z_ret X_shift_d115 rfl ?_
              first
                | (have f := fin_shift (s := 0) (p := 3) (a := x) (b := y) (N := N) hS (by omega) (by omega) (by omega)
                   rw [cN, cx, cy]
                   exact ⟨rfl, f.1, f.2⟩)
                | (have q : ¬ bP 16 j n μ := zB_eq0.mp h89
                   rw [opSh_c (by omega) (by omega) f1 f2 hsrt (fun z => q (P2.mpr (And.intro z.2.2.1 (And.intro z.1 (by rw [← ew]; exact z.2.2.2.2)))))]
                   exact ⟨rfl, hS, onlyX.rf⟩)
                | (have q : ¬ bP 13 i n μ := zB_eq0.mp h77
                   rw [opSh_c (by omega) (by omega) f1 f2 hsrt (fun z => q (P1.mpr (And.intro z.2.1 (And.intro z.1 (by rw [← em]; exact z.2.2.2.1)))))]
                   exact ⟨rfl, hS, onlyX.rf⟩)
                | (have q := zB_eq0.mp h63
                   have f1 : hHeld S 0 = 2 := R1.mp (zB_ne0.mp h50)
                   have n2 : ¬ hHeld S 3 = 0 := fun z => (show ¬ bE 16 μ from zB_eq0.mp h39) (E2.mpr z)
                   rw [opSh_b (by omega) (by omega) (by rw [f1]; decide) n2 (by
                     by_cases z : hHeld S 3 = 2
                     · refine Or.inr (Or.inr (fun y => q (And.intro (R2.mpr z) ?_)))
                       exact (show μ.1 16 2 = _ from (xsh2 hS hok (show 3 < 6 by omega) z).1).trans (y.symm.trans (show μ.1 13 2 = _ from (xsh2 hS hok (show 0 < 6 by omega) f1).1).symm)
                     · exact Or.inr (Or.inl (xsh1 hok (by omega) n2 z)))]
                   exact ⟨rfl, hS, onlyX.rf⟩)
                | (have q : ¬ bR 13 μ := zB_eq0.mp h50
                   have n1 : ¬ hHeld S 0 = 0 := fun z => (show ¬ bE 13 μ from zB_eq0.mp h31) (E1.mpr z)
                   have n2 : ¬ hHeld S 3 = 0 := fun z => (show ¬ bE 16 μ from zB_eq0.mp h39) (E2.mpr z)
                   rw [opSh_b (by omega) (by omega) n1 n2 (Or.inl (xsh1 hok (by omega) n1 (fun z => q (R1.mpr z))))]
                   exact ⟨rfl, hS, onlyX.rf⟩)
                | (have q : bE 16 μ := zB_ne0.mp h39
                   rw [opSh_a (by omega) (by omega) (Or.inr (E2.mp q))]
                   exact ⟨rfl, hS, onlyX.rf⟩)
                | (have q : bE 13 μ := zB_ne0.mp h31
                   rw [opSh_a (by omega) (by omega) (Or.inl (E1.mp q))]
                   exact ⟨rfl, hS, onlyX.rf⟩)
            · refine zb X_shift_s92 rfl ?_
              refine z_ret X_shift_d94 rfl ?_
              first
                | (have f := fin_shift (s := 0) (p := 3) (a := x) (b := y) (N := N) hS (by omega) (by omega) (by omega)
                   rw [cN, cx, cy]
                   exact ⟨rfl, f.1, f.2⟩)
                | (have q : ¬ bP 16 j n μ := zB_eq0.mp h89
                   rw [opSh_c (by omega) (by omega) f1 f2 hsrt (fun z => q (P2.mpr (And.intro z.2.2.1 (And.intro z.1 (by rw [← ew]; exact z.2.2.2.2)))))]
                   exact ⟨rfl, hS, onlyX.rf⟩)
                | (have q : ¬ bP 13 i n μ := zB_eq0.mp h77
                   rw [opSh_c (by omega) (by omega) f1 f2 hsrt (fun z => q (P1.mpr (And.intro z.2.1 (And.intro z.1 (by rw [← em]; exact z.2.2.2.1)))))]
                   exact ⟨rfl, hS, onlyX.rf⟩)
                | (have q := zB_eq0.mp h63
                   have f1 : hHeld S 0 = 2 := R1.mp (zB_ne0.mp h50)
                   have n2 : ¬ hHeld S 3 = 0 := fun z => (show ¬ bE 16 μ from zB_eq0.mp h39) (E2.mpr z)
                   rw [opSh_b (by omega) (by omega) (by rw [f1]; decide) n2 (by
                     by_cases z : hHeld S 3 = 2
                     · refine Or.inr (Or.inr (fun y => q (And.intro (R2.mpr z) ?_)))
                       exact (show μ.1 16 2 = _ from (xsh2 hS hok (show 3 < 6 by omega) z).1).trans (y.symm.trans (show μ.1 13 2 = _ from (xsh2 hS hok (show 0 < 6 by omega) f1).1).symm)
                     · exact Or.inr (Or.inl (xsh1 hok (by omega) n2 z)))]
                   exact ⟨rfl, hS, onlyX.rf⟩)
                | (have q : ¬ bR 13 μ := zB_eq0.mp h50
                   have n1 : ¬ hHeld S 0 = 0 := fun z => (show ¬ bE 13 μ from zB_eq0.mp h31) (E1.mpr z)
                   have n2 : ¬ hHeld S 3 = 0 := fun z => (show ¬ bE 16 μ from zB_eq0.mp h39) (E2.mpr z)
                   rw [opSh_b (by omega) (by omega) n1 n2 (Or.inl (xsh1 hok (by omega) n1 (fun z => q (R1.mpr z))))]
                   exact ⟨rfl, hS, onlyX.rf⟩)
                | (have q : bE 16 μ := zB_ne0.mp h39
                   rw [opSh_a (by omega) (by omega) (Or.inr (E2.mp q))]
                   exact ⟨rfl, hS, onlyX.rf⟩)
                | (have q : bE 13 μ := zB_ne0.mp h31
                   rw [opSh_a (by omega) (by omega) (Or.inl (E1.mp q))]
                   exact ⟨rfl, hS, onlyX.rf⟩)
        · refine zb X_shift_s66 rfl ?_
          refine z_ret X_shift_d68 rfl ?_
          first
            | (have f := fin_shift (s := 0) (p := 3) (a := x) (b := y) (N := N) hS (by omega) (by omega) (by omega)
               rw [cN, cx, cy]
               exact ⟨rfl, f.1, f.2⟩)
            | (have q : ¬ bP 16 j n μ := zB_eq0.mp h89
               rw [opSh_c (by omega) (by omega) f1 f2 hsrt (fun z => q (P2.mpr (And.intro z.2.2.1 (And.intro z.1 (by rw [← ew]; exact z.2.2.2.2)))))]
               exact ⟨rfl, hS, onlyX.rf⟩)
            | (have q : ¬ bP 13 i n μ := zB_eq0.mp h77
               rw [opSh_c (by omega) (by omega) f1 f2 hsrt (fun z => q (P1.mpr (And.intro z.2.1 (And.intro z.1 (by rw [← em]; exact z.2.2.2.1)))))]
               exact ⟨rfl, hS, onlyX.rf⟩)
            | (have q := zB_eq0.mp h63
               have f1 : hHeld S 0 = 2 := R1.mp (zB_ne0.mp h50)
               have n2 : ¬ hHeld S 3 = 0 := fun z => (show ¬ bE 16 μ from zB_eq0.mp h39) (E2.mpr z)
               rw [opSh_b (by omega) (by omega) (by rw [f1]; decide) n2 (by
                 by_cases z : hHeld S 3 = 2
                 · refine Or.inr (Or.inr (fun y => q (And.intro (R2.mpr z) ?_)))
                   exact (show μ.1 16 2 = _ from (xsh2 hS hok (show 3 < 6 by omega) z).1).trans (y.symm.trans (show μ.1 13 2 = _ from (xsh2 hS hok (show 0 < 6 by omega) f1).1).symm)
                 · exact Or.inr (Or.inl (xsh1 hok (by omega) n2 z)))]
               exact ⟨rfl, hS, onlyX.rf⟩)
            | (have q : ¬ bR 13 μ := zB_eq0.mp h50
               have n1 : ¬ hHeld S 0 = 0 := fun z => (show ¬ bE 13 μ from zB_eq0.mp h31) (E1.mpr z)
               have n2 : ¬ hHeld S 3 = 0 := fun z => (show ¬ bE 16 μ from zB_eq0.mp h39) (E2.mpr z)
               rw [opSh_b (by omega) (by omega) n1 n2 (Or.inl (xsh1 hok (by omega) n1 (fun z => q (R1.mpr z))))]
               exact ⟨rfl, hS, onlyX.rf⟩)
            | (have q : bE 16 μ := zB_ne0.mp h39
               rw [opSh_a (by omega) (by omega) (Or.inr (E2.mp q))]
               exact ⟨rfl, hS, onlyX.rf⟩)
            | (have q : bE 13 μ := zB_ne0.mp h31
               rw [opSh_a (by omega) (by omega) (Or.inl (E1.mp q))]
               exact ⟨rfl, hS, onlyX.rf⟩)
    · refine zb X_shift_s42 rfl ?_
      refine z_ret X_shift_d44 rfl ?_
      first
        | (have f := fin_shift (s := 0) (p := 3) (a := x) (b := y) (N := N) hS (by omega) (by omega) (by omega)
           rw [cN, cx, cy]
           exact ⟨rfl, f.1, f.2⟩)
        | (have q : ¬ bP 16 j n μ := zB_eq0.mp h89
           rw [opSh_c (by omega) (by omega) f1 f2 hsrt (fun z => q (P2.mpr (And.intro z.2.2.1 (And.intro z.1 (by rw [← ew]; exact z.2.2.2.2)))))]
           exact ⟨rfl, hS, onlyX.rf⟩)
        | (have q : ¬ bP 13 i n μ := zB_eq0.mp h77
           rw [opSh_c (by omega) (by omega) f1 f2 hsrt (fun z => q (P1.mpr (And.intro z.2.1 (And.intro z.1 (by rw [← em]; exact z.2.2.2.1)))))]
           exact ⟨rfl, hS, onlyX.rf⟩)
        | (have q := zB_eq0.mp h63
           have f1 : hHeld S 0 = 2 := R1.mp (zB_ne0.mp h50)
           have n2 : ¬ hHeld S 3 = 0 := fun z => (show ¬ bE 16 μ from zB_eq0.mp h39) (E2.mpr z)
           rw [opSh_b (by omega) (by omega) (by rw [f1]; decide) n2 (by
             by_cases z : hHeld S 3 = 2
             · refine Or.inr (Or.inr (fun y => q (And.intro (R2.mpr z) ?_)))
               exact (show μ.1 16 2 = _ from (xsh2 hS hok (show 3 < 6 by omega) z).1).trans (y.symm.trans (show μ.1 13 2 = _ from (xsh2 hS hok (show 0 < 6 by omega) f1).1).symm)
             · exact Or.inr (Or.inl (xsh1 hok (by omega) n2 z)))]
           exact ⟨rfl, hS, onlyX.rf⟩)
        | (have q : ¬ bR 13 μ := zB_eq0.mp h50
           have n1 : ¬ hHeld S 0 = 0 := fun z => (show ¬ bE 13 μ from zB_eq0.mp h31) (E1.mpr z)
           have n2 : ¬ hHeld S 3 = 0 := fun z => (show ¬ bE 16 μ from zB_eq0.mp h39) (E2.mpr z)
           rw [opSh_b (by omega) (by omega) n1 n2 (Or.inl (xsh1 hok (by omega) n1 (fun z => q (R1.mpr z))))]
           exact ⟨rfl, hS, onlyX.rf⟩)
        | (have q : bE 16 μ := zB_ne0.mp h39
           rw [opSh_a (by omega) (by omega) (Or.inr (E2.mp q))]
           exact ⟨rfl, hS, onlyX.rf⟩)
        | (have q : bE 13 μ := zB_ne0.mp h31
           rw [opSh_a (by omega) (by omega) (Or.inl (E1.mp q))]
           exact ⟨rfl, hS, onlyX.rf⟩)

set_option maxRecDepth 100000 in
set_option maxHeartbeats 4000000 in
theorem xs_shift_0_4 {g : zG} {d : Nat} {S : zS} {μ : zMem} {i j n : Int32} (hd : 2 ≤ d) (hS : xS S μ) (hok : okH S) : zM g d X_shift [.ref 1, .int (nI 0), .int i, .int (nI 4), .int j, .int n] μ (pO xS onlyX (opShift S (nI 0) i (nI 4) j n) μ) := by
  refine zM_of (by decide +kernel) rfl rfl (Nat.le_of_ble_eq_true rfl) rfl ?_
  obtain ⟨ho, h2, hT, hC, hD, hI, hA, hH⟩ := hS
  have hS : xS S μ := ⟨ho, h2, hT, hC, hD, hI, hA, hH⟩
  have hb := ho.b
  have hv := ho.v
  have hB6 := ho.b6
  have hV12 := ho.v12
  have hz : zq sX μ μ := zq.rf
  have E1 := xshE (s := 0) hS hok (by omega)
  have E2 := xshE (s := 4) hS hok (by omega)
  have R1 := xshR (s := 0) hS hok (by omega)
  have R2 := xshR (s := 4) hS hok (by omega)
  refine zb X_shift_s0 rfl ?_
  refine zcallV X_shift_d2 k10_93 (by omega) (x_shelf_0 (by omega)) rfl rfl rfl (Nat.le_of_ble_eq_true rfl) ?_
  rintro _ μx ⟨rfl, hx⟩
  rw [hx]
  clear hx μx
  refine zb X_shift_s5 rfl ?_
  refine zcallV X_shift_d9 k10_93 (by omega) (x_shelf_4 (by omega)) rfl rfl rfl (Nat.le_of_ble_eq_true rfl) ?_
  rintro _ μx ⟨rfl, hx⟩
  rw [hx]
  clear hx μx
  refine zb X_shift_s12 rfl ?_
  refine z_null X_shift_d16 ?_
  refine zb X_shift_s19 rfl ?_
  refine z_nonnull X_shift_d21 (tgt := 26) rfl ?_
  refine zb X_shift_s26 rfl ?_
  refine zcallV X_shift_d28 k10_97 (by omega) (x_isEmpty_0) rfl rfl rfl (Nat.le_of_ble_eq_true rfl) ?_
  rintro _ μx ⟨rfl, hx⟩
  rw [hx]
  clear hx μx
  refine z_ne X_shift_d31 (tgt := 42) rfl (fun h31 => ?_) (fun h31 => ?_)
  · refine zb X_shift_s42 rfl ?_
    refine z_ret X_shift_d44 rfl ?_
    first
      | (have f := fin_shift (s := 0) (p := 4) (a := x) (b := y) (N := N) hS (by omega) (by omega) (by omega)
         rw [cN, cx, cy]
         exact ⟨rfl, f.1, f.2⟩)
      | (have q : ¬ bP 17 j n μ := zB_eq0.mp h89
         rw [opSh_c (by omega) (by omega) f1 f2 hsrt (fun z => q (P2.mpr (And.intro z.2.2.1 (And.intro z.1 (by rw [← ew]; exact z.2.2.2.2)))))]
         exact ⟨rfl, hS, onlyX.rf⟩)
      | (have q : ¬ bP 13 i n μ := zB_eq0.mp h77
         rw [opSh_c (by omega) (by omega) f1 f2 hsrt (fun z => q (P1.mpr (And.intro z.2.1 (And.intro z.1 (by rw [← em]; exact z.2.2.2.1)))))]
         exact ⟨rfl, hS, onlyX.rf⟩)
      | (have q := zB_eq0.mp h63
         have f1 : hHeld S 0 = 2 := R1.mp (zB_ne0.mp h50)
         have n2 : ¬ hHeld S 4 = 0 := fun z => (show ¬ bE 17 μ from zB_eq0.mp h39) (E2.mpr z)
         rw [opSh_b (by omega) (by omega) (by rw [f1]; decide) n2 (by
           by_cases z : hHeld S 4 = 2
           · refine Or.inr (Or.inr (fun y => q (And.intro (R2.mpr z) ?_)))
             exact (show μ.1 17 2 = _ from (xsh2 hS hok (show 4 < 6 by omega) z).1).trans (y.symm.trans (show μ.1 13 2 = _ from (xsh2 hS hok (show 0 < 6 by omega) f1).1).symm)
           · exact Or.inr (Or.inl (xsh1 hok (by omega) n2 z)))]
         exact ⟨rfl, hS, onlyX.rf⟩)
      | (have q : ¬ bR 13 μ := zB_eq0.mp h50
         have n1 : ¬ hHeld S 0 = 0 := fun z => (show ¬ bE 13 μ from zB_eq0.mp h31) (E1.mpr z)
         have n2 : ¬ hHeld S 4 = 0 := fun z => (show ¬ bE 17 μ from zB_eq0.mp h39) (E2.mpr z)
         rw [opSh_b (by omega) (by omega) n1 n2 (Or.inl (xsh1 hok (by omega) n1 (fun z => q (R1.mpr z))))]
         exact ⟨rfl, hS, onlyX.rf⟩)
      | (have q : bE 17 μ := zB_ne0.mp h39
         rw [opSh_a (by omega) (by omega) (Or.inr (E2.mp q))]
         exact ⟨rfl, hS, onlyX.rf⟩)
      | (have q : bE 13 μ := zB_ne0.mp h31
         rw [opSh_a (by omega) (by omega) (Or.inl (E1.mp q))]
         exact ⟨rfl, hS, onlyX.rf⟩)
  · refine zb X_shift_s34 rfl ?_
    refine zcallV X_shift_d36 k10_97 (by omega) (x_isEmpty_4) rfl rfl rfl (Nat.le_of_ble_eq_true rfl) ?_
    rintro _ μx ⟨rfl, hx⟩
    rw [hx]
    clear hx μx
    refine z_eq X_shift_d39 (tgt := 45) rfl (fun h39 => ?_) (fun h39 => ?_)
    · refine zb X_shift_s45 rfl ?_
      refine zcallV X_shift_d47 k10_357 (by omega) (x_isRow_0) rfl rfl rfl (Nat.le_of_ble_eq_true rfl) ?_
      rintro _ μx ⟨rfl, hx⟩
      rw [hx]
      clear hx μx
      refine z_eq X_shift_d50 (tgt := 66) rfl (fun h50 => ?_) (fun h50 => ?_)
      · refine zb X_shift_s66 rfl ?_
        refine z_ret X_shift_d68 rfl ?_
        first
          | (have f := fin_shift (s := 0) (p := 4) (a := x) (b := y) (N := N) hS (by omega) (by omega) (by omega)
             rw [cN, cx, cy]
             exact ⟨rfl, f.1, f.2⟩)
          | (have q : ¬ bP 17 j n μ := zB_eq0.mp h89
             rw [opSh_c (by omega) (by omega) f1 f2 hsrt (fun z => q (P2.mpr (And.intro z.2.2.1 (And.intro z.1 (by rw [← ew]; exact z.2.2.2.2)))))]
             exact ⟨rfl, hS, onlyX.rf⟩)
          | (have q : ¬ bP 13 i n μ := zB_eq0.mp h77
             rw [opSh_c (by omega) (by omega) f1 f2 hsrt (fun z => q (P1.mpr (And.intro z.2.1 (And.intro z.1 (by rw [← em]; exact z.2.2.2.1)))))]
             exact ⟨rfl, hS, onlyX.rf⟩)
          | (have q := zB_eq0.mp h63
             have f1 : hHeld S 0 = 2 := R1.mp (zB_ne0.mp h50)
             have n2 : ¬ hHeld S 4 = 0 := fun z => (show ¬ bE 17 μ from zB_eq0.mp h39) (E2.mpr z)
             rw [opSh_b (by omega) (by omega) (by rw [f1]; decide) n2 (by
               by_cases z : hHeld S 4 = 2
               · refine Or.inr (Or.inr (fun y => q (And.intro (R2.mpr z) ?_)))
                 exact (show μ.1 17 2 = _ from (xsh2 hS hok (show 4 < 6 by omega) z).1).trans (y.symm.trans (show μ.1 13 2 = _ from (xsh2 hS hok (show 0 < 6 by omega) f1).1).symm)
               · exact Or.inr (Or.inl (xsh1 hok (by omega) n2 z)))]
             exact ⟨rfl, hS, onlyX.rf⟩)
          | (have q : ¬ bR 13 μ := zB_eq0.mp h50
             have n1 : ¬ hHeld S 0 = 0 := fun z => (show ¬ bE 13 μ from zB_eq0.mp h31) (E1.mpr z)
             have n2 : ¬ hHeld S 4 = 0 := fun z => (show ¬ bE 17 μ from zB_eq0.mp h39) (E2.mpr z)
             rw [opSh_b (by omega) (by omega) n1 n2 (Or.inl (xsh1 hok (by omega) n1 (fun z => q (R1.mpr z))))]
             exact ⟨rfl, hS, onlyX.rf⟩)
          | (have q : bE 17 μ := zB_ne0.mp h39
             rw [opSh_a (by omega) (by omega) (Or.inr (E2.mp q))]
             exact ⟨rfl, hS, onlyX.rf⟩)
          | (have q : bE 13 μ := zB_ne0.mp h31
             rw [opSh_a (by omega) (by omega) (Or.inl (E1.mp q))]
             exact ⟨rfl, hS, onlyX.rf⟩)
      · refine zb X_shift_s53 rfl ?_
        refine zcallV X_shift_d60 k10_101 (by omega) (x_isRowOf_4 _ (by omega)) rfl rfl rfl (Nat.le_of_ble_eq_true rfl) ?_
        rintro _ μx ⟨rfl, hx⟩
        rw [hx]
        clear hx μx
        refine z_ne X_shift_d63 (tgt := 69) rfl (fun h63 => ?_) (fun h63 => ?_)
        · have f1 : hHeld S 0 = 2 := R1.mp (zB_ne0.mp h50)
          have f2 : hHeld S 4 = 2 := R2.mp (zB_ne0.mp h63).1
          obtain ⟨a1, a2, m, hm, em⟩ := xsh2 hS hok (show 0 < 6 by omega) f1
          obtain ⟨b1, b2, w, hw, ew⟩ := xsh2 hS hok (show 4 < 6 by omega) f2
          have hsrt : hSort S 0 = hSort S 4 := a1.symm.trans ((zB_ne0.mp h63).2.symm.trans b1)
          have P1 := bPn (i := i) (n := n) hm (a2.trans em)
          have P2 := bPn (i := j) (n := n) hw (b2.trans ew)
          refine zb X_shift_s69 rfl ?_
          refine zcallV X_shift_d74 k10_363 (by omega) (x_hasPlaces_0 _ _) rfl rfl rfl (Nat.le_of_ble_eq_true rfl) ?_
          rintro _ μx ⟨rfl, hx⟩
          rw [hx]
          clear hx μx
          refine z_eq X_shift_d77 (tgt := 92) rfl (fun h77 => ?_) (fun h77 => ?_)
          · refine zb X_shift_s92 rfl ?_
            refine z_ret X_shift_d94 rfl ?_
            first
              | (have f := fin_shift (s := 0) (p := 4) (a := x) (b := y) (N := N) hS (by omega) (by omega) (by omega)
                 rw [cN, cx, cy]
                 exact ⟨rfl, f.1, f.2⟩)
              | (have q : ¬ bP 17 j n μ := zB_eq0.mp h89
                 rw [opSh_c (by omega) (by omega) f1 f2 hsrt (fun z => q (P2.mpr (And.intro z.2.2.1 (And.intro z.1 (by rw [← ew]; exact z.2.2.2.2)))))]
                 exact ⟨rfl, hS, onlyX.rf⟩)
              | (have q : ¬ bP 13 i n μ := zB_eq0.mp h77
                 rw [opSh_c (by omega) (by omega) f1 f2 hsrt (fun z => q (P1.mpr (And.intro z.2.1 (And.intro z.1 (by rw [← em]; exact z.2.2.2.1)))))]
                 exact ⟨rfl, hS, onlyX.rf⟩)
              | (have q := zB_eq0.mp h63
                 have f1 : hHeld S 0 = 2 := R1.mp (zB_ne0.mp h50)
                 have n2 : ¬ hHeld S 4 = 0 := fun z => (show ¬ bE 17 μ from zB_eq0.mp h39) (E2.mpr z)
                 rw [opSh_b (by omega) (by omega) (by rw [f1]; decide) n2 (by
                   by_cases z : hHeld S 4 = 2
                   · refine Or.inr (Or.inr (fun y => q (And.intro (R2.mpr z) ?_)))
                     exact (show μ.1 17 2 = _ from (xsh2 hS hok (show 4 < 6 by omega) z).1).trans (y.symm.trans (show μ.1 13 2 = _ from (xsh2 hS hok (show 0 < 6 by omega) f1).1).symm)
                   · exact Or.inr (Or.inl (xsh1 hok (by omega) n2 z)))]
                 exact ⟨rfl, hS, onlyX.rf⟩)
              | (have q : ¬ bR 13 μ := zB_eq0.mp h50
                 have n1 : ¬ hHeld S 0 = 0 := fun z => (show ¬ bE 13 μ from zB_eq0.mp h31) (E1.mpr z)
                 have n2 : ¬ hHeld S 4 = 0 := fun z => (show ¬ bE 17 μ from zB_eq0.mp h39) (E2.mpr z)
                 rw [opSh_b (by omega) (by omega) n1 n2 (Or.inl (xsh1 hok (by omega) n1 (fun z => q (R1.mpr z))))]
                 exact ⟨rfl, hS, onlyX.rf⟩)
              | (have q : bE 17 μ := zB_ne0.mp h39
                 rw [opSh_a (by omega) (by omega) (Or.inr (E2.mp q))]
                 exact ⟨rfl, hS, onlyX.rf⟩)
              | (have q : bE 13 μ := zB_ne0.mp h31
                 rw [opSh_a (by omega) (by omega) (Or.inl (E1.mp q))]
                 exact ⟨rfl, hS, onlyX.rf⟩)
          · refine zb X_shift_s80 rfl ?_
            refine zcallV X_shift_d86 k10_363 (by omega) (x_hasPlaces_4 _ _) rfl rfl rfl (Nat.le_of_ble_eq_true rfl) ?_
            rintro _ μx ⟨rfl, hx⟩
            rw [hx]
            clear hx μx
            refine z_ne X_shift_d89 (tgt := 95) rfl (fun h89 => ?_) (fun h89 => ?_)
            · have g1 := P1.mp (zB_ne0.mp h77)
              have g2 := P2.mp (zB_ne0.mp h89)
              have hall : 0 ≤ n ∧ 0 ≤ i ∧ 0 ≤ j ∧ i ≤ hSize S 0 - n ∧ j ≤ hSize S 4 - n := by
                exact ⟨g1.2.1, g1.1, g2.1, by rw [em]; exact g1.2.2, by rw [ew]; exact g2.2.2⟩
              rw [opSh_d (by omega) (by omega) f1 f2 hsrt hall]
              clear hall
              obtain ⟨N, hN, rfl⟩ := nI_of (Int32.not_lt.mpr g1.2.1)
              obtain ⟨x, hx, rfl⟩ := nI_of (Int32.not_lt.mpr g1.1)
              obtain ⟨y, hy, rfl⟩ := nI_of (Int32.not_lt.mpr g2.1)
              have k1 := (le_sub hx hm hN).mp g1.2.2
              have k2 := (le_sub hy hw hN).mp g2.2.2
              have cN : (nI N).toNatClampNeg = N := nI_clamp hN
              have cx : (nI x).toNatClampNeg = x := nI_clamp hx
              have cy : (nI y).toNatClampNeg = y := nI_clamp hy
              refine zb X_shift_s95 rfl ?_
              refine zcpL X_shift_d110 k10_366 (by omega) (Nat.le_of_ble_eq_true rfl) rfl rfl (nI_pos (by omega)) (nI_pos (by omega)) (nI_pos (by omega)) (by rw [cN, cx]; omega) (by rw [cN, cy]; omega) ?_
              refine zb X_shift_s113 rfl ?_
              refine z_ret X_shift_d115 rfl ?_
              first
                | (have f := fin_shift (s := 0) (p := 4) (a := x) (b := y) (N := N) hS (by omega) (by omega) (by omega)
                   rw [cN, cx, cy]
                   exact ⟨rfl, f.1, f.2⟩)
                | (have q : ¬ bP 17 j n μ := zB_eq0.mp h89
                   rw [opSh_c (by omega) (by omega) f1 f2 hsrt (fun z => q (P2.mpr (And.intro z.2.2.1 (And.intro z.1 (by rw [← ew]; exact z.2.2.2.2)))))]
                   exact ⟨rfl, hS, onlyX.rf⟩)
                | (have q : ¬ bP 13 i n μ := zB_eq0.mp h77
                   rw [opSh_c (by omega) (by omega) f1 f2 hsrt (fun z => q (P1.mpr (And.intro z.2.1 (And.intro z.1 (by rw [← em]; exact z.2.2.2.1)))))]
                   exact ⟨rfl, hS, onlyX.rf⟩)
                | (have q := zB_eq0.mp h63
                   have f1 : hHeld S 0 = 2 := R1.mp (zB_ne0.mp h50)
                   have n2 : ¬ hHeld S 4 = 0 := fun z => (show ¬ bE 17 μ from zB_eq0.mp h39) (E2.mpr z)
                   rw [opSh_b (by omega) (by omega) (by rw [f1]; decide) n2 (by
                     by_cases z : hHeld S 4 = 2
                     · refine Or.inr (Or.inr (fun y => q (And.intro (R2.mpr z) ?_)))
                       exact (show μ.1 17 2 = _ from (xsh2 hS hok (show 4 < 6 by omega) z).1).trans (y.symm.trans (show μ.1 13 2 = _ from (xsh2 hS hok (show 0 < 6 by omega) f1).1).symm)
                     · exact Or.inr (Or.inl (xsh1 hok (by omega) n2 z)))]
                   exact ⟨rfl, hS, onlyX.rf⟩)
                | (have q : ¬ bR 13 μ := zB_eq0.mp h50
                   have n1 : ¬ hHeld S 0 = 0 := fun z => (show ¬ bE 13 μ from zB_eq0.mp h31) (E1.mpr z)
                   have n2 : ¬ hHeld S 4 = 0 := fun z => (show ¬ bE 17 μ from zB_eq0.mp h39) (E2.mpr z)
                   rw [opSh_b (by omega) (by omega) n1 n2 (Or.inl (xsh1 hok (by omega) n1 (fun z => q (R1.mpr z))))]
                   exact ⟨rfl, hS, onlyX.rf⟩)
                | (have q : bE 17 μ := zB_ne0.mp h39
                   rw [opSh_a (by omega) (by omega) (Or.inr (E2.mp q))]
                   exact ⟨rfl, hS, onlyX.rf⟩)
                | (have q : bE 13 μ := zB_ne0.mp h31
                   rw [opSh_a (by omega) (by omega) (Or.inl (E1.mp q))]
                   exact ⟨rfl, hS, onlyX.rf⟩)
            · refine zb X_shift_s92 rfl ?_
              refine z_ret X_shift_d94 rfl ?_
              first
                | (have f := fin_shift (s := 0) (p := 4) (a := x) (b := y) (N := N) hS (by omega) (by omega) (by omega)
                   rw [cN, cx, cy]
                   exact ⟨rfl, f.1, f.2⟩)
                | (have q : ¬ bP 17 j n μ := zB_eq0.mp h89
                   rw [opSh_c (by omega) (by omega) f1 f2 hsrt (fun z => q (P2.mpr (And.intro z.2.2.1 (And.intro z.1 (by rw [← ew]; exact z.2.2.2.2)))))]
                   exact ⟨rfl, hS, onlyX.rf⟩)
                | (have q : ¬ bP 13 i n μ := zB_eq0.mp h77
                   rw [opSh_c (by omega) (by omega) f1 f2 hsrt (fun z => q (P1.mpr (And.intro z.2.1 (And.intro z.1 (by rw [← em]; exact z.2.2.2.1)))))]
                   exact ⟨rfl, hS, onlyX.rf⟩)
                | (have q := zB_eq0.mp h63
                   have f1 : hHeld S 0 = 2 := R1.mp (zB_ne0.mp h50)
                   have n2 : ¬ hHeld S 4 = 0 := fun z => (show ¬ bE 17 μ from zB_eq0.mp h39) (E2.mpr z)
                   rw [opSh_b (by omega) (by omega) (by rw [f1]; decide) n2 (by
                     by_cases z : hHeld S 4 = 2
                     · refine Or.inr (Or.inr (fun y => q (And.intro (R2.mpr z) ?_)))
                       exact (show μ.1 17 2 = _ from (xsh2 hS hok (show 4 < 6 by omega) z).1).trans (y.symm.trans (show μ.1 13 2 = _ from (xsh2 hS hok (show 0 < 6 by omega) f1).1).symm)
                     · exact Or.inr (Or.inl (xsh1 hok (by omega) n2 z)))]
                   exact ⟨rfl, hS, onlyX.rf⟩)
                | (have q : ¬ bR 13 μ := zB_eq0.mp h50
                   have n1 : ¬ hHeld S 0 = 0 := fun z => (show ¬ bE 13 μ from zB_eq0.mp h31) (E1.mpr z)
                   have n2 : ¬ hHeld S 4 = 0 := fun z => (show ¬ bE 17 μ from zB_eq0.mp h39) (E2.mpr z)
                   rw [opSh_b (by omega) (by omega) n1 n2 (Or.inl (xsh1 hok (by omega) n1 (fun z => q (R1.mpr z))))]
                   exact ⟨rfl, hS, onlyX.rf⟩)
                | (have q : bE 17 μ := zB_ne0.mp h39
                   rw [opSh_a (by omega) (by omega) (Or.inr (E2.mp q))]
                   exact ⟨rfl, hS, onlyX.rf⟩)
                | (have q : bE 13 μ := zB_ne0.mp h31
                   rw [opSh_a (by omega) (by omega) (Or.inl (E1.mp q))]
                   exact ⟨rfl, hS, onlyX.rf⟩)
        · refine zb X_shift_s66 rfl ?_
          refine z_ret X_shift_d68 rfl ?_
          first
            | (have f := fin_shift (s := 0) (p := 4) (a := x) (b := y) (N := N) hS (by omega) (by omega) (by omega)
               rw [cN, cx, cy]
               exact ⟨rfl, f.1, f.2⟩)
            | (have q : ¬ bP 17 j n μ := zB_eq0.mp h89
               rw [opSh_c (by omega) (by omega) f1 f2 hsrt (fun z => q (P2.mpr (And.intro z.2.2.1 (And.intro z.1 (by rw [← ew]; exact z.2.2.2.2)))))]
               exact ⟨rfl, hS, onlyX.rf⟩)
            | (have q : ¬ bP 13 i n μ := zB_eq0.mp h77
               rw [opSh_c (by omega) (by omega) f1 f2 hsrt (fun z => q (P1.mpr (And.intro z.2.1 (And.intro z.1 (by rw [← em]; exact z.2.2.2.1)))))]
               exact ⟨rfl, hS, onlyX.rf⟩)
            | (have q := zB_eq0.mp h63
               have f1 : hHeld S 0 = 2 := R1.mp (zB_ne0.mp h50)
               have n2 : ¬ hHeld S 4 = 0 := fun z => (show ¬ bE 17 μ from zB_eq0.mp h39) (E2.mpr z)
               rw [opSh_b (by omega) (by omega) (by rw [f1]; decide) n2 (by
                 by_cases z : hHeld S 4 = 2
                 · refine Or.inr (Or.inr (fun y => q (And.intro (R2.mpr z) ?_)))
                   exact (show μ.1 17 2 = _ from (xsh2 hS hok (show 4 < 6 by omega) z).1).trans (y.symm.trans (show μ.1 13 2 = _ from (xsh2 hS hok (show 0 < 6 by omega) f1).1).symm)
                 · exact Or.inr (Or.inl (xsh1 hok (by omega) n2 z)))]
               exact ⟨rfl, hS, onlyX.rf⟩)
            | (have q : ¬ bR 13 μ := zB_eq0.mp h50
               have n1 : ¬ hHeld S 0 = 0 := fun z => (show ¬ bE 13 μ from zB_eq0.mp h31) (E1.mpr z)
               have n2 : ¬ hHeld S 4 = 0 := fun z => (show ¬ bE 17 μ from zB_eq0.mp h39) (E2.mpr z)
               rw [opSh_b (by omega) (by omega) n1 n2 (Or.inl (xsh1 hok (by omega) n1 (fun z => q (R1.mpr z))))]
               exact ⟨rfl, hS, onlyX.rf⟩)
            | (have q : bE 17 μ := zB_ne0.mp h39
               rw [opSh_a (by omega) (by omega) (Or.inr (E2.mp q))]
               exact ⟨rfl, hS, onlyX.rf⟩)
            | (have q : bE 13 μ := zB_ne0.mp h31
               rw [opSh_a (by omega) (by omega) (Or.inl (E1.mp q))]
               exact ⟨rfl, hS, onlyX.rf⟩)
    · refine zb X_shift_s42 rfl ?_
      refine z_ret X_shift_d44 rfl ?_
      first
        | (have f := fin_shift (s := 0) (p := 4) (a := x) (b := y) (N := N) hS (by omega) (by omega) (by omega)
           rw [cN, cx, cy]
           exact ⟨rfl, f.1, f.2⟩)
        | (have q : ¬ bP 17 j n μ := zB_eq0.mp h89
           rw [opSh_c (by omega) (by omega) f1 f2 hsrt (fun z => q (P2.mpr (And.intro z.2.2.1 (And.intro z.1 (by rw [← ew]; exact z.2.2.2.2)))))]
           exact ⟨rfl, hS, onlyX.rf⟩)
        | (have q : ¬ bP 13 i n μ := zB_eq0.mp h77
           rw [opSh_c (by omega) (by omega) f1 f2 hsrt (fun z => q (P1.mpr (And.intro z.2.1 (And.intro z.1 (by rw [← em]; exact z.2.2.2.1)))))]
           exact ⟨rfl, hS, onlyX.rf⟩)
        | (have q := zB_eq0.mp h63
           have f1 : hHeld S 0 = 2 := R1.mp (zB_ne0.mp h50)
           have n2 : ¬ hHeld S 4 = 0 := fun z => (show ¬ bE 17 μ from zB_eq0.mp h39) (E2.mpr z)
           rw [opSh_b (by omega) (by omega) (by rw [f1]; decide) n2 (by
             by_cases z : hHeld S 4 = 2
             · refine Or.inr (Or.inr (fun y => q (And.intro (R2.mpr z) ?_)))
               exact (show μ.1 17 2 = _ from (xsh2 hS hok (show 4 < 6 by omega) z).1).trans (y.symm.trans (show μ.1 13 2 = _ from (xsh2 hS hok (show 0 < 6 by omega) f1).1).symm)
             · exact Or.inr (Or.inl (xsh1 hok (by omega) n2 z)))]
           exact ⟨rfl, hS, onlyX.rf⟩)
        | (have q : ¬ bR 13 μ := zB_eq0.mp h50
           have n1 : ¬ hHeld S 0 = 0 := fun z => (show ¬ bE 13 μ from zB_eq0.mp h31) (E1.mpr z)
           have n2 : ¬ hHeld S 4 = 0 := fun z => (show ¬ bE 17 μ from zB_eq0.mp h39) (E2.mpr z)
           rw [opSh_b (by omega) (by omega) n1 n2 (Or.inl (xsh1 hok (by omega) n1 (fun z => q (R1.mpr z))))]
           exact ⟨rfl, hS, onlyX.rf⟩)
        | (have q : bE 17 μ := zB_ne0.mp h39
           rw [opSh_a (by omega) (by omega) (Or.inr (E2.mp q))]
           exact ⟨rfl, hS, onlyX.rf⟩)
        | (have q : bE 13 μ := zB_ne0.mp h31
           rw [opSh_a (by omega) (by omega) (Or.inl (E1.mp q))]
           exact ⟨rfl, hS, onlyX.rf⟩)

set_option maxRecDepth 100000 in
set_option maxHeartbeats 4000000 in
theorem xs_shift_0_5 {g : zG} {d : Nat} {S : zS} {μ : zMem} {i j n : Int32} (hd : 2 ≤ d) (hS : xS S μ) (hok : okH S) : zM g d X_shift [.ref 1, .int (nI 0), .int i, .int (nI 5), .int j, .int n] μ (pO xS onlyX (opShift S (nI 0) i (nI 5) j n) μ) := by
  refine zM_of (by decide +kernel) rfl rfl (Nat.le_of_ble_eq_true rfl) rfl ?_
  obtain ⟨ho, h2, hT, hC, hD, hI, hA, hH⟩ := hS
  have hS : xS S μ := ⟨ho, h2, hT, hC, hD, hI, hA, hH⟩
  have hb := ho.b
  have hv := ho.v
  have hB6 := ho.b6
  have hV12 := ho.v12
  have hz : zq sX μ μ := zq.rf
  have E1 := xshE (s := 0) hS hok (by omega)
  have E2 := xshE (s := 5) hS hok (by omega)
  have R1 := xshR (s := 0) hS hok (by omega)
  have R2 := xshR (s := 5) hS hok (by omega)
  refine zb X_shift_s0 rfl ?_
  refine zcallV X_shift_d2 k10_93 (by omega) (x_shelf_0 (by omega)) rfl rfl rfl (Nat.le_of_ble_eq_true rfl) ?_
  rintro _ μx ⟨rfl, hx⟩
  rw [hx]
  clear hx μx
  refine zb X_shift_s5 rfl ?_
  refine zcallV X_shift_d9 k10_93 (by omega) (x_shelf_5 (by omega)) rfl rfl rfl (Nat.le_of_ble_eq_true rfl) ?_
  rintro _ μx ⟨rfl, hx⟩
  rw [hx]
  clear hx μx
  refine zb X_shift_s12 rfl ?_
  refine z_null X_shift_d16 ?_
  refine zb X_shift_s19 rfl ?_
  refine z_nonnull X_shift_d21 (tgt := 26) rfl ?_
  refine zb X_shift_s26 rfl ?_
  refine zcallV X_shift_d28 k10_97 (by omega) (x_isEmpty_0) rfl rfl rfl (Nat.le_of_ble_eq_true rfl) ?_
  rintro _ μx ⟨rfl, hx⟩
  rw [hx]
  clear hx μx
  refine z_ne X_shift_d31 (tgt := 42) rfl (fun h31 => ?_) (fun h31 => ?_)
  · refine zb X_shift_s42 rfl ?_
    refine z_ret X_shift_d44 rfl ?_
    first
      | (have f := fin_shift (s := 0) (p := 5) (a := x) (b := y) (N := N) hS (by omega) (by omega) (by omega)
         rw [cN, cx, cy]
         exact ⟨rfl, f.1, f.2⟩)
      | (have q : ¬ bP 18 j n μ := zB_eq0.mp h89
         rw [opSh_c (by omega) (by omega) f1 f2 hsrt (fun z => q (P2.mpr (And.intro z.2.2.1 (And.intro z.1 (by rw [← ew]; exact z.2.2.2.2)))))]
         exact ⟨rfl, hS, onlyX.rf⟩)
      | (have q : ¬ bP 13 i n μ := zB_eq0.mp h77
         rw [opSh_c (by omega) (by omega) f1 f2 hsrt (fun z => q (P1.mpr (And.intro z.2.1 (And.intro z.1 (by rw [← em]; exact z.2.2.2.1)))))]
         exact ⟨rfl, hS, onlyX.rf⟩)
      | (have q := zB_eq0.mp h63
         have f1 : hHeld S 0 = 2 := R1.mp (zB_ne0.mp h50)
         have n2 : ¬ hHeld S 5 = 0 := fun z => (show ¬ bE 18 μ from zB_eq0.mp h39) (E2.mpr z)
         rw [opSh_b (by omega) (by omega) (by rw [f1]; decide) n2 (by
           by_cases z : hHeld S 5 = 2
           · refine Or.inr (Or.inr (fun y => q (And.intro (R2.mpr z) ?_)))
             exact (show μ.1 18 2 = _ from (xsh2 hS hok (show 5 < 6 by omega) z).1).trans (y.symm.trans (show μ.1 13 2 = _ from (xsh2 hS hok (show 0 < 6 by omega) f1).1).symm)
           · exact Or.inr (Or.inl (xsh1 hok (by omega) n2 z)))]
         exact ⟨rfl, hS, onlyX.rf⟩)
      | (have q : ¬ bR 13 μ := zB_eq0.mp h50
         have n1 : ¬ hHeld S 0 = 0 := fun z => (show ¬ bE 13 μ from zB_eq0.mp h31) (E1.mpr z)
         have n2 : ¬ hHeld S 5 = 0 := fun z => (show ¬ bE 18 μ from zB_eq0.mp h39) (E2.mpr z)
         rw [opSh_b (by omega) (by omega) n1 n2 (Or.inl (xsh1 hok (by omega) n1 (fun z => q (R1.mpr z))))]
         exact ⟨rfl, hS, onlyX.rf⟩)
      | (have q : bE 18 μ := zB_ne0.mp h39
         rw [opSh_a (by omega) (by omega) (Or.inr (E2.mp q))]
         exact ⟨rfl, hS, onlyX.rf⟩)
      | (have q : bE 13 μ := zB_ne0.mp h31
         rw [opSh_a (by omega) (by omega) (Or.inl (E1.mp q))]
         exact ⟨rfl, hS, onlyX.rf⟩)
  · refine zb X_shift_s34 rfl ?_
    refine zcallV X_shift_d36 k10_97 (by omega) (x_isEmpty_5) rfl rfl rfl (Nat.le_of_ble_eq_true rfl) ?_
    rintro _ μx ⟨rfl, hx⟩
    rw [hx]
    clear hx μx
    refine z_eq X_shift_d39 (tgt := 45) rfl (fun h39 => ?_) (fun h39 => ?_)
    · refine zb X_shift_s45 rfl ?_
      refine zcallV X_shift_d47 k10_357 (by omega) (x_isRow_0) rfl rfl rfl (Nat.le_of_ble_eq_true rfl) ?_
      rintro _ μx ⟨rfl, hx⟩
      rw [hx]
      clear hx μx
      refine z_eq X_shift_d50 (tgt := 66) rfl (fun h50 => ?_) (fun h50 => ?_)
      · refine zb X_shift_s66 rfl ?_
        refine z_ret X_shift_d68 rfl ?_
        first
          | (have f := fin_shift (s := 0) (p := 5) (a := x) (b := y) (N := N) hS (by omega) (by omega) (by omega)
             rw [cN, cx, cy]
             exact ⟨rfl, f.1, f.2⟩)
          | (have q : ¬ bP 18 j n μ := zB_eq0.mp h89
             rw [opSh_c (by omega) (by omega) f1 f2 hsrt (fun z => q (P2.mpr (And.intro z.2.2.1 (And.intro z.1 (by rw [← ew]; exact z.2.2.2.2)))))]
             exact ⟨rfl, hS, onlyX.rf⟩)
          | (have q : ¬ bP 13 i n μ := zB_eq0.mp h77
             rw [opSh_c (by omega) (by omega) f1 f2 hsrt (fun z => q (P1.mpr (And.intro z.2.1 (And.intro z.1 (by rw [← em]; exact z.2.2.2.1)))))]
             exact ⟨rfl, hS, onlyX.rf⟩)
          | (have q := zB_eq0.mp h63
             have f1 : hHeld S 0 = 2 := R1.mp (zB_ne0.mp h50)
             have n2 : ¬ hHeld S 5 = 0 := fun z => (show ¬ bE 18 μ from zB_eq0.mp h39) (E2.mpr z)
             rw [opSh_b (by omega) (by omega) (by rw [f1]; decide) n2 (by
               by_cases z : hHeld S 5 = 2
               · refine Or.inr (Or.inr (fun y => q (And.intro (R2.mpr z) ?_)))
                 exact (show μ.1 18 2 = _ from (xsh2 hS hok (show 5 < 6 by omega) z).1).trans (y.symm.trans (show μ.1 13 2 = _ from (xsh2 hS hok (show 0 < 6 by omega) f1).1).symm)
               · exact Or.inr (Or.inl (xsh1 hok (by omega) n2 z)))]
             exact ⟨rfl, hS, onlyX.rf⟩)
          | (have q : ¬ bR 13 μ := zB_eq0.mp h50
             have n1 : ¬ hHeld S 0 = 0 := fun z => (show ¬ bE 13 μ from zB_eq0.mp h31) (E1.mpr z)
             have n2 : ¬ hHeld S 5 = 0 := fun z => (show ¬ bE 18 μ from zB_eq0.mp h39) (E2.mpr z)
             rw [opSh_b (by omega) (by omega) n1 n2 (Or.inl (xsh1 hok (by omega) n1 (fun z => q (R1.mpr z))))]
             exact ⟨rfl, hS, onlyX.rf⟩)
          | (have q : bE 18 μ := zB_ne0.mp h39
             rw [opSh_a (by omega) (by omega) (Or.inr (E2.mp q))]
             exact ⟨rfl, hS, onlyX.rf⟩)
          | (have q : bE 13 μ := zB_ne0.mp h31
             rw [opSh_a (by omega) (by omega) (Or.inl (E1.mp q))]
             exact ⟨rfl, hS, onlyX.rf⟩)
      · refine zb X_shift_s53 rfl ?_
        refine zcallV X_shift_d60 k10_101 (by omega) (x_isRowOf_5 _ (by omega)) rfl rfl rfl (Nat.le_of_ble_eq_true rfl) ?_
        rintro _ μx ⟨rfl, hx⟩
        rw [hx]
        clear hx μx
        refine z_ne X_shift_d63 (tgt := 69) rfl (fun h63 => ?_) (fun h63 => ?_)
        · have f1 : hHeld S 0 = 2 := R1.mp (zB_ne0.mp h50)
          have f2 : hHeld S 5 = 2 := R2.mp (zB_ne0.mp h63).1
          obtain ⟨a1, a2, m, hm, em⟩ := xsh2 hS hok (show 0 < 6 by omega) f1
          obtain ⟨b1, b2, w, hw, ew⟩ := xsh2 hS hok (show 5 < 6 by omega) f2
          have hsrt : hSort S 0 = hSort S 5 := a1.symm.trans ((zB_ne0.mp h63).2.symm.trans b1)
          have P1 := bPn (i := i) (n := n) hm (a2.trans em)
          have P2 := bPn (i := j) (n := n) hw (b2.trans ew)
          refine zb X_shift_s69 rfl ?_
          refine zcallV X_shift_d74 k10_363 (by omega) (x_hasPlaces_0 _ _) rfl rfl rfl (Nat.le_of_ble_eq_true rfl) ?_
          rintro _ μx ⟨rfl, hx⟩
          rw [hx]
          clear hx μx
          refine z_eq X_shift_d77 (tgt := 92) rfl (fun h77 => ?_) (fun h77 => ?_)
          · refine zb X_shift_s92 rfl ?_
            refine z_ret X_shift_d94 rfl ?_
            first
              | (have f := fin_shift (s := 0) (p := 5) (a := x) (b := y) (N := N) hS (by omega) (by omega) (by omega)
                 rw [cN, cx, cy]
                 exact ⟨rfl, f.1, f.2⟩)
              | (have q : ¬ bP 18 j n μ := zB_eq0.mp h89
                 rw [opSh_c (by omega) (by omega) f1 f2 hsrt (fun z => q (P2.mpr (And.intro z.2.2.1 (And.intro z.1 (by rw [← ew]; exact z.2.2.2.2)))))]
                 exact ⟨rfl, hS, onlyX.rf⟩)
              | (have q : ¬ bP 13 i n μ := zB_eq0.mp h77
                 rw [opSh_c (by omega) (by omega) f1 f2 hsrt (fun z => q (P1.mpr (And.intro z.2.1 (And.intro z.1 (by rw [← em]; exact z.2.2.2.1)))))]
                 exact ⟨rfl, hS, onlyX.rf⟩)
              | (have q := zB_eq0.mp h63
                 have f1 : hHeld S 0 = 2 := R1.mp (zB_ne0.mp h50)
                 have n2 : ¬ hHeld S 5 = 0 := fun z => (show ¬ bE 18 μ from zB_eq0.mp h39) (E2.mpr z)
                 rw [opSh_b (by omega) (by omega) (by rw [f1]; decide) n2 (by
                   by_cases z : hHeld S 5 = 2
                   · refine Or.inr (Or.inr (fun y => q (And.intro (R2.mpr z) ?_)))
                     exact (show μ.1 18 2 = _ from (xsh2 hS hok (show 5 < 6 by omega) z).1).trans (y.symm.trans (show μ.1 13 2 = _ from (xsh2 hS hok (show 0 < 6 by omega) f1).1).symm)
                   · exact Or.inr (Or.inl (xsh1 hok (by omega) n2 z)))]
                 exact ⟨rfl, hS, onlyX.rf⟩)
              | (have q : ¬ bR 13 μ := zB_eq0.mp h50
                 have n1 : ¬ hHeld S 0 = 0 := fun z => (show ¬ bE 13 μ from zB_eq0.mp h31) (E1.mpr z)
                 have n2 : ¬ hHeld S 5 = 0 := fun z => (show ¬ bE 18 μ from zB_eq0.mp h39) (E2.mpr z)
                 rw [opSh_b (by omega) (by omega) n1 n2 (Or.inl (xsh1 hok (by omega) n1 (fun z => q (R1.mpr z))))]
                 exact ⟨rfl, hS, onlyX.rf⟩)
              | (have q : bE 18 μ := zB_ne0.mp h39
                 rw [opSh_a (by omega) (by omega) (Or.inr (E2.mp q))]
                 exact ⟨rfl, hS, onlyX.rf⟩)
              | (have q : bE 13 μ := zB_ne0.mp h31
                 rw [opSh_a (by omega) (by omega) (Or.inl (E1.mp q))]
                 exact ⟨rfl, hS, onlyX.rf⟩)
          · refine zb X_shift_s80 rfl ?_
            refine zcallV X_shift_d86 k10_363 (by omega) (x_hasPlaces_5 _ _) rfl rfl rfl (Nat.le_of_ble_eq_true rfl) ?_
            rintro _ μx ⟨rfl, hx⟩
            rw [hx]
            clear hx μx
            refine z_ne X_shift_d89 (tgt := 95) rfl (fun h89 => ?_) (fun h89 => ?_)
            · have g1 := P1.mp (zB_ne0.mp h77)
              have g2 := P2.mp (zB_ne0.mp h89)
              have hall : 0 ≤ n ∧ 0 ≤ i ∧ 0 ≤ j ∧ i ≤ hSize S 0 - n ∧ j ≤ hSize S 5 - n := by
                exact ⟨g1.2.1, g1.1, g2.1, by rw [em]; exact g1.2.2, by rw [ew]; exact g2.2.2⟩
              rw [opSh_d (by omega) (by omega) f1 f2 hsrt hall]
              clear hall
              obtain ⟨N, hN, rfl⟩ := nI_of (Int32.not_lt.mpr g1.2.1)
              obtain ⟨x, hx, rfl⟩ := nI_of (Int32.not_lt.mpr g1.1)
              obtain ⟨y, hy, rfl⟩ := nI_of (Int32.not_lt.mpr g2.1)
              have k1 := (le_sub hx hm hN).mp g1.2.2
              have k2 := (le_sub hy hw hN).mp g2.2.2
              have cN : (nI N).toNatClampNeg = N := nI_clamp hN
              have cx : (nI x).toNatClampNeg = x := nI_clamp hx
              have cy : (nI y).toNatClampNeg = y := nI_clamp hy
              refine zb X_shift_s95 rfl ?_
              refine zcpL X_shift_d110 k10_366 (by omega) (Nat.le_of_ble_eq_true rfl) rfl rfl (nI_pos (by omega)) (nI_pos (by omega)) (nI_pos (by omega)) (by rw [cN, cx]; omega) (by rw [cN, cy]; omega) ?_
              refine zb X_shift_s113 rfl ?_
              refine z_ret X_shift_d115 rfl ?_
              first
                | (have f := fin_shift (s := 0) (p := 5) (a := x) (b := y) (N := N) hS (by omega) (by omega) (by omega)
                   rw [cN, cx, cy]
                   exact ⟨rfl, f.1, f.2⟩)
                | (have q : ¬ bP 18 j n μ := zB_eq0.mp h89
                   rw [opSh_c (by omega) (by omega) f1 f2 hsrt (fun z => q (P2.mpr (And.intro z.2.2.1 (And.intro z.1 (by rw [← ew]; exact z.2.2.2.2)))))]
                   exact ⟨rfl, hS, onlyX.rf⟩)
                | (have q : ¬ bP 13 i n μ := zB_eq0.mp h77
                   rw [opSh_c (by omega) (by omega) f1 f2 hsrt (fun z => q (P1.mpr (And.intro z.2.1 (And.intro z.1 (by rw [← em]; exact z.2.2.2.1)))))]
                   exact ⟨rfl, hS, onlyX.rf⟩)
                | (have q := zB_eq0.mp h63
                   have f1 : hHeld S 0 = 2 := R1.mp (zB_ne0.mp h50)
                   have n2 : ¬ hHeld S 5 = 0 := fun z => (show ¬ bE 18 μ from zB_eq0.mp h39) (E2.mpr z)
                   rw [opSh_b (by omega) (by omega) (by rw [f1]; decide) n2 (by
                     by_cases z : hHeld S 5 = 2
                     · refine Or.inr (Or.inr (fun y => q (And.intro (R2.mpr z) ?_)))
                       exact (show μ.1 18 2 = _ from (xsh2 hS hok (show 5 < 6 by omega) z).1).trans (y.symm.trans (show μ.1 13 2 = _ from (xsh2 hS hok (show 0 < 6 by omega) f1).1).symm)
                     · exact Or.inr (Or.inl (xsh1 hok (by omega) n2 z)))]
                   exact ⟨rfl, hS, onlyX.rf⟩)
                | (have q : ¬ bR 13 μ := zB_eq0.mp h50
                   have n1 : ¬ hHeld S 0 = 0 := fun z => (show ¬ bE 13 μ from zB_eq0.mp h31) (E1.mpr z)
                   have n2 : ¬ hHeld S 5 = 0 := fun z => (show ¬ bE 18 μ from zB_eq0.mp h39) (E2.mpr z)
                   rw [opSh_b (by omega) (by omega) n1 n2 (Or.inl (xsh1 hok (by omega) n1 (fun z => q (R1.mpr z))))]
                   exact ⟨rfl, hS, onlyX.rf⟩)
                | (have q : bE 18 μ := zB_ne0.mp h39
                   rw [opSh_a (by omega) (by omega) (Or.inr (E2.mp q))]
                   exact ⟨rfl, hS, onlyX.rf⟩)
                | (have q : bE 13 μ := zB_ne0.mp h31
                   rw [opSh_a (by omega) (by omega) (Or.inl (E1.mp q))]
                   exact ⟨rfl, hS, onlyX.rf⟩)
            · refine zb X_shift_s92 rfl ?_
              refine z_ret X_shift_d94 rfl ?_
              first
                | (have f := fin_shift (s := 0) (p := 5) (a := x) (b := y) (N := N) hS (by omega) (by omega) (by omega)
                   rw [cN, cx, cy]
                   exact ⟨rfl, f.1, f.2⟩)
                | (have q : ¬ bP 18 j n μ := zB_eq0.mp h89
                   rw [opSh_c (by omega) (by omega) f1 f2 hsrt (fun z => q (P2.mpr (And.intro z.2.2.1 (And.intro z.1 (by rw [← ew]; exact z.2.2.2.2)))))]
                   exact ⟨rfl, hS, onlyX.rf⟩)
                | (have q : ¬ bP 13 i n μ := zB_eq0.mp h77
                   rw [opSh_c (by omega) (by omega) f1 f2 hsrt (fun z => q (P1.mpr (And.intro z.2.1 (And.intro z.1 (by rw [← em]; exact z.2.2.2.1)))))]
                   exact ⟨rfl, hS, onlyX.rf⟩)
                | (have q := zB_eq0.mp h63
                   have f1 : hHeld S 0 = 2 := R1.mp (zB_ne0.mp h50)
                   have n2 : ¬ hHeld S 5 = 0 := fun z => (show ¬ bE 18 μ from zB_eq0.mp h39) (E2.mpr z)
                   rw [opSh_b (by omega) (by omega) (by rw [f1]; decide) n2 (by
                     by_cases z : hHeld S 5 = 2
                     · refine Or.inr (Or.inr (fun y => q (And.intro (R2.mpr z) ?_)))
                       exact (show μ.1 18 2 = _ from (xsh2 hS hok (show 5 < 6 by omega) z).1).trans (y.symm.trans (show μ.1 13 2 = _ from (xsh2 hS hok (show 0 < 6 by omega) f1).1).symm)
                     · exact Or.inr (Or.inl (xsh1 hok (by omega) n2 z)))]
                   exact ⟨rfl, hS, onlyX.rf⟩)
                | (have q : ¬ bR 13 μ := zB_eq0.mp h50
                   have n1 : ¬ hHeld S 0 = 0 := fun z => (show ¬ bE 13 μ from zB_eq0.mp h31) (E1.mpr z)
                   have n2 : ¬ hHeld S 5 = 0 := fun z => (show ¬ bE 18 μ from zB_eq0.mp h39) (E2.mpr z)
                   rw [opSh_b (by omega) (by omega) n1 n2 (Or.inl (xsh1 hok (by omega) n1 (fun z => q (R1.mpr z))))]
                   exact ⟨rfl, hS, onlyX.rf⟩)
                | (have q : bE 18 μ := zB_ne0.mp h39
                   rw [opSh_a (by omega) (by omega) (Or.inr (E2.mp q))]
                   exact ⟨rfl, hS, onlyX.rf⟩)
                | (have q : bE 13 μ := zB_ne0.mp h31
                   rw [opSh_a (by omega) (by omega) (Or.inl (E1.mp q))]
                   exact ⟨rfl, hS, onlyX.rf⟩)
        · refine zb X_shift_s66 rfl ?_
          refine z_ret X_shift_d68 rfl ?_
          first
            | (have f := fin_shift (s := 0) (p := 5) (a := x) (b := y) (N := N) hS (by omega) (by omega) (by omega)
               rw [cN, cx, cy]
               exact ⟨rfl, f.1, f.2⟩)
            | (have q : ¬ bP 18 j n μ := zB_eq0.mp h89
               rw [opSh_c (by omega) (by omega) f1 f2 hsrt (fun z => q (P2.mpr (And.intro z.2.2.1 (And.intro z.1 (by rw [← ew]; exact z.2.2.2.2)))))]
               exact ⟨rfl, hS, onlyX.rf⟩)
            | (have q : ¬ bP 13 i n μ := zB_eq0.mp h77
               rw [opSh_c (by omega) (by omega) f1 f2 hsrt (fun z => q (P1.mpr (And.intro z.2.1 (And.intro z.1 (by rw [← em]; exact z.2.2.2.1)))))]
               exact ⟨rfl, hS, onlyX.rf⟩)
            | (have q := zB_eq0.mp h63
               have f1 : hHeld S 0 = 2 := R1.mp (zB_ne0.mp h50)
               have n2 : ¬ hHeld S 5 = 0 := fun z => (show ¬ bE 18 μ from zB_eq0.mp h39) (E2.mpr z)
               rw [opSh_b (by omega) (by omega) (by rw [f1]; decide) n2 (by
                 by_cases z : hHeld S 5 = 2
                 · refine Or.inr (Or.inr (fun y => q (And.intro (R2.mpr z) ?_)))
                   exact (show μ.1 18 2 = _ from (xsh2 hS hok (show 5 < 6 by omega) z).1).trans (y.symm.trans (show μ.1 13 2 = _ from (xsh2 hS hok (show 0 < 6 by omega) f1).1).symm)
                 · exact Or.inr (Or.inl (xsh1 hok (by omega) n2 z)))]
               exact ⟨rfl, hS, onlyX.rf⟩)
            | (have q : ¬ bR 13 μ := zB_eq0.mp h50
               have n1 : ¬ hHeld S 0 = 0 := fun z => (show ¬ bE 13 μ from zB_eq0.mp h31) (E1.mpr z)
               have n2 : ¬ hHeld S 5 = 0 := fun z => (show ¬ bE 18 μ from zB_eq0.mp h39) (E2.mpr z)
               rw [opSh_b (by omega) (by omega) n1 n2 (Or.inl (xsh1 hok (by omega) n1 (fun z => q (R1.mpr z))))]
               exact ⟨rfl, hS, onlyX.rf⟩)
            | (have q : bE 18 μ := zB_ne0.mp h39
               rw [opSh_a (by omega) (by omega) (Or.inr (E2.mp q))]
               exact ⟨rfl, hS, onlyX.rf⟩)
            | (have q : bE 13 μ := zB_ne0.mp h31
               rw [opSh_a (by omega) (by omega) (Or.inl (E1.mp q))]
               exact ⟨rfl, hS, onlyX.rf⟩)
    · refine zb X_shift_s42 rfl ?_
      refine z_ret X_shift_d44 rfl ?_
      first
        | (have f := fin_shift (s := 0) (p := 5) (a := x) (b := y) (N := N) hS (by omega) (by omega) (by omega)
           rw [cN, cx, cy]
           exact ⟨rfl, f.1, f.2⟩)
        | (have q : ¬ bP 18 j n μ := zB_eq0.mp h89
           rw [opSh_c (by omega) (by omega) f1 f2 hsrt (fun z => q (P2.mpr (And.intro z.2.2.1 (And.intro z.1 (by rw [← ew]; exact z.2.2.2.2)))))]
           exact ⟨rfl, hS, onlyX.rf⟩)
        | (have q : ¬ bP 13 i n μ := zB_eq0.mp h77
           rw [opSh_c (by omega) (by omega) f1 f2 hsrt (fun z => q (P1.mpr (And.intro z.2.1 (And.intro z.1 (by rw [← em]; exact z.2.2.2.1)))))]
           exact ⟨rfl, hS, onlyX.rf⟩)
        | (have q := zB_eq0.mp h63
           have f1 : hHeld S 0 = 2 := R1.mp (zB_ne0.mp h50)
           have n2 : ¬ hHeld S 5 = 0 := fun z => (show ¬ bE 18 μ from zB_eq0.mp h39) (E2.mpr z)
           rw [opSh_b (by omega) (by omega) (by rw [f1]; decide) n2 (by
             by_cases z : hHeld S 5 = 2
             · refine Or.inr (Or.inr (fun y => q (And.intro (R2.mpr z) ?_)))
               exact (show μ.1 18 2 = _ from (xsh2 hS hok (show 5 < 6 by omega) z).1).trans (y.symm.trans (show μ.1 13 2 = _ from (xsh2 hS hok (show 0 < 6 by omega) f1).1).symm)
             · exact Or.inr (Or.inl (xsh1 hok (by omega) n2 z)))]
           exact ⟨rfl, hS, onlyX.rf⟩)
        | (have q : ¬ bR 13 μ := zB_eq0.mp h50
           have n1 : ¬ hHeld S 0 = 0 := fun z => (show ¬ bE 13 μ from zB_eq0.mp h31) (E1.mpr z)
           have n2 : ¬ hHeld S 5 = 0 := fun z => (show ¬ bE 18 μ from zB_eq0.mp h39) (E2.mpr z)
           rw [opSh_b (by omega) (by omega) n1 n2 (Or.inl (xsh1 hok (by omega) n1 (fun z => q (R1.mpr z))))]
           exact ⟨rfl, hS, onlyX.rf⟩)
        | (have q : bE 18 μ := zB_ne0.mp h39
           rw [opSh_a (by omega) (by omega) (Or.inr (E2.mp q))]
           exact ⟨rfl, hS, onlyX.rf⟩)
        | (have q : bE 13 μ := zB_ne0.mp h31
           rw [opSh_a (by omega) (by omega) (Or.inl (E1.mp q))]
           exact ⟨rfl, hS, onlyX.rf⟩)

set_option maxRecDepth 100000 in
set_option maxHeartbeats 4000000 in
theorem xs_shift_1_0 {g : zG} {d : Nat} {S : zS} {μ : zMem} {i j n : Int32} (hd : 2 ≤ d) (hS : xS S μ) (hok : okH S) : zM g d X_shift [.ref 1, .int (nI 1), .int i, .int (nI 0), .int j, .int n] μ (pO xS onlyX (opShift S (nI 1) i (nI 0) j n) μ) := by
  refine zM_of (by decide +kernel) rfl rfl (Nat.le_of_ble_eq_true rfl) rfl ?_
  obtain ⟨ho, h2, hT, hC, hD, hI, hA, hH⟩ := hS
  have hS : xS S μ := ⟨ho, h2, hT, hC, hD, hI, hA, hH⟩
  have hb := ho.b
  have hv := ho.v
  have hB6 := ho.b6
  have hV12 := ho.v12
  have hz : zq sX μ μ := zq.rf
  have E1 := xshE (s := 1) hS hok (by omega)
  have E2 := xshE (s := 0) hS hok (by omega)
  have R1 := xshR (s := 1) hS hok (by omega)
  have R2 := xshR (s := 0) hS hok (by omega)
  refine zb X_shift_s0 rfl ?_
  refine zcallV X_shift_d2 k10_93 (by omega) (x_shelf_1 (by omega)) rfl rfl rfl (Nat.le_of_ble_eq_true rfl) ?_
  rintro _ μx ⟨rfl, hx⟩
  rw [hx]
  clear hx μx
  refine zb X_shift_s5 rfl ?_
  refine zcallV X_shift_d9 k10_93 (by omega) (x_shelf_0 (by omega)) rfl rfl rfl (Nat.le_of_ble_eq_true rfl) ?_
  rintro _ μx ⟨rfl, hx⟩
  rw [hx]
  clear hx μx
  refine zb X_shift_s12 rfl ?_
  refine z_null X_shift_d16 ?_
  refine zb X_shift_s19 rfl ?_
  refine z_nonnull X_shift_d21 (tgt := 26) rfl ?_
  refine zb X_shift_s26 rfl ?_
  refine zcallV X_shift_d28 k10_97 (by omega) (x_isEmpty_1) rfl rfl rfl (Nat.le_of_ble_eq_true rfl) ?_
  rintro _ μx ⟨rfl, hx⟩
  rw [hx]
  clear hx μx
  refine z_ne X_shift_d31 (tgt := 42) rfl (fun h31 => ?_) (fun h31 => ?_)
  · refine zb X_shift_s42 rfl ?_
    refine z_ret X_shift_d44 rfl ?_
    first
      | (have f := fin_shift (s := 1) (p := 0) (a := x) (b := y) (N := N) hS (by omega) (by omega) (by omega)
         rw [cN, cx, cy]
         exact ⟨rfl, f.1, f.2⟩)
      | (have q : ¬ bP 13 j n μ := zB_eq0.mp h89
         rw [opSh_c (by omega) (by omega) f1 f2 hsrt (fun z => q (P2.mpr (And.intro z.2.2.1 (And.intro z.1 (by rw [← ew]; exact z.2.2.2.2)))))]
         exact ⟨rfl, hS, onlyX.rf⟩)
      | (have q : ¬ bP 14 i n μ := zB_eq0.mp h77
         rw [opSh_c (by omega) (by omega) f1 f2 hsrt (fun z => q (P1.mpr (And.intro z.2.1 (And.intro z.1 (by rw [← em]; exact z.2.2.2.1)))))]
         exact ⟨rfl, hS, onlyX.rf⟩)
      | (have q := zB_eq0.mp h63
         have f1 : hHeld S 1 = 2 := R1.mp (zB_ne0.mp h50)
         have n2 : ¬ hHeld S 0 = 0 := fun z => (show ¬ bE 13 μ from zB_eq0.mp h39) (E2.mpr z)
         rw [opSh_b (by omega) (by omega) (by rw [f1]; decide) n2 (by
           by_cases z : hHeld S 0 = 2
           · refine Or.inr (Or.inr (fun y => q (And.intro (R2.mpr z) ?_)))
             exact (show μ.1 13 2 = _ from (xsh2 hS hok (show 0 < 6 by omega) z).1).trans (y.symm.trans (show μ.1 14 2 = _ from (xsh2 hS hok (show 1 < 6 by omega) f1).1).symm)
           · exact Or.inr (Or.inl (xsh1 hok (by omega) n2 z)))]
         exact ⟨rfl, hS, onlyX.rf⟩)
      | (have q : ¬ bR 14 μ := zB_eq0.mp h50
         have n1 : ¬ hHeld S 1 = 0 := fun z => (show ¬ bE 14 μ from zB_eq0.mp h31) (E1.mpr z)
         have n2 : ¬ hHeld S 0 = 0 := fun z => (show ¬ bE 13 μ from zB_eq0.mp h39) (E2.mpr z)
         rw [opSh_b (by omega) (by omega) n1 n2 (Or.inl (xsh1 hok (by omega) n1 (fun z => q (R1.mpr z))))]
         exact ⟨rfl, hS, onlyX.rf⟩)
      | (have q : bE 13 μ := zB_ne0.mp h39
         rw [opSh_a (by omega) (by omega) (Or.inr (E2.mp q))]
         exact ⟨rfl, hS, onlyX.rf⟩)
      | (have q : bE 14 μ := zB_ne0.mp h31
         rw [opSh_a (by omega) (by omega) (Or.inl (E1.mp q))]
         exact ⟨rfl, hS, onlyX.rf⟩)
  · refine zb X_shift_s34 rfl ?_
    refine zcallV X_shift_d36 k10_97 (by omega) (x_isEmpty_0) rfl rfl rfl (Nat.le_of_ble_eq_true rfl) ?_
    rintro _ μx ⟨rfl, hx⟩
    rw [hx]
    clear hx μx
    refine z_eq X_shift_d39 (tgt := 45) rfl (fun h39 => ?_) (fun h39 => ?_)
    · refine zb X_shift_s45 rfl ?_
      refine zcallV X_shift_d47 k10_357 (by omega) (x_isRow_1) rfl rfl rfl (Nat.le_of_ble_eq_true rfl) ?_
      rintro _ μx ⟨rfl, hx⟩
      rw [hx]
      clear hx μx
      refine z_eq X_shift_d50 (tgt := 66) rfl (fun h50 => ?_) (fun h50 => ?_)
      · refine zb X_shift_s66 rfl ?_
        refine z_ret X_shift_d68 rfl ?_
        first
          | (have f := fin_shift (s := 1) (p := 0) (a := x) (b := y) (N := N) hS (by omega) (by omega) (by omega)
             rw [cN, cx, cy]
             exact ⟨rfl, f.1, f.2⟩)
          | (have q : ¬ bP 13 j n μ := zB_eq0.mp h89
             rw [opSh_c (by omega) (by omega) f1 f2 hsrt (fun z => q (P2.mpr (And.intro z.2.2.1 (And.intro z.1 (by rw [← ew]; exact z.2.2.2.2)))))]
             exact ⟨rfl, hS, onlyX.rf⟩)
          | (have q : ¬ bP 14 i n μ := zB_eq0.mp h77
             rw [opSh_c (by omega) (by omega) f1 f2 hsrt (fun z => q (P1.mpr (And.intro z.2.1 (And.intro z.1 (by rw [← em]; exact z.2.2.2.1)))))]
             exact ⟨rfl, hS, onlyX.rf⟩)
          | (have q := zB_eq0.mp h63
             have f1 : hHeld S 1 = 2 := R1.mp (zB_ne0.mp h50)
             have n2 : ¬ hHeld S 0 = 0 := fun z => (show ¬ bE 13 μ from zB_eq0.mp h39) (E2.mpr z)
             rw [opSh_b (by omega) (by omega) (by rw [f1]; decide) n2 (by
               by_cases z : hHeld S 0 = 2
               · refine Or.inr (Or.inr (fun y => q (And.intro (R2.mpr z) ?_)))
                 exact (show μ.1 13 2 = _ from (xsh2 hS hok (show 0 < 6 by omega) z).1).trans (y.symm.trans (show μ.1 14 2 = _ from (xsh2 hS hok (show 1 < 6 by omega) f1).1).symm)
               · exact Or.inr (Or.inl (xsh1 hok (by omega) n2 z)))]
             exact ⟨rfl, hS, onlyX.rf⟩)
          | (have q : ¬ bR 14 μ := zB_eq0.mp h50
             have n1 : ¬ hHeld S 1 = 0 := fun z => (show ¬ bE 14 μ from zB_eq0.mp h31) (E1.mpr z)
             have n2 : ¬ hHeld S 0 = 0 := fun z => (show ¬ bE 13 μ from zB_eq0.mp h39) (E2.mpr z)
             rw [opSh_b (by omega) (by omega) n1 n2 (Or.inl (xsh1 hok (by omega) n1 (fun z => q (R1.mpr z))))]
             exact ⟨rfl, hS, onlyX.rf⟩)
          | (have q : bE 13 μ := zB_ne0.mp h39
             rw [opSh_a (by omega) (by omega) (Or.inr (E2.mp q))]
             exact ⟨rfl, hS, onlyX.rf⟩)
          | (have q : bE 14 μ := zB_ne0.mp h31
             rw [opSh_a (by omega) (by omega) (Or.inl (E1.mp q))]
             exact ⟨rfl, hS, onlyX.rf⟩)
      · refine zb X_shift_s53 rfl ?_
        refine zcallV X_shift_d60 k10_101 (by omega) (x_isRowOf_0 _ (by omega)) rfl rfl rfl (Nat.le_of_ble_eq_true rfl) ?_
        rintro _ μx ⟨rfl, hx⟩
        rw [hx]
        clear hx μx
        refine z_ne X_shift_d63 (tgt := 69) rfl (fun h63 => ?_) (fun h63 => ?_)
        · have f1 : hHeld S 1 = 2 := R1.mp (zB_ne0.mp h50)
          have f2 : hHeld S 0 = 2 := R2.mp (zB_ne0.mp h63).1
          obtain ⟨a1, a2, m, hm, em⟩ := xsh2 hS hok (show 1 < 6 by omega) f1
          obtain ⟨b1, b2, w, hw, ew⟩ := xsh2 hS hok (show 0 < 6 by omega) f2
          have hsrt : hSort S 1 = hSort S 0 := a1.symm.trans ((zB_ne0.mp h63).2.symm.trans b1)
          have P1 := bPn (i := i) (n := n) hm (a2.trans em)
          have P2 := bPn (i := j) (n := n) hw (b2.trans ew)
          refine zb X_shift_s69 rfl ?_
          refine zcallV X_shift_d74 k10_363 (by omega) (x_hasPlaces_1 _ _) rfl rfl rfl (Nat.le_of_ble_eq_true rfl) ?_
          rintro _ μx ⟨rfl, hx⟩
          rw [hx]
          clear hx μx
          refine z_eq X_shift_d77 (tgt := 92) rfl (fun h77 => ?_) (fun h77 => ?_)
          · refine zb X_shift_s92 rfl ?_
            refine z_ret X_shift_d94 rfl ?_
            first
              | (have f := fin_shift (s := 1) (p := 0) (a := x) (b := y) (N := N) hS (by omega) (by omega) (by omega)
                 rw [cN, cx, cy]
                 exact ⟨rfl, f.1, f.2⟩)
              | (have q : ¬ bP 13 j n μ := zB_eq0.mp h89
                 rw [opSh_c (by omega) (by omega) f1 f2 hsrt (fun z => q (P2.mpr (And.intro z.2.2.1 (And.intro z.1 (by rw [← ew]; exact z.2.2.2.2)))))]
                 exact ⟨rfl, hS, onlyX.rf⟩)
              | (have q : ¬ bP 14 i n μ := zB_eq0.mp h77
                 rw [opSh_c (by omega) (by omega) f1 f2 hsrt (fun z => q (P1.mpr (And.intro z.2.1 (And.intro z.1 (by rw [← em]; exact z.2.2.2.1)))))]
                 exact ⟨rfl, hS, onlyX.rf⟩)
              | (have q := zB_eq0.mp h63
                 have f1 : hHeld S 1 = 2 := R1.mp (zB_ne0.mp h50)
                 have n2 : ¬ hHeld S 0 = 0 := fun z => (show ¬ bE 13 μ from zB_eq0.mp h39) (E2.mpr z)
                 rw [opSh_b (by omega) (by omega) (by rw [f1]; decide) n2 (by
                   by_cases z : hHeld S 0 = 2
                   · refine Or.inr (Or.inr (fun y => q (And.intro (R2.mpr z) ?_)))
                     exact (show μ.1 13 2 = _ from (xsh2 hS hok (show 0 < 6 by omega) z).1).trans (y.symm.trans (show μ.1 14 2 = _ from (xsh2 hS hok (show 1 < 6 by omega) f1).1).symm)
                   · exact Or.inr (Or.inl (xsh1 hok (by omega) n2 z)))]
                 exact ⟨rfl, hS, onlyX.rf⟩)
              | (have q : ¬ bR 14 μ := zB_eq0.mp h50
                 have n1 : ¬ hHeld S 1 = 0 := fun z => (show ¬ bE 14 μ from zB_eq0.mp h31) (E1.mpr z)
                 have n2 : ¬ hHeld S 0 = 0 := fun z => (show ¬ bE 13 μ from zB_eq0.mp h39) (E2.mpr z)
                 rw [opSh_b (by omega) (by omega) n1 n2 (Or.inl (xsh1 hok (by omega) n1 (fun z => q (R1.mpr z))))]
                 exact ⟨rfl, hS, onlyX.rf⟩)
              | (have q : bE 13 μ := zB_ne0.mp h39
                 rw [opSh_a (by omega) (by omega) (Or.inr (E2.mp q))]
                 exact ⟨rfl, hS, onlyX.rf⟩)
              | (have q : bE 14 μ := zB_ne0.mp h31
                 rw [opSh_a (by omega) (by omega) (Or.inl (E1.mp q))]
                 exact ⟨rfl, hS, onlyX.rf⟩)
          · refine zb X_shift_s80 rfl ?_
            refine zcallV X_shift_d86 k10_363 (by omega) (x_hasPlaces_0 _ _) rfl rfl rfl (Nat.le_of_ble_eq_true rfl) ?_
            rintro _ μx ⟨rfl, hx⟩
            rw [hx]
            clear hx μx
            refine z_ne X_shift_d89 (tgt := 95) rfl (fun h89 => ?_) (fun h89 => ?_)
            · have g1 := P1.mp (zB_ne0.mp h77)
              have g2 := P2.mp (zB_ne0.mp h89)
              have hall : 0 ≤ n ∧ 0 ≤ i ∧ 0 ≤ j ∧ i ≤ hSize S 1 - n ∧ j ≤ hSize S 0 - n := by
                exact ⟨g1.2.1, g1.1, g2.1, by rw [em]; exact g1.2.2, by rw [ew]; exact g2.2.2⟩
              rw [opSh_d (by omega) (by omega) f1 f2 hsrt hall]
              clear hall
              obtain ⟨N, hN, rfl⟩ := nI_of (Int32.not_lt.mpr g1.2.1)
              obtain ⟨x, hx, rfl⟩ := nI_of (Int32.not_lt.mpr g1.1)
              obtain ⟨y, hy, rfl⟩ := nI_of (Int32.not_lt.mpr g2.1)
              have k1 := (le_sub hx hm hN).mp g1.2.2
              have k2 := (le_sub hy hw hN).mp g2.2.2
              have cN : (nI N).toNatClampNeg = N := nI_clamp hN
              have cx : (nI x).toNatClampNeg = x := nI_clamp hx
              have cy : (nI y).toNatClampNeg = y := nI_clamp hy
              refine zb X_shift_s95 rfl ?_
              refine zcpL X_shift_d110 k10_366 (by omega) (Nat.le_of_ble_eq_true rfl) rfl rfl (nI_pos (by omega)) (nI_pos (by omega)) (nI_pos (by omega)) (by rw [cN, cx]; omega) (by rw [cN, cy]; omega) ?_
              refine zb X_shift_s113 rfl ?_
              refine z_ret X_shift_d115 rfl ?_
              first
                | (have f := fin_shift (s := 1) (p := 0) (a := x) (b := y) (N := N) hS (by omega) (by omega) (by omega)
                   rw [cN, cx, cy]
                   exact ⟨rfl, f.1, f.2⟩)
                | (have q : ¬ bP 13 j n μ := zB_eq0.mp h89
                   rw [opSh_c (by omega) (by omega) f1 f2 hsrt (fun z => q (P2.mpr (And.intro z.2.2.1 (And.intro z.1 (by rw [← ew]; exact z.2.2.2.2)))))]
                   exact ⟨rfl, hS, onlyX.rf⟩)
                | (have q : ¬ bP 14 i n μ := zB_eq0.mp h77
                   rw [opSh_c (by omega) (by omega) f1 f2 hsrt (fun z => q (P1.mpr (And.intro z.2.1 (And.intro z.1 (by rw [← em]; exact z.2.2.2.1)))))]
                   exact ⟨rfl, hS, onlyX.rf⟩)
                | (have q := zB_eq0.mp h63
                   have f1 : hHeld S 1 = 2 := R1.mp (zB_ne0.mp h50)
                   have n2 : ¬ hHeld S 0 = 0 := fun z => (show ¬ bE 13 μ from zB_eq0.mp h39) (E2.mpr z)
                   rw [opSh_b (by omega) (by omega) (by rw [f1]; decide) n2 (by
                     by_cases z : hHeld S 0 = 2
                     · refine Or.inr (Or.inr (fun y => q (And.intro (R2.mpr z) ?_)))
                       exact (show μ.1 13 2 = _ from (xsh2 hS hok (show 0 < 6 by omega) z).1).trans (y.symm.trans (show μ.1 14 2 = _ from (xsh2 hS hok (show 1 < 6 by omega) f1).1).symm)
                     · exact Or.inr (Or.inl (xsh1 hok (by omega) n2 z)))]
                   exact ⟨rfl, hS, onlyX.rf⟩)
                | (have q : ¬ bR 14 μ := zB_eq0.mp h50
                   have n1 : ¬ hHeld S 1 = 0 := fun z => (show ¬ bE 14 μ from zB_eq0.mp h31) (E1.mpr z)
                   have n2 : ¬ hHeld S 0 = 0 := fun z => (show ¬ bE 13 μ from zB_eq0.mp h39) (E2.mpr z)
                   rw [opSh_b (by omega) (by omega) n1 n2 (Or.inl (xsh1 hok (by omega) n1 (fun z => q (R1.mpr z))))]
                   exact ⟨rfl, hS, onlyX.rf⟩)
                | (have q : bE 13 μ := zB_ne0.mp h39
                   rw [opSh_a (by omega) (by omega) (Or.inr (E2.mp q))]
                   exact ⟨rfl, hS, onlyX.rf⟩)
                | (have q : bE 14 μ := zB_ne0.mp h31
                   rw [opSh_a (by omega) (by omega) (Or.inl (E1.mp q))]
                   exact ⟨rfl, hS, onlyX.rf⟩)
            · refine zb X_shift_s92 rfl ?_
              refine z_ret X_shift_d94 rfl ?_
              first
                | (have f := fin_shift (s := 1) (p := 0) (a := x) (b := y) (N := N) hS (by omega) (by omega) (by omega)
                   rw [cN, cx, cy]
                   exact ⟨rfl, f.1, f.2⟩)
                | (have q : ¬ bP 13 j n μ := zB_eq0.mp h89
                   rw [opSh_c (by omega) (by omega) f1 f2 hsrt (fun z => q (P2.mpr (And.intro z.2.2.1 (And.intro z.1 (by rw [← ew]; exact z.2.2.2.2)))))]
                   exact ⟨rfl, hS, onlyX.rf⟩)
                | (have q : ¬ bP 14 i n μ := zB_eq0.mp h77
                   rw [opSh_c (by omega) (by omega) f1 f2 hsrt (fun z => q (P1.mpr (And.intro z.2.1 (And.intro z.1 (by rw [← em]; exact z.2.2.2.1)))))]
                   exact ⟨rfl, hS, onlyX.rf⟩)
                | (have q := zB_eq0.mp h63
                   have f1 : hHeld S 1 = 2 := R1.mp (zB_ne0.mp h50)
                   have n2 : ¬ hHeld S 0 = 0 := fun z => (show ¬ bE 13 μ from zB_eq0.mp h39) (E2.mpr z)
                   rw [opSh_b (by omega) (by omega) (by rw [f1]; decide) n2 (by
                     by_cases z : hHeld S 0 = 2
                     · refine Or.inr (Or.inr (fun y => q (And.intro (R2.mpr z) ?_)))
                       exact (show μ.1 13 2 = _ from (xsh2 hS hok (show 0 < 6 by omega) z).1).trans (y.symm.trans (show μ.1 14 2 = _ from (xsh2 hS hok (show 1 < 6 by omega) f1).1).symm)
                     · exact Or.inr (Or.inl (xsh1 hok (by omega) n2 z)))]
                   exact ⟨rfl, hS, onlyX.rf⟩)
                | (have q : ¬ bR 14 μ := zB_eq0.mp h50
                   have n1 : ¬ hHeld S 1 = 0 := fun z => (show ¬ bE 14 μ from zB_eq0.mp h31) (E1.mpr z)
                   have n2 : ¬ hHeld S 0 = 0 := fun z => (show ¬ bE 13 μ from zB_eq0.mp h39) (E2.mpr z)
                   rw [opSh_b (by omega) (by omega) n1 n2 (Or.inl (xsh1 hok (by omega) n1 (fun z => q (R1.mpr z))))]
                   exact ⟨rfl, hS, onlyX.rf⟩)
                | (have q : bE 13 μ := zB_ne0.mp h39
                   rw [opSh_a (by omega) (by omega) (Or.inr (E2.mp q))]
                   exact ⟨rfl, hS, onlyX.rf⟩)
                | (have q : bE 14 μ := zB_ne0.mp h31
                   rw [opSh_a (by omega) (by omega) (Or.inl (E1.mp q))]
                   exact ⟨rfl, hS, onlyX.rf⟩)
        · refine zb X_shift_s66 rfl ?_
          refine z_ret X_shift_d68 rfl ?_
          first
            | (have f := fin_shift (s := 1) (p := 0) (a := x) (b := y) (N := N) hS (by omega) (by omega) (by omega)
               rw [cN, cx, cy]
               exact ⟨rfl, f.1, f.2⟩)
            | (have q : ¬ bP 13 j n μ := zB_eq0.mp h89
               rw [opSh_c (by omega) (by omega) f1 f2 hsrt (fun z => q (P2.mpr (And.intro z.2.2.1 (And.intro z.1 (by rw [← ew]; exact z.2.2.2.2)))))]
               exact ⟨rfl, hS, onlyX.rf⟩)
            | (have q : ¬ bP 14 i n μ := zB_eq0.mp h77
               rw [opSh_c (by omega) (by omega) f1 f2 hsrt (fun z => q (P1.mpr (And.intro z.2.1 (And.intro z.1 (by rw [← em]; exact z.2.2.2.1)))))]
               exact ⟨rfl, hS, onlyX.rf⟩)
            | (have q := zB_eq0.mp h63
               have f1 : hHeld S 1 = 2 := R1.mp (zB_ne0.mp h50)
               have n2 : ¬ hHeld S 0 = 0 := fun z => (show ¬ bE 13 μ from zB_eq0.mp h39) (E2.mpr z)
               rw [opSh_b (by omega) (by omega) (by rw [f1]; decide) n2 (by
                 by_cases z : hHeld S 0 = 2
                 · refine Or.inr (Or.inr (fun y => q (And.intro (R2.mpr z) ?_)))
                   exact (show μ.1 13 2 = _ from (xsh2 hS hok (show 0 < 6 by omega) z).1).trans (y.symm.trans (show μ.1 14 2 = _ from (xsh2 hS hok (show 1 < 6 by omega) f1).1).symm)
                 · exact Or.inr (Or.inl (xsh1 hok (by omega) n2 z)))]
               exact ⟨rfl, hS, onlyX.rf⟩)
            | (have q : ¬ bR 14 μ := zB_eq0.mp h50
               have n1 : ¬ hHeld S 1 = 0 := fun z => (show ¬ bE 14 μ from zB_eq0.mp h31) (E1.mpr z)
               have n2 : ¬ hHeld S 0 = 0 := fun z => (show ¬ bE 13 μ from zB_eq0.mp h39) (E2.mpr z)
               rw [opSh_b (by omega) (by omega) n1 n2 (Or.inl (xsh1 hok (by omega) n1 (fun z => q (R1.mpr z))))]
               exact ⟨rfl, hS, onlyX.rf⟩)
            | (have q : bE 13 μ := zB_ne0.mp h39
               rw [opSh_a (by omega) (by omega) (Or.inr (E2.mp q))]
               exact ⟨rfl, hS, onlyX.rf⟩)
            | (have q : bE 14 μ := zB_ne0.mp h31
               rw [opSh_a (by omega) (by omega) (Or.inl (E1.mp q))]
               exact ⟨rfl, hS, onlyX.rf⟩)
    · refine zb X_shift_s42 rfl ?_
      refine z_ret X_shift_d44 rfl ?_
      first
        | (have f := fin_shift (s := 1) (p := 0) (a := x) (b := y) (N := N) hS (by omega) (by omega) (by omega)
           rw [cN, cx, cy]
           exact ⟨rfl, f.1, f.2⟩)
        | (have q : ¬ bP 13 j n μ := zB_eq0.mp h89
           rw [opSh_c (by omega) (by omega) f1 f2 hsrt (fun z => q (P2.mpr (And.intro z.2.2.1 (And.intro z.1 (by rw [← ew]; exact z.2.2.2.2)))))]
           exact ⟨rfl, hS, onlyX.rf⟩)
        | (have q : ¬ bP 14 i n μ := zB_eq0.mp h77
           rw [opSh_c (by omega) (by omega) f1 f2 hsrt (fun z => q (P1.mpr (And.intro z.2.1 (And.intro z.1 (by rw [← em]; exact z.2.2.2.1)))))]
           exact ⟨rfl, hS, onlyX.rf⟩)
        | (have q := zB_eq0.mp h63
           have f1 : hHeld S 1 = 2 := R1.mp (zB_ne0.mp h50)
           have n2 : ¬ hHeld S 0 = 0 := fun z => (show ¬ bE 13 μ from zB_eq0.mp h39) (E2.mpr z)
           rw [opSh_b (by omega) (by omega) (by rw [f1]; decide) n2 (by
             by_cases z : hHeld S 0 = 2
             · refine Or.inr (Or.inr (fun y => q (And.intro (R2.mpr z) ?_)))
               exact (show μ.1 13 2 = _ from (xsh2 hS hok (show 0 < 6 by omega) z).1).trans (y.symm.trans (show μ.1 14 2 = _ from (xsh2 hS hok (show 1 < 6 by omega) f1).1).symm)
             · exact Or.inr (Or.inl (xsh1 hok (by omega) n2 z)))]
           exact ⟨rfl, hS, onlyX.rf⟩)
        | (have q : ¬ bR 14 μ := zB_eq0.mp h50
           have n1 : ¬ hHeld S 1 = 0 := fun z => (show ¬ bE 14 μ from zB_eq0.mp h31) (E1.mpr z)
           have n2 : ¬ hHeld S 0 = 0 := fun z => (show ¬ bE 13 μ from zB_eq0.mp h39) (E2.mpr z)
           rw [opSh_b (by omega) (by omega) n1 n2 (Or.inl (xsh1 hok (by omega) n1 (fun z => q (R1.mpr z))))]
           exact ⟨rfl, hS, onlyX.rf⟩)
        | (have q : bE 13 μ := zB_ne0.mp h39
           rw [opSh_a (by omega) (by omega) (Or.inr (E2.mp q))]
           exact ⟨rfl, hS, onlyX.rf⟩)
        | (have q : bE 14 μ := zB_ne0.mp h31
           rw [opSh_a (by omega) (by omega) (Or.inl (E1.mp q))]
           exact ⟨rfl, hS, onlyX.rf⟩)

set_option maxRecDepth 100000 in
set_option maxHeartbeats 4000000 in
theorem xs_shift_1_1 {g : zG} {d : Nat} {S : zS} {μ : zMem} {i j n : Int32} (hd : 2 ≤ d) (hS : xS S μ) (hok : okH S) : zM g d X_shift [.ref 1, .int (nI 1), .int i, .int (nI 1), .int j, .int n] μ (pO xS onlyX (opShift S (nI 1) i (nI 1) j n) μ) := by
  refine zM_of (by decide +kernel) rfl rfl (Nat.le_of_ble_eq_true rfl) rfl ?_
  obtain ⟨ho, h2, hT, hC, hD, hI, hA, hH⟩ := hS
  have hS : xS S μ := ⟨ho, h2, hT, hC, hD, hI, hA, hH⟩
  have hb := ho.b
  have hv := ho.v
  have hB6 := ho.b6
  have hV12 := ho.v12
  have hz : zq sX μ μ := zq.rf
  have E1 := xshE (s := 1) hS hok (by omega)
  have E2 := xshE (s := 1) hS hok (by omega)
  have R1 := xshR (s := 1) hS hok (by omega)
  have R2 := xshR (s := 1) hS hok (by omega)
  refine zb X_shift_s0 rfl ?_
  refine zcallV X_shift_d2 k10_93 (by omega) (x_shelf_1 (by omega)) rfl rfl rfl (Nat.le_of_ble_eq_true rfl) ?_
  rintro _ μx ⟨rfl, hx⟩
  rw [hx]
  clear hx μx
  refine zb X_shift_s5 rfl ?_
  refine zcallV X_shift_d9 k10_93 (by omega) (x_shelf_1 (by omega)) rfl rfl rfl (Nat.le_of_ble_eq_true rfl) ?_
  rintro _ μx ⟨rfl, hx⟩
  rw [hx]
  clear hx μx
  refine zb X_shift_s12 rfl ?_
  refine z_null X_shift_d16 ?_
  refine zb X_shift_s19 rfl ?_
  refine z_nonnull X_shift_d21 (tgt := 26) rfl ?_
  refine zb X_shift_s26 rfl ?_
  refine zcallV X_shift_d28 k10_97 (by omega) (x_isEmpty_1) rfl rfl rfl (Nat.le_of_ble_eq_true rfl) ?_
  rintro _ μx ⟨rfl, hx⟩
  rw [hx]
  clear hx μx
  refine z_ne X_shift_d31 (tgt := 42) rfl (fun h31 => ?_) (fun h31 => ?_)
  · refine zb X_shift_s42 rfl ?_
    refine z_ret X_shift_d44 rfl ?_
    first
      | (have f := fin_shift (s := 1) (p := 1) (a := x) (b := y) (N := N) hS (by omega) (by omega) (by omega)
         rw [cN, cx, cy]
         exact ⟨rfl, f.1, f.2⟩)
      | (have q : ¬ bP 14 j n μ := zB_eq0.mp h89
         rw [opSh_c (by omega) (by omega) f1 f2 hsrt (fun z => q (P2.mpr (And.intro z.2.2.1 (And.intro z.1 (by rw [← ew]; exact z.2.2.2.2)))))]
         exact ⟨rfl, hS, onlyX.rf⟩)
      | (have q : ¬ bP 14 i n μ := zB_eq0.mp h77
         rw [opSh_c (by omega) (by omega) f1 f2 hsrt (fun z => q (P1.mpr (And.intro z.2.1 (And.intro z.1 (by rw [← em]; exact z.2.2.2.1)))))]
         exact ⟨rfl, hS, onlyX.rf⟩)
      | (have q := zB_eq0.mp h63
         have f1 : hHeld S 1 = 2 := R1.mp (zB_ne0.mp h50)
         have n2 : ¬ hHeld S 1 = 0 := fun z => (show ¬ bE 14 μ from zB_eq0.mp h39) (E2.mpr z)
         rw [opSh_b (by omega) (by omega) (by rw [f1]; decide) n2 (by
           by_cases z : hHeld S 1 = 2
           · refine Or.inr (Or.inr (fun y => q (And.intro (R2.mpr z) ?_)))
             exact (show μ.1 14 2 = _ from (xsh2 hS hok (show 1 < 6 by omega) z).1).trans (y.symm.trans (show μ.1 14 2 = _ from (xsh2 hS hok (show 1 < 6 by omega) f1).1).symm)
           · exact Or.inr (Or.inl (xsh1 hok (by omega) n2 z)))]
         exact ⟨rfl, hS, onlyX.rf⟩)
      | (have q : ¬ bR 14 μ := zB_eq0.mp h50
         have n1 : ¬ hHeld S 1 = 0 := fun z => (show ¬ bE 14 μ from zB_eq0.mp h31) (E1.mpr z)
         have n2 : ¬ hHeld S 1 = 0 := fun z => (show ¬ bE 14 μ from zB_eq0.mp h39) (E2.mpr z)
         rw [opSh_b (by omega) (by omega) n1 n2 (Or.inl (xsh1 hok (by omega) n1 (fun z => q (R1.mpr z))))]
         exact ⟨rfl, hS, onlyX.rf⟩)
      | (have q : bE 14 μ := zB_ne0.mp h39
         rw [opSh_a (by omega) (by omega) (Or.inr (E2.mp q))]
         exact ⟨rfl, hS, onlyX.rf⟩)
      | (have q : bE 14 μ := zB_ne0.mp h31
         rw [opSh_a (by omega) (by omega) (Or.inl (E1.mp q))]
         exact ⟨rfl, hS, onlyX.rf⟩)
  · refine zb X_shift_s34 rfl ?_
    refine zcallV X_shift_d36 k10_97 (by omega) (x_isEmpty_1) rfl rfl rfl (Nat.le_of_ble_eq_true rfl) ?_
    rintro _ μx ⟨rfl, hx⟩
    rw [hx]
    clear hx μx
    refine z_eq X_shift_d39 (tgt := 45) rfl (fun h39 => ?_) (fun h39 => ?_)
    · refine zb X_shift_s45 rfl ?_
      refine zcallV X_shift_d47 k10_357 (by omega) (x_isRow_1) rfl rfl rfl (Nat.le_of_ble_eq_true rfl) ?_
      rintro _ μx ⟨rfl, hx⟩
      rw [hx]
      clear hx μx
      refine z_eq X_shift_d50 (tgt := 66) rfl (fun h50 => ?_) (fun h50 => ?_)
      · refine zb X_shift_s66 rfl ?_
        refine z_ret X_shift_d68 rfl ?_
        first
          | (have f := fin_shift (s := 1) (p := 1) (a := x) (b := y) (N := N) hS (by omega) (by omega) (by omega)
             rw [cN, cx, cy]
             exact ⟨rfl, f.1, f.2⟩)
          | (have q : ¬ bP 14 j n μ := zB_eq0.mp h89
             rw [opSh_c (by omega) (by omega) f1 f2 hsrt (fun z => q (P2.mpr (And.intro z.2.2.1 (And.intro z.1 (by rw [← ew]; exact z.2.2.2.2)))))]
             exact ⟨rfl, hS, onlyX.rf⟩)
          | (have q : ¬ bP 14 i n μ := zB_eq0.mp h77
             rw [opSh_c (by omega) (by omega) f1 f2 hsrt (fun z => q (P1.mpr (And.intro z.2.1 (And.intro z.1 (by rw [← em]; exact z.2.2.2.1)))))]
             exact ⟨rfl, hS, onlyX.rf⟩)
          | (have q := zB_eq0.mp h63
             have f1 : hHeld S 1 = 2 := R1.mp (zB_ne0.mp h50)
             have n2 : ¬ hHeld S 1 = 0 := fun z => (show ¬ bE 14 μ from zB_eq0.mp h39) (E2.mpr z)
             rw [opSh_b (by omega) (by omega) (by rw [f1]; decide) n2 (by
               by_cases z : hHeld S 1 = 2
               · refine Or.inr (Or.inr (fun y => q (And.intro (R2.mpr z) ?_)))
                 exact (show μ.1 14 2 = _ from (xsh2 hS hok (show 1 < 6 by omega) z).1).trans (y.symm.trans (show μ.1 14 2 = _ from (xsh2 hS hok (show 1 < 6 by omega) f1).1).symm)
               · exact Or.inr (Or.inl (xsh1 hok (by omega) n2 z)))]
             exact ⟨rfl, hS, onlyX.rf⟩)
          | (have q : ¬ bR 14 μ := zB_eq0.mp h50
             have n1 : ¬ hHeld S 1 = 0 := fun z => (show ¬ bE 14 μ from zB_eq0.mp h31) (E1.mpr z)
             have n2 : ¬ hHeld S 1 = 0 := fun z => (show ¬ bE 14 μ from zB_eq0.mp h39) (E2.mpr z)
             rw [opSh_b (by omega) (by omega) n1 n2 (Or.inl (xsh1 hok (by omega) n1 (fun z => q (R1.mpr z))))]
             exact ⟨rfl, hS, onlyX.rf⟩)
          | (have q : bE 14 μ := zB_ne0.mp h39
             rw [opSh_a (by omega) (by omega) (Or.inr (E2.mp q))]
             exact ⟨rfl, hS, onlyX.rf⟩)
          | (have q : bE 14 μ := zB_ne0.mp h31
             rw [opSh_a (by omega) (by omega) (Or.inl (E1.mp q))]
             exact ⟨rfl, hS, onlyX.rf⟩)
      · refine zb X_shift_s53 rfl ?_
        refine zcallV X_shift_d60 k10_101 (by omega) (x_isRowOf_1 _ (by omega)) rfl rfl rfl (Nat.le_of_ble_eq_true rfl) ?_
        rintro _ μx ⟨rfl, hx⟩
        rw [hx]
        clear hx μx
        refine z_ne X_shift_d63 (tgt := 69) rfl (fun h63 => ?_) (fun h63 => ?_)
        · have f1 : hHeld S 1 = 2 := R1.mp (zB_ne0.mp h50)
          have f2 : hHeld S 1 = 2 := R2.mp (zB_ne0.mp h63).1
          obtain ⟨a1, a2, m, hm, em⟩ := xsh2 hS hok (show 1 < 6 by omega) f1
          obtain ⟨b1, b2, w, hw, ew⟩ := xsh2 hS hok (show 1 < 6 by omega) f2
          have hsrt : hSort S 1 = hSort S 1 := a1.symm.trans ((zB_ne0.mp h63).2.symm.trans b1)
          have P1 := bPn (i := i) (n := n) hm (a2.trans em)
          have P2 := bPn (i := j) (n := n) hw (b2.trans ew)
          refine zb X_shift_s69 rfl ?_
          refine zcallV X_shift_d74 k10_363 (by omega) (x_hasPlaces_1 _ _) rfl rfl rfl (Nat.le_of_ble_eq_true rfl) ?_
          rintro _ μx ⟨rfl, hx⟩
          rw [hx]
          clear hx μx
          refine z_eq X_shift_d77 (tgt := 92) rfl (fun h77 => ?_) (fun h77 => ?_)
          · refine zb X_shift_s92 rfl ?_
            refine z_ret X_shift_d94 rfl ?_
            first
              | (have f := fin_shift (s := 1) (p := 1) (a := x) (b := y) (N := N) hS (by omega) (by omega) (by omega)
                 rw [cN, cx, cy]
                 exact ⟨rfl, f.1, f.2⟩)
              | (have q : ¬ bP 14 j n μ := zB_eq0.mp h89
                 rw [opSh_c (by omega) (by omega) f1 f2 hsrt (fun z => q (P2.mpr (And.intro z.2.2.1 (And.intro z.1 (by rw [← ew]; exact z.2.2.2.2)))))]
                 exact ⟨rfl, hS, onlyX.rf⟩)
              | (have q : ¬ bP 14 i n μ := zB_eq0.mp h77
                 rw [opSh_c (by omega) (by omega) f1 f2 hsrt (fun z => q (P1.mpr (And.intro z.2.1 (And.intro z.1 (by rw [← em]; exact z.2.2.2.1)))))]
                 exact ⟨rfl, hS, onlyX.rf⟩)
              | (have q := zB_eq0.mp h63
                 have f1 : hHeld S 1 = 2 := R1.mp (zB_ne0.mp h50)
                 have n2 : ¬ hHeld S 1 = 0 := fun z => (show ¬ bE 14 μ from zB_eq0.mp h39) (E2.mpr z)
                 rw [opSh_b (by omega) (by omega) (by rw [f1]; decide) n2 (by
                   by_cases z : hHeld S 1 = 2
                   · refine Or.inr (Or.inr (fun y => q (And.intro (R2.mpr z) ?_)))
                     exact (show μ.1 14 2 = _ from (xsh2 hS hok (show 1 < 6 by omega) z).1).trans (y.symm.trans (show μ.1 14 2 = _ from (xsh2 hS hok (show 1 < 6 by omega) f1).1).symm)
                   · exact Or.inr (Or.inl (xsh1 hok (by omega) n2 z)))]
                 exact ⟨rfl, hS, onlyX.rf⟩)
              | (have q : ¬ bR 14 μ := zB_eq0.mp h50
                 have n1 : ¬ hHeld S 1 = 0 := fun z => (show ¬ bE 14 μ from zB_eq0.mp h31) (E1.mpr z)
                 have n2 : ¬ hHeld S 1 = 0 := fun z => (show ¬ bE 14 μ from zB_eq0.mp h39) (E2.mpr z)
                 rw [opSh_b (by omega) (by omega) n1 n2 (Or.inl (xsh1 hok (by omega) n1 (fun z => q (R1.mpr z))))]
                 exact ⟨rfl, hS, onlyX.rf⟩)
              | (have q : bE 14 μ := zB_ne0.mp h39
                 rw [opSh_a (by omega) (by omega) (Or.inr (E2.mp q))]
                 exact ⟨rfl, hS, onlyX.rf⟩)
              | (have q : bE 14 μ := zB_ne0.mp h31
                 rw [opSh_a (by omega) (by omega) (Or.inl (E1.mp q))]
                 exact ⟨rfl, hS, onlyX.rf⟩)
          · refine zb X_shift_s80 rfl ?_
            refine zcallV X_shift_d86 k10_363 (by omega) (x_hasPlaces_1 _ _) rfl rfl rfl (Nat.le_of_ble_eq_true rfl) ?_
            rintro _ μx ⟨rfl, hx⟩
            rw [hx]
            clear hx μx
            refine z_ne X_shift_d89 (tgt := 95) rfl (fun h89 => ?_) (fun h89 => ?_)
            · have g1 := P1.mp (zB_ne0.mp h77)
              have g2 := P2.mp (zB_ne0.mp h89)
              have hall : 0 ≤ n ∧ 0 ≤ i ∧ 0 ≤ j ∧ i ≤ hSize S 1 - n ∧ j ≤ hSize S 1 - n := by
                exact ⟨g1.2.1, g1.1, g2.1, by rw [em]; exact g1.2.2, by rw [ew]; exact g2.2.2⟩
              rw [opSh_d (by omega) (by omega) f1 f2 hsrt hall]
              clear hall
              obtain ⟨N, hN, rfl⟩ := nI_of (Int32.not_lt.mpr g1.2.1)
              obtain ⟨x, hx, rfl⟩ := nI_of (Int32.not_lt.mpr g1.1)
              obtain ⟨y, hy, rfl⟩ := nI_of (Int32.not_lt.mpr g2.1)
              have k1 := (le_sub hx hm hN).mp g1.2.2
              have k2 := (le_sub hy hw hN).mp g2.2.2
              have cN : (nI N).toNatClampNeg = N := nI_clamp hN
              have cx : (nI x).toNatClampNeg = x := nI_clamp hx
              have cy : (nI y).toNatClampNeg = y := nI_clamp hy
              refine zb X_shift_s95 rfl ?_
              refine zcpL X_shift_d110 k10_366 (by omega) (Nat.le_of_ble_eq_true rfl) rfl rfl (nI_pos (by omega)) (nI_pos (by omega)) (nI_pos (by omega)) (by rw [cN, cx]; omega) (by rw [cN, cy]; omega) ?_
              refine zb X_shift_s113 rfl ?_
              refine z_ret X_shift_d115 rfl ?_
              first
                | (have f := fin_shift (s := 1) (p := 1) (a := x) (b := y) (N := N) hS (by omega) (by omega) (by omega)
                   rw [cN, cx, cy]
                   exact ⟨rfl, f.1, f.2⟩)
                | (have q : ¬ bP 14 j n μ := zB_eq0.mp h89
                   rw [opSh_c (by omega) (by omega) f1 f2 hsrt (fun z => q (P2.mpr (And.intro z.2.2.1 (And.intro z.1 (by rw [← ew]; exact z.2.2.2.2)))))]
                   exact ⟨rfl, hS, onlyX.rf⟩)
                | (have q : ¬ bP 14 i n μ := zB_eq0.mp h77
                   rw [opSh_c (by omega) (by omega) f1 f2 hsrt (fun z => q (P1.mpr (And.intro z.2.1 (And.intro z.1 (by rw [← em]; exact z.2.2.2.1)))))]
                   exact ⟨rfl, hS, onlyX.rf⟩)
                | (have q := zB_eq0.mp h63
                   have f1 : hHeld S 1 = 2 := R1.mp (zB_ne0.mp h50)
                   have n2 : ¬ hHeld S 1 = 0 := fun z => (show ¬ bE 14 μ from zB_eq0.mp h39) (E2.mpr z)
                   rw [opSh_b (by omega) (by omega) (by rw [f1]; decide) n2 (by
                     by_cases z : hHeld S 1 = 2
                     · refine Or.inr (Or.inr (fun y => q (And.intro (R2.mpr z) ?_)))
                       exact (show μ.1 14 2 = _ from (xsh2 hS hok (show 1 < 6 by omega) z).1).trans (y.symm.trans (show μ.1 14 2 = _ from (xsh2 hS hok (show 1 < 6 by omega) f1).1).symm)
                     · exact Or.inr (Or.inl (xsh1 hok (by omega) n2 z)))]
                   exact ⟨rfl, hS, onlyX.rf⟩)
                | (have q : ¬ bR 14 μ := zB_eq0.mp h50
                   have n1 : ¬ hHeld S 1 = 0 := fun z => (show ¬ bE 14 μ from zB_eq0.mp h31) (E1.mpr z)
                   have n2 : ¬ hHeld S 1 = 0 := fun z => (show ¬ bE 14 μ from zB_eq0.mp h39) (E2.mpr z)
                   rw [opSh_b (by omega) (by omega) n1 n2 (Or.inl (xsh1 hok (by omega) n1 (fun z => q (R1.mpr z))))]
                   exact ⟨rfl, hS, onlyX.rf⟩)
                | (have q : bE 14 μ := zB_ne0.mp h39
                   rw [opSh_a (by omega) (by omega) (Or.inr (E2.mp q))]
                   exact ⟨rfl, hS, onlyX.rf⟩)
                | (have q : bE 14 μ := zB_ne0.mp h31
                   rw [opSh_a (by omega) (by omega) (Or.inl (E1.mp q))]
                   exact ⟨rfl, hS, onlyX.rf⟩)
            · refine zb X_shift_s92 rfl ?_
              refine z_ret X_shift_d94 rfl ?_
              first
                | (have f := fin_shift (s := 1) (p := 1) (a := x) (b := y) (N := N) hS (by omega) (by omega) (by omega)
                   rw [cN, cx, cy]
                   exact ⟨rfl, f.1, f.2⟩)
                | (have q : ¬ bP 14 j n μ := zB_eq0.mp h89
                   rw [opSh_c (by omega) (by omega) f1 f2 hsrt (fun z => q (P2.mpr (And.intro z.2.2.1 (And.intro z.1 (by rw [← ew]; exact z.2.2.2.2)))))]
                   exact ⟨rfl, hS, onlyX.rf⟩)
                | (have q : ¬ bP 14 i n μ := zB_eq0.mp h77
                   rw [opSh_c (by omega) (by omega) f1 f2 hsrt (fun z => q (P1.mpr (And.intro z.2.1 (And.intro z.1 (by rw [← em]; exact z.2.2.2.1)))))]
                   exact ⟨rfl, hS, onlyX.rf⟩)
                | (have q := zB_eq0.mp h63
                   have f1 : hHeld S 1 = 2 := R1.mp (zB_ne0.mp h50)
                   have n2 : ¬ hHeld S 1 = 0 := fun z => (show ¬ bE 14 μ from zB_eq0.mp h39) (E2.mpr z)
                   rw [opSh_b (by omega) (by omega) (by rw [f1]; decide) n2 (by
                     by_cases z : hHeld S 1 = 2
                     · refine Or.inr (Or.inr (fun y => q (And.intro (R2.mpr z) ?_)))
                       exact (show μ.1 14 2 = _ from (xsh2 hS hok (show 1 < 6 by omega) z).1).trans (y.symm.trans (show μ.1 14 2 = _ from (xsh2 hS hok (show 1 < 6 by omega) f1).1).symm)
                     · exact Or.inr (Or.inl (xsh1 hok (by omega) n2 z)))]
                   exact ⟨rfl, hS, onlyX.rf⟩)
                | (have q : ¬ bR 14 μ := zB_eq0.mp h50
                   have n1 : ¬ hHeld S 1 = 0 := fun z => (show ¬ bE 14 μ from zB_eq0.mp h31) (E1.mpr z)
                   have n2 : ¬ hHeld S 1 = 0 := fun z => (show ¬ bE 14 μ from zB_eq0.mp h39) (E2.mpr z)
                   rw [opSh_b (by omega) (by omega) n1 n2 (Or.inl (xsh1 hok (by omega) n1 (fun z => q (R1.mpr z))))]
                   exact ⟨rfl, hS, onlyX.rf⟩)
                | (have q : bE 14 μ := zB_ne0.mp h39
                   rw [opSh_a (by omega) (by omega) (Or.inr (E2.mp q))]
                   exact ⟨rfl, hS, onlyX.rf⟩)
                | (have q : bE 14 μ := zB_ne0.mp h31
                   rw [opSh_a (by omega) (by omega) (Or.inl (E1.mp q))]
                   exact ⟨rfl, hS, onlyX.rf⟩)
        · refine zb X_shift_s66 rfl ?_
          refine z_ret X_shift_d68 rfl ?_
          first
            | (have f := fin_shift (s := 1) (p := 1) (a := x) (b := y) (N := N) hS (by omega) (by omega) (by omega)
               rw [cN, cx, cy]
               exact ⟨rfl, f.1, f.2⟩)
            | (have q : ¬ bP 14 j n μ := zB_eq0.mp h89
               rw [opSh_c (by omega) (by omega) f1 f2 hsrt (fun z => q (P2.mpr (And.intro z.2.2.1 (And.intro z.1 (by rw [← ew]; exact z.2.2.2.2)))))]
               exact ⟨rfl, hS, onlyX.rf⟩)
            | (have q : ¬ bP 14 i n μ := zB_eq0.mp h77
               rw [opSh_c (by omega) (by omega) f1 f2 hsrt (fun z => q (P1.mpr (And.intro z.2.1 (And.intro z.1 (by rw [← em]; exact z.2.2.2.1)))))]
               exact ⟨rfl, hS, onlyX.rf⟩)
            | (have q := zB_eq0.mp h63
               have f1 : hHeld S 1 = 2 := R1.mp (zB_ne0.mp h50)
               have n2 : ¬ hHeld S 1 = 0 := fun z => (show ¬ bE 14 μ from zB_eq0.mp h39) (E2.mpr z)
               rw [opSh_b (by omega) (by omega) (by rw [f1]; decide) n2 (by
                 by_cases z : hHeld S 1 = 2
                 · refine Or.inr (Or.inr (fun y => q (And.intro (R2.mpr z) ?_)))
                   exact (show μ.1 14 2 = _ from (xsh2 hS hok (show 1 < 6 by omega) z).1).trans (y.symm.trans (show μ.1 14 2 = _ from (xsh2 hS hok (show 1 < 6 by omega) f1).1).symm)
                 · exact Or.inr (Or.inl (xsh1 hok (by omega) n2 z)))]
               exact ⟨rfl, hS, onlyX.rf⟩)
            | (have q : ¬ bR 14 μ := zB_eq0.mp h50
               have n1 : ¬ hHeld S 1 = 0 := fun z => (show ¬ bE 14 μ from zB_eq0.mp h31) (E1.mpr z)
               have n2 : ¬ hHeld S 1 = 0 := fun z => (show ¬ bE 14 μ from zB_eq0.mp h39) (E2.mpr z)
               rw [opSh_b (by omega) (by omega) n1 n2 (Or.inl (xsh1 hok (by omega) n1 (fun z => q (R1.mpr z))))]
               exact ⟨rfl, hS, onlyX.rf⟩)
            | (have q : bE 14 μ := zB_ne0.mp h39
               rw [opSh_a (by omega) (by omega) (Or.inr (E2.mp q))]
               exact ⟨rfl, hS, onlyX.rf⟩)
            | (have q : bE 14 μ := zB_ne0.mp h31
               rw [opSh_a (by omega) (by omega) (Or.inl (E1.mp q))]
               exact ⟨rfl, hS, onlyX.rf⟩)
    · refine zb X_shift_s42 rfl ?_
      refine z_ret X_shift_d44 rfl ?_
      first
        | (have f := fin_shift (s := 1) (p := 1) (a := x) (b := y) (N := N) hS (by omega) (by omega) (by omega)
           rw [cN, cx, cy]
           exact ⟨rfl, f.1, f.2⟩)
        | (have q : ¬ bP 14 j n μ := zB_eq0.mp h89
           rw [opSh_c (by omega) (by omega) f1 f2 hsrt (fun z => q (P2.mpr (And.intro z.2.2.1 (And.intro z.1 (by rw [← ew]; exact z.2.2.2.2)))))]
           exact ⟨rfl, hS, onlyX.rf⟩)
        | (have q : ¬ bP 14 i n μ := zB_eq0.mp h77
           rw [opSh_c (by omega) (by omega) f1 f2 hsrt (fun z => q (P1.mpr (And.intro z.2.1 (And.intro z.1 (by rw [← em]; exact z.2.2.2.1)))))]
           exact ⟨rfl, hS, onlyX.rf⟩)
        | (have q := zB_eq0.mp h63
           have f1 : hHeld S 1 = 2 := R1.mp (zB_ne0.mp h50)
           have n2 : ¬ hHeld S 1 = 0 := fun z => (show ¬ bE 14 μ from zB_eq0.mp h39) (E2.mpr z)
           rw [opSh_b (by omega) (by omega) (by rw [f1]; decide) n2 (by
             by_cases z : hHeld S 1 = 2
             · refine Or.inr (Or.inr (fun y => q (And.intro (R2.mpr z) ?_)))
               exact (show μ.1 14 2 = _ from (xsh2 hS hok (show 1 < 6 by omega) z).1).trans (y.symm.trans (show μ.1 14 2 = _ from (xsh2 hS hok (show 1 < 6 by omega) f1).1).symm)
             · exact Or.inr (Or.inl (xsh1 hok (by omega) n2 z)))]
           exact ⟨rfl, hS, onlyX.rf⟩)
        | (have q : ¬ bR 14 μ := zB_eq0.mp h50
           have n1 : ¬ hHeld S 1 = 0 := fun z => (show ¬ bE 14 μ from zB_eq0.mp h31) (E1.mpr z)
           have n2 : ¬ hHeld S 1 = 0 := fun z => (show ¬ bE 14 μ from zB_eq0.mp h39) (E2.mpr z)
           rw [opSh_b (by omega) (by omega) n1 n2 (Or.inl (xsh1 hok (by omega) n1 (fun z => q (R1.mpr z))))]
           exact ⟨rfl, hS, onlyX.rf⟩)
        | (have q : bE 14 μ := zB_ne0.mp h39
           rw [opSh_a (by omega) (by omega) (Or.inr (E2.mp q))]
           exact ⟨rfl, hS, onlyX.rf⟩)
        | (have q : bE 14 μ := zB_ne0.mp h31
           rw [opSh_a (by omega) (by omega) (Or.inl (E1.mp q))]
           exact ⟨rfl, hS, onlyX.rf⟩)

set_option maxRecDepth 100000 in
set_option maxHeartbeats 4000000 in
theorem xs_shift_1_2 {g : zG} {d : Nat} {S : zS} {μ : zMem} {i j n : Int32} (hd : 2 ≤ d) (hS : xS S μ) (hok : okH S) : zM g d X_shift [.ref 1, .int (nI 1), .int i, .int (nI 2), .int j, .int n] μ (pO xS onlyX (opShift S (nI 1) i (nI 2) j n) μ) := by
  refine zM_of (by decide +kernel) rfl rfl (Nat.le_of_ble_eq_true rfl) rfl ?_
  obtain ⟨ho, h2, hT, hC, hD, hI, hA, hH⟩ := hS
  have hS : xS S μ := ⟨ho, h2, hT, hC, hD, hI, hA, hH⟩
  have hb := ho.b
  have hv := ho.v
  have hB6 := ho.b6
  have hV12 := ho.v12
  have hz : zq sX μ μ := zq.rf
  have E1 := xshE (s := 1) hS hok (by omega)
  have E2 := xshE (s := 2) hS hok (by omega)
  have R1 := xshR (s := 1) hS hok (by omega)
  have R2 := xshR (s := 2) hS hok (by omega)
  refine zb X_shift_s0 rfl ?_
  refine zcallV X_shift_d2 k10_93 (by omega) (x_shelf_1 (by omega)) rfl rfl rfl (Nat.le_of_ble_eq_true rfl) ?_
  rintro _ μx ⟨rfl, hx⟩
  rw [hx]
  clear hx μx
  refine zb X_shift_s5 rfl ?_
  refine zcallV X_shift_d9 k10_93 (by omega) (x_shelf_2 (by omega)) rfl rfl rfl (Nat.le_of_ble_eq_true rfl) ?_
  rintro _ μx ⟨rfl, hx⟩
  rw [hx]
  clear hx μx
  refine zb X_shift_s12 rfl ?_
  refine z_null X_shift_d16 ?_
  refine zb X_shift_s19 rfl ?_
  refine z_nonnull X_shift_d21 (tgt := 26) rfl ?_
  refine zb X_shift_s26 rfl ?_
  refine zcallV X_shift_d28 k10_97 (by omega) (x_isEmpty_1) rfl rfl rfl (Nat.le_of_ble_eq_true rfl) ?_
  rintro _ μx ⟨rfl, hx⟩
  rw [hx]
  clear hx μx
  refine z_ne X_shift_d31 (tgt := 42) rfl (fun h31 => ?_) (fun h31 => ?_)
  · refine zb X_shift_s42 rfl ?_
    refine z_ret X_shift_d44 rfl ?_
    first
      | (have f := fin_shift (s := 1) (p := 2) (a := x) (b := y) (N := N) hS (by omega) (by omega) (by omega)
         rw [cN, cx, cy]
         exact ⟨rfl, f.1, f.2⟩)
      | (have q : ¬ bP 15 j n μ := zB_eq0.mp h89
         rw [opSh_c (by omega) (by omega) f1 f2 hsrt (fun z => q (P2.mpr (And.intro z.2.2.1 (And.intro z.1 (by rw [← ew]; exact z.2.2.2.2)))))]
         exact ⟨rfl, hS, onlyX.rf⟩)
      | (have q : ¬ bP 14 i n μ := zB_eq0.mp h77
         rw [opSh_c (by omega) (by omega) f1 f2 hsrt (fun z => q (P1.mpr (And.intro z.2.1 (And.intro z.1 (by rw [← em]; exact z.2.2.2.1)))))]
         exact ⟨rfl, hS, onlyX.rf⟩)
      | (have q := zB_eq0.mp h63
         have f1 : hHeld S 1 = 2 := R1.mp (zB_ne0.mp h50)
         have n2 : ¬ hHeld S 2 = 0 := fun z => (show ¬ bE 15 μ from zB_eq0.mp h39) (E2.mpr z)
         rw [opSh_b (by omega) (by omega) (by rw [f1]; decide) n2 (by
           by_cases z : hHeld S 2 = 2
           · refine Or.inr (Or.inr (fun y => q (And.intro (R2.mpr z) ?_)))
             exact (show μ.1 15 2 = _ from (xsh2 hS hok (show 2 < 6 by omega) z).1).trans (y.symm.trans (show μ.1 14 2 = _ from (xsh2 hS hok (show 1 < 6 by omega) f1).1).symm)
           · exact Or.inr (Or.inl (xsh1 hok (by omega) n2 z)))]
         exact ⟨rfl, hS, onlyX.rf⟩)
      | (have q : ¬ bR 14 μ := zB_eq0.mp h50
         have n1 : ¬ hHeld S 1 = 0 := fun z => (show ¬ bE 14 μ from zB_eq0.mp h31) (E1.mpr z)
         have n2 : ¬ hHeld S 2 = 0 := fun z => (show ¬ bE 15 μ from zB_eq0.mp h39) (E2.mpr z)
         rw [opSh_b (by omega) (by omega) n1 n2 (Or.inl (xsh1 hok (by omega) n1 (fun z => q (R1.mpr z))))]
         exact ⟨rfl, hS, onlyX.rf⟩)
      | (have q : bE 15 μ := zB_ne0.mp h39
         rw [opSh_a (by omega) (by omega) (Or.inr (E2.mp q))]
         exact ⟨rfl, hS, onlyX.rf⟩)
      | (have q : bE 14 μ := zB_ne0.mp h31
         rw [opSh_a (by omega) (by omega) (Or.inl (E1.mp q))]
         exact ⟨rfl, hS, onlyX.rf⟩)
  · refine zb X_shift_s34 rfl ?_
    refine zcallV X_shift_d36 k10_97 (by omega) (x_isEmpty_2) rfl rfl rfl (Nat.le_of_ble_eq_true rfl) ?_
    rintro _ μx ⟨rfl, hx⟩
    rw [hx]
    clear hx μx
    refine z_eq X_shift_d39 (tgt := 45) rfl (fun h39 => ?_) (fun h39 => ?_)
    · refine zb X_shift_s45 rfl ?_
      refine zcallV X_shift_d47 k10_357 (by omega) (x_isRow_1) rfl rfl rfl (Nat.le_of_ble_eq_true rfl) ?_
      rintro _ μx ⟨rfl, hx⟩
      rw [hx]
      clear hx μx
      refine z_eq X_shift_d50 (tgt := 66) rfl (fun h50 => ?_) (fun h50 => ?_)
      · refine zb X_shift_s66 rfl ?_
        refine z_ret X_shift_d68 rfl ?_
        first
          | (have f := fin_shift (s := 1) (p := 2) (a := x) (b := y) (N := N) hS (by omega) (by omega) (by omega)
             rw [cN, cx, cy]
             exact ⟨rfl, f.1, f.2⟩)
          | (have q : ¬ bP 15 j n μ := zB_eq0.mp h89
             rw [opSh_c (by omega) (by omega) f1 f2 hsrt (fun z => q (P2.mpr (And.intro z.2.2.1 (And.intro z.1 (by rw [← ew]; exact z.2.2.2.2)))))]
             exact ⟨rfl, hS, onlyX.rf⟩)
          | (have q : ¬ bP 14 i n μ := zB_eq0.mp h77
             rw [opSh_c (by omega) (by omega) f1 f2 hsrt (fun z => q (P1.mpr (And.intro z.2.1 (And.intro z.1 (by rw [← em]; exact z.2.2.2.1)))))]
             exact ⟨rfl, hS, onlyX.rf⟩)
          | (have q := zB_eq0.mp h63
             have f1 : hHeld S 1 = 2 := R1.mp (zB_ne0.mp h50)
             have n2 : ¬ hHeld S 2 = 0 := fun z => (show ¬ bE 15 μ from zB_eq0.mp h39) (E2.mpr z)
             rw [opSh_b (by omega) (by omega) (by rw [f1]; decide) n2 (by
               by_cases z : hHeld S 2 = 2
               · refine Or.inr (Or.inr (fun y => q (And.intro (R2.mpr z) ?_)))
                 exact (show μ.1 15 2 = _ from (xsh2 hS hok (show 2 < 6 by omega) z).1).trans (y.symm.trans (show μ.1 14 2 = _ from (xsh2 hS hok (show 1 < 6 by omega) f1).1).symm)
               · exact Or.inr (Or.inl (xsh1 hok (by omega) n2 z)))]
             exact ⟨rfl, hS, onlyX.rf⟩)
          | (have q : ¬ bR 14 μ := zB_eq0.mp h50
             have n1 : ¬ hHeld S 1 = 0 := fun z => (show ¬ bE 14 μ from zB_eq0.mp h31) (E1.mpr z)
             have n2 : ¬ hHeld S 2 = 0 := fun z => (show ¬ bE 15 μ from zB_eq0.mp h39) (E2.mpr z)
             rw [opSh_b (by omega) (by omega) n1 n2 (Or.inl (xsh1 hok (by omega) n1 (fun z => q (R1.mpr z))))]
             exact ⟨rfl, hS, onlyX.rf⟩)
          | (have q : bE 15 μ := zB_ne0.mp h39
             rw [opSh_a (by omega) (by omega) (Or.inr (E2.mp q))]
             exact ⟨rfl, hS, onlyX.rf⟩)
          | (have q : bE 14 μ := zB_ne0.mp h31
             rw [opSh_a (by omega) (by omega) (Or.inl (E1.mp q))]
             exact ⟨rfl, hS, onlyX.rf⟩)
      · refine zb X_shift_s53 rfl ?_
        refine zcallV X_shift_d60 k10_101 (by omega) (x_isRowOf_2 _ (by omega)) rfl rfl rfl (Nat.le_of_ble_eq_true rfl) ?_
        rintro _ μx ⟨rfl, hx⟩
        rw [hx]
        clear hx μx
        refine z_ne X_shift_d63 (tgt := 69) rfl (fun h63 => ?_) (fun h63 => ?_)
        · have f1 : hHeld S 1 = 2 := R1.mp (zB_ne0.mp h50)
          have f2 : hHeld S 2 = 2 := R2.mp (zB_ne0.mp h63).1
          obtain ⟨a1, a2, m, hm, em⟩ := xsh2 hS hok (show 1 < 6 by omega) f1
          obtain ⟨b1, b2, w, hw, ew⟩ := xsh2 hS hok (show 2 < 6 by omega) f2
          have hsrt : hSort S 1 = hSort S 2 := a1.symm.trans ((zB_ne0.mp h63).2.symm.trans b1)
          have P1 := bPn (i := i) (n := n) hm (a2.trans em)
          have P2 := bPn (i := j) (n := n) hw (b2.trans ew)
          refine zb X_shift_s69 rfl ?_
          refine zcallV X_shift_d74 k10_363 (by omega) (x_hasPlaces_1 _ _) rfl rfl rfl (Nat.le_of_ble_eq_true rfl) ?_
          rintro _ μx ⟨rfl, hx⟩
          rw [hx]
          clear hx μx
          refine z_eq X_shift_d77 (tgt := 92) rfl (fun h77 => ?_) (fun h77 => ?_)
          · refine zb X_shift_s92 rfl ?_
            refine z_ret X_shift_d94 rfl ?_
            first
              | (have f := fin_shift (s := 1) (p := 2) (a := x) (b := y) (N := N) hS (by omega) (by omega) (by omega)
                 rw [cN, cx, cy]
                 exact ⟨rfl, f.1, f.2⟩)
              | (have q : ¬ bP 15 j n μ := zB_eq0.mp h89
                 rw [opSh_c (by omega) (by omega) f1 f2 hsrt (fun z => q (P2.mpr (And.intro z.2.2.1 (And.intro z.1 (by rw [← ew]; exact z.2.2.2.2)))))]
                 exact ⟨rfl, hS, onlyX.rf⟩)
              | (have q : ¬ bP 14 i n μ := zB_eq0.mp h77
                 rw [opSh_c (by omega) (by omega) f1 f2 hsrt (fun z => q (P1.mpr (And.intro z.2.1 (And.intro z.1 (by rw [← em]; exact z.2.2.2.1)))))]
                 exact ⟨rfl, hS, onlyX.rf⟩)
              | (have q := zB_eq0.mp h63
                 have f1 : hHeld S 1 = 2 := R1.mp (zB_ne0.mp h50)
                 have n2 : ¬ hHeld S 2 = 0 := fun z => (show ¬ bE 15 μ from zB_eq0.mp h39) (E2.mpr z)
                 rw [opSh_b (by omega) (by omega) (by rw [f1]; decide) n2 (by
                   by_cases z : hHeld S 2 = 2
                   · refine Or.inr (Or.inr (fun y => q (And.intro (R2.mpr z) ?_)))
                     exact (show μ.1 15 2 = _ from (xsh2 hS hok (show 2 < 6 by omega) z).1).trans (y.symm.trans (show μ.1 14 2 = _ from (xsh2 hS hok (show 1 < 6 by omega) f1).1).symm)
                   · exact Or.inr (Or.inl (xsh1 hok (by omega) n2 z)))]
                 exact ⟨rfl, hS, onlyX.rf⟩)
              | (have q : ¬ bR 14 μ := zB_eq0.mp h50
                 have n1 : ¬ hHeld S 1 = 0 := fun z => (show ¬ bE 14 μ from zB_eq0.mp h31) (E1.mpr z)
                 have n2 : ¬ hHeld S 2 = 0 := fun z => (show ¬ bE 15 μ from zB_eq0.mp h39) (E2.mpr z)
                 rw [opSh_b (by omega) (by omega) n1 n2 (Or.inl (xsh1 hok (by omega) n1 (fun z => q (R1.mpr z))))]
                 exact ⟨rfl, hS, onlyX.rf⟩)
              | (have q : bE 15 μ := zB_ne0.mp h39
                 rw [opSh_a (by omega) (by omega) (Or.inr (E2.mp q))]
                 exact ⟨rfl, hS, onlyX.rf⟩)
              | (have q : bE 14 μ := zB_ne0.mp h31
                 rw [opSh_a (by omega) (by omega) (Or.inl (E1.mp q))]
                 exact ⟨rfl, hS, onlyX.rf⟩)
          · refine zb X_shift_s80 rfl ?_
            refine zcallV X_shift_d86 k10_363 (by omega) (x_hasPlaces_2 _ _) rfl rfl rfl (Nat.le_of_ble_eq_true rfl) ?_
            rintro _ μx ⟨rfl, hx⟩
            rw [hx]
            clear hx μx
            refine z_ne X_shift_d89 (tgt := 95) rfl (fun h89 => ?_) (fun h89 => ?_)
            · have g1 := P1.mp (zB_ne0.mp h77)
              have g2 := P2.mp (zB_ne0.mp h89)
              have hall : 0 ≤ n ∧ 0 ≤ i ∧ 0 ≤ j ∧ i ≤ hSize S 1 - n ∧ j ≤ hSize S 2 - n := by
                exact ⟨g1.2.1, g1.1, g2.1, by rw [em]; exact g1.2.2, by rw [ew]; exact g2.2.2⟩
              rw [opSh_d (by omega) (by omega) f1 f2 hsrt hall]
              clear hall
              obtain ⟨N, hN, rfl⟩ := nI_of (Int32.not_lt.mpr g1.2.1)
              obtain ⟨x, hx, rfl⟩ := nI_of (Int32.not_lt.mpr g1.1)
              obtain ⟨y, hy, rfl⟩ := nI_of (Int32.not_lt.mpr g2.1)
              have k1 := (le_sub hx hm hN).mp g1.2.2
              have k2 := (le_sub hy hw hN).mp g2.2.2
              have cN : (nI N).toNatClampNeg = N := nI_clamp hN
              have cx : (nI x).toNatClampNeg = x := nI_clamp hx
              have cy : (nI y).toNatClampNeg = y := nI_clamp hy
              refine zb X_shift_s95 rfl ?_
              refine zcpL X_shift_d110 k10_366 (by omega) (Nat.le_of_ble_eq_true rfl) rfl rfl (nI_pos (by omega)) (nI_pos (by omega)) (nI_pos (by omega)) (by rw [cN, cx]; omega) (by rw [cN, cy]; omega) ?_
              refine zb X_shift_s113 rfl ?_
              refine z_ret X_shift_d115 rfl ?_
              first
                | (have f := fin_shift (s := 1) (p := 2) (a := x) (b := y) (N := N) hS (by omega) (by omega) (by omega)
                   rw [cN, cx, cy]
                   exact ⟨rfl, f.1, f.2⟩)
                | (have q : ¬ bP 15 j n μ := zB_eq0.mp h89
                   rw [opSh_c (by omega) (by omega) f1 f2 hsrt (fun z => q (P2.mpr (And.intro z.2.2.1 (And.intro z.1 (by rw [← ew]; exact z.2.2.2.2)))))]
                   exact ⟨rfl, hS, onlyX.rf⟩)
                | (have q : ¬ bP 14 i n μ := zB_eq0.mp h77
                   rw [opSh_c (by omega) (by omega) f1 f2 hsrt (fun z => q (P1.mpr (And.intro z.2.1 (And.intro z.1 (by rw [← em]; exact z.2.2.2.1)))))]
                   exact ⟨rfl, hS, onlyX.rf⟩)
                | (have q := zB_eq0.mp h63
                   have f1 : hHeld S 1 = 2 := R1.mp (zB_ne0.mp h50)
                   have n2 : ¬ hHeld S 2 = 0 := fun z => (show ¬ bE 15 μ from zB_eq0.mp h39) (E2.mpr z)
                   rw [opSh_b (by omega) (by omega) (by rw [f1]; decide) n2 (by
                     by_cases z : hHeld S 2 = 2
                     · refine Or.inr (Or.inr (fun y => q (And.intro (R2.mpr z) ?_)))
                       exact (show μ.1 15 2 = _ from (xsh2 hS hok (show 2 < 6 by omega) z).1).trans (y.symm.trans (show μ.1 14 2 = _ from (xsh2 hS hok (show 1 < 6 by omega) f1).1).symm)
                     · exact Or.inr (Or.inl (xsh1 hok (by omega) n2 z)))]
                   exact ⟨rfl, hS, onlyX.rf⟩)
                | (have q : ¬ bR 14 μ := zB_eq0.mp h50
                   have n1 : ¬ hHeld S 1 = 0 := fun z => (show ¬ bE 14 μ from zB_eq0.mp h31) (E1.mpr z)
                   have n2 : ¬ hHeld S 2 = 0 := fun z => (show ¬ bE 15 μ from zB_eq0.mp h39) (E2.mpr z)
                   rw [opSh_b (by omega) (by omega) n1 n2 (Or.inl (xsh1 hok (by omega) n1 (fun z => q (R1.mpr z))))]
                   exact ⟨rfl, hS, onlyX.rf⟩)
                | (have q : bE 15 μ := zB_ne0.mp h39
                   rw [opSh_a (by omega) (by omega) (Or.inr (E2.mp q))]
                   exact ⟨rfl, hS, onlyX.rf⟩)
                | (have q : bE 14 μ := zB_ne0.mp h31
                   rw [opSh_a (by omega) (by omega) (Or.inl (E1.mp q))]
                   exact ⟨rfl, hS, onlyX.rf⟩)
            · refine zb X_shift_s92 rfl ?_
              refine z_ret X_shift_d94 rfl ?_
              first
                | (have f := fin_shift (s := 1) (p := 2) (a := x) (b := y) (N := N) hS (by omega) (by omega) (by omega)
                   rw [cN, cx, cy]
                   exact ⟨rfl, f.1, f.2⟩)
                | (have q : ¬ bP 15 j n μ := zB_eq0.mp h89
                   rw [opSh_c (by omega) (by omega) f1 f2 hsrt (fun z => q (P2.mpr (And.intro z.2.2.1 (And.intro z.1 (by rw [← ew]; exact z.2.2.2.2)))))]
                   exact ⟨rfl, hS, onlyX.rf⟩)
                | (have q : ¬ bP 14 i n μ := zB_eq0.mp h77
                   rw [opSh_c (by omega) (by omega) f1 f2 hsrt (fun z => q (P1.mpr (And.intro z.2.1 (And.intro z.1 (by rw [← em]; exact z.2.2.2.1)))))]
                   exact ⟨rfl, hS, onlyX.rf⟩)
                | (have q := zB_eq0.mp h63
                   have f1 : hHeld S 1 = 2 := R1.mp (zB_ne0.mp h50)
                   have n2 : ¬ hHeld S 2 = 0 := fun z => (show ¬ bE 15 μ from zB_eq0.mp h39) (E2.mpr z)
                   rw [opSh_b (by omega) (by omega) (by rw [f1]; decide) n2 (by
                     by_cases z : hHeld S 2 = 2
                     · refine Or.inr (Or.inr (fun y => q (And.intro (R2.mpr z) ?_)))
                       exact (show μ.1 15 2 = _ from (xsh2 hS hok (show 2 < 6 by omega) z).1).trans (y.symm.trans (show μ.1 14 2 = _ from (xsh2 hS hok (show 1 < 6 by omega) f1).1).symm)
                     · exact Or.inr (Or.inl (xsh1 hok (by omega) n2 z)))]
                   exact ⟨rfl, hS, onlyX.rf⟩)
                | (have q : ¬ bR 14 μ := zB_eq0.mp h50
                   have n1 : ¬ hHeld S 1 = 0 := fun z => (show ¬ bE 14 μ from zB_eq0.mp h31) (E1.mpr z)
                   have n2 : ¬ hHeld S 2 = 0 := fun z => (show ¬ bE 15 μ from zB_eq0.mp h39) (E2.mpr z)
                   rw [opSh_b (by omega) (by omega) n1 n2 (Or.inl (xsh1 hok (by omega) n1 (fun z => q (R1.mpr z))))]
                   exact ⟨rfl, hS, onlyX.rf⟩)
                | (have q : bE 15 μ := zB_ne0.mp h39
                   rw [opSh_a (by omega) (by omega) (Or.inr (E2.mp q))]
                   exact ⟨rfl, hS, onlyX.rf⟩)
                | (have q : bE 14 μ := zB_ne0.mp h31
                   rw [opSh_a (by omega) (by omega) (Or.inl (E1.mp q))]
                   exact ⟨rfl, hS, onlyX.rf⟩)
        · refine zb X_shift_s66 rfl ?_
          refine z_ret X_shift_d68 rfl ?_
          first
            | (have f := fin_shift (s := 1) (p := 2) (a := x) (b := y) (N := N) hS (by omega) (by omega) (by omega)
               rw [cN, cx, cy]
               exact ⟨rfl, f.1, f.2⟩)
            | (have q : ¬ bP 15 j n μ := zB_eq0.mp h89
               rw [opSh_c (by omega) (by omega) f1 f2 hsrt (fun z => q (P2.mpr (And.intro z.2.2.1 (And.intro z.1 (by rw [← ew]; exact z.2.2.2.2)))))]
               exact ⟨rfl, hS, onlyX.rf⟩)
            | (have q : ¬ bP 14 i n μ := zB_eq0.mp h77
               rw [opSh_c (by omega) (by omega) f1 f2 hsrt (fun z => q (P1.mpr (And.intro z.2.1 (And.intro z.1 (by rw [← em]; exact z.2.2.2.1)))))]
               exact ⟨rfl, hS, onlyX.rf⟩)
            | (have q := zB_eq0.mp h63
               have f1 : hHeld S 1 = 2 := R1.mp (zB_ne0.mp h50)
               have n2 : ¬ hHeld S 2 = 0 := fun z => (show ¬ bE 15 μ from zB_eq0.mp h39) (E2.mpr z)
               rw [opSh_b (by omega) (by omega) (by rw [f1]; decide) n2 (by
                 by_cases z : hHeld S 2 = 2
                 · refine Or.inr (Or.inr (fun y => q (And.intro (R2.mpr z) ?_)))
                   exact (show μ.1 15 2 = _ from (xsh2 hS hok (show 2 < 6 by omega) z).1).trans (y.symm.trans (show μ.1 14 2 = _ from (xsh2 hS hok (show 1 < 6 by omega) f1).1).symm)
                 · exact Or.inr (Or.inl (xsh1 hok (by omega) n2 z)))]
               exact ⟨rfl, hS, onlyX.rf⟩)
            | (have q : ¬ bR 14 μ := zB_eq0.mp h50
               have n1 : ¬ hHeld S 1 = 0 := fun z => (show ¬ bE 14 μ from zB_eq0.mp h31) (E1.mpr z)
               have n2 : ¬ hHeld S 2 = 0 := fun z => (show ¬ bE 15 μ from zB_eq0.mp h39) (E2.mpr z)
               rw [opSh_b (by omega) (by omega) n1 n2 (Or.inl (xsh1 hok (by omega) n1 (fun z => q (R1.mpr z))))]
               exact ⟨rfl, hS, onlyX.rf⟩)
            | (have q : bE 15 μ := zB_ne0.mp h39
               rw [opSh_a (by omega) (by omega) (Or.inr (E2.mp q))]
               exact ⟨rfl, hS, onlyX.rf⟩)
            | (have q : bE 14 μ := zB_ne0.mp h31
               rw [opSh_a (by omega) (by omega) (Or.inl (E1.mp q))]
               exact ⟨rfl, hS, onlyX.rf⟩)
    · refine zb X_shift_s42 rfl ?_
      refine z_ret X_shift_d44 rfl ?_
      first
        | (have f := fin_shift (s := 1) (p := 2) (a := x) (b := y) (N := N) hS (by omega) (by omega) (by omega)
           rw [cN, cx, cy]
           exact ⟨rfl, f.1, f.2⟩)
        | (have q : ¬ bP 15 j n μ := zB_eq0.mp h89
           rw [opSh_c (by omega) (by omega) f1 f2 hsrt (fun z => q (P2.mpr (And.intro z.2.2.1 (And.intro z.1 (by rw [← ew]; exact z.2.2.2.2)))))]
           exact ⟨rfl, hS, onlyX.rf⟩)
        | (have q : ¬ bP 14 i n μ := zB_eq0.mp h77
           rw [opSh_c (by omega) (by omega) f1 f2 hsrt (fun z => q (P1.mpr (And.intro z.2.1 (And.intro z.1 (by rw [← em]; exact z.2.2.2.1)))))]
           exact ⟨rfl, hS, onlyX.rf⟩)
        | (have q := zB_eq0.mp h63
           have f1 : hHeld S 1 = 2 := R1.mp (zB_ne0.mp h50)
           have n2 : ¬ hHeld S 2 = 0 := fun z => (show ¬ bE 15 μ from zB_eq0.mp h39) (E2.mpr z)
           rw [opSh_b (by omega) (by omega) (by rw [f1]; decide) n2 (by
             by_cases z : hHeld S 2 = 2
             · refine Or.inr (Or.inr (fun y => q (And.intro (R2.mpr z) ?_)))
               exact (show μ.1 15 2 = _ from (xsh2 hS hok (show 2 < 6 by omega) z).1).trans (y.symm.trans (show μ.1 14 2 = _ from (xsh2 hS hok (show 1 < 6 by omega) f1).1).symm)
             · exact Or.inr (Or.inl (xsh1 hok (by omega) n2 z)))]
           exact ⟨rfl, hS, onlyX.rf⟩)
        | (have q : ¬ bR 14 μ := zB_eq0.mp h50
           have n1 : ¬ hHeld S 1 = 0 := fun z => (show ¬ bE 14 μ from zB_eq0.mp h31) (E1.mpr z)
           have n2 : ¬ hHeld S 2 = 0 := fun z => (show ¬ bE 15 μ from zB_eq0.mp h39) (E2.mpr z)
           rw [opSh_b (by omega) (by omega) n1 n2 (Or.inl (xsh1 hok (by omega) n1 (fun z => q (R1.mpr z))))]
           exact ⟨rfl, hS, onlyX.rf⟩)
        | (have q : bE 15 μ := zB_ne0.mp h39
           rw [opSh_a (by omega) (by omega) (Or.inr (E2.mp q))]
           exact ⟨rfl, hS, onlyX.rf⟩)
        | (have q : bE 14 μ := zB_ne0.mp h31
           rw [opSh_a (by omega) (by omega) (Or.inl (E1.mp q))]
           exact ⟨rfl, hS, onlyX.rf⟩)

set_option maxRecDepth 100000 in
set_option maxHeartbeats 4000000 in
theorem xs_shift_1_3 {g : zG} {d : Nat} {S : zS} {μ : zMem} {i j n : Int32} (hd : 2 ≤ d) (hS : xS S μ) (hok : okH S) : zM g d X_shift [.ref 1, .int (nI 1), .int i, .int (nI 3), .int j, .int n] μ (pO xS onlyX (opShift S (nI 1) i (nI 3) j n) μ) := by
  refine zM_of (by decide +kernel) rfl rfl (Nat.le_of_ble_eq_true rfl) rfl ?_
  obtain ⟨ho, h2, hT, hC, hD, hI, hA, hH⟩ := hS
  have hS : xS S μ := ⟨ho, h2, hT, hC, hD, hI, hA, hH⟩
  have hb := ho.b
  have hv := ho.v
  have hB6 := ho.b6
  have hV12 := ho.v12
  have hz : zq sX μ μ := zq.rf
  have E1 := xshE (s := 1) hS hok (by omega)
  have E2 := xshE (s := 3) hS hok (by omega)
  have R1 := xshR (s := 1) hS hok (by omega)
  have R2 := xshR (s := 3) hS hok (by omega)
  refine zb X_shift_s0 rfl ?_
  refine zcallV X_shift_d2 k10_93 (by omega) (x_shelf_1 (by omega)) rfl rfl rfl (Nat.le_of_ble_eq_true rfl) ?_
  rintro _ μx ⟨rfl, hx⟩
  rw [hx]
  clear hx μx
  refine zb X_shift_s5 rfl ?_
  refine zcallV X_shift_d9 k10_93 (by omega) (x_shelf_3 (by omega)) rfl rfl rfl (Nat.le_of_ble_eq_true rfl) ?_
  rintro _ μx ⟨rfl, hx⟩
  rw [hx]
  clear hx μx
  refine zb X_shift_s12 rfl ?_
  refine z_null X_shift_d16 ?_
  refine zb X_shift_s19 rfl ?_
  refine z_nonnull X_shift_d21 (tgt := 26) rfl ?_
  refine zb X_shift_s26 rfl ?_
  refine zcallV X_shift_d28 k10_97 (by omega) (x_isEmpty_1) rfl rfl rfl (Nat.le_of_ble_eq_true rfl) ?_
  rintro _ μx ⟨rfl, hx⟩
  rw [hx]
  clear hx μx
  refine z_ne X_shift_d31 (tgt := 42) rfl (fun h31 => ?_) (fun h31 => ?_)
  · refine zb X_shift_s42 rfl ?_
    refine z_ret X_shift_d44 rfl ?_
    first
      | (have f := fin_shift (s := 1) (p := 3) (a := x) (b := y) (N := N) hS (by omega) (by omega) (by omega)
         rw [cN, cx, cy]
         exact ⟨rfl, f.1, f.2⟩)
      | (have q : ¬ bP 16 j n μ := zB_eq0.mp h89
         rw [opSh_c (by omega) (by omega) f1 f2 hsrt (fun z => q (P2.mpr (And.intro z.2.2.1 (And.intro z.1 (by rw [← ew]; exact z.2.2.2.2)))))]
         exact ⟨rfl, hS, onlyX.rf⟩)
      | (have q : ¬ bP 14 i n μ := zB_eq0.mp h77
         rw [opSh_c (by omega) (by omega) f1 f2 hsrt (fun z => q (P1.mpr (And.intro z.2.1 (And.intro z.1 (by rw [← em]; exact z.2.2.2.1)))))]
         exact ⟨rfl, hS, onlyX.rf⟩)
      | (have q := zB_eq0.mp h63
         have f1 : hHeld S 1 = 2 := R1.mp (zB_ne0.mp h50)
         have n2 : ¬ hHeld S 3 = 0 := fun z => (show ¬ bE 16 μ from zB_eq0.mp h39) (E2.mpr z)
         rw [opSh_b (by omega) (by omega) (by rw [f1]; decide) n2 (by
           by_cases z : hHeld S 3 = 2
           · refine Or.inr (Or.inr (fun y => q (And.intro (R2.mpr z) ?_)))
             exact (show μ.1 16 2 = _ from (xsh2 hS hok (show 3 < 6 by omega) z).1).trans (y.symm.trans (show μ.1 14 2 = _ from (xsh2 hS hok (show 1 < 6 by omega) f1).1).symm)
           · exact Or.inr (Or.inl (xsh1 hok (by omega) n2 z)))]
         exact ⟨rfl, hS, onlyX.rf⟩)
      | (have q : ¬ bR 14 μ := zB_eq0.mp h50
         have n1 : ¬ hHeld S 1 = 0 := fun z => (show ¬ bE 14 μ from zB_eq0.mp h31) (E1.mpr z)
         have n2 : ¬ hHeld S 3 = 0 := fun z => (show ¬ bE 16 μ from zB_eq0.mp h39) (E2.mpr z)
         rw [opSh_b (by omega) (by omega) n1 n2 (Or.inl (xsh1 hok (by omega) n1 (fun z => q (R1.mpr z))))]
         exact ⟨rfl, hS, onlyX.rf⟩)
      | (have q : bE 16 μ := zB_ne0.mp h39
         rw [opSh_a (by omega) (by omega) (Or.inr (E2.mp q))]
         exact ⟨rfl, hS, onlyX.rf⟩)
      | (have q : bE 14 μ := zB_ne0.mp h31
         rw [opSh_a (by omega) (by omega) (Or.inl (E1.mp q))]
         exact ⟨rfl, hS, onlyX.rf⟩)
  · refine zb X_shift_s34 rfl ?_
    refine zcallV X_shift_d36 k10_97 (by omega) (x_isEmpty_3) rfl rfl rfl (Nat.le_of_ble_eq_true rfl) ?_
    rintro _ μx ⟨rfl, hx⟩
    rw [hx]
    clear hx μx
    refine z_eq X_shift_d39 (tgt := 45) rfl (fun h39 => ?_) (fun h39 => ?_)
    · refine zb X_shift_s45 rfl ?_
      refine zcallV X_shift_d47 k10_357 (by omega) (x_isRow_1) rfl rfl rfl (Nat.le_of_ble_eq_true rfl) ?_
      rintro _ μx ⟨rfl, hx⟩
      rw [hx]
      clear hx μx
      refine z_eq X_shift_d50 (tgt := 66) rfl (fun h50 => ?_) (fun h50 => ?_)
      · refine zb X_shift_s66 rfl ?_
        refine z_ret X_shift_d68 rfl ?_
        first
          | (have f := fin_shift (s := 1) (p := 3) (a := x) (b := y) (N := N) hS (by omega) (by omega) (by omega)
             rw [cN, cx, cy]
             exact ⟨rfl, f.1, f.2⟩)
          | (have q : ¬ bP 16 j n μ := zB_eq0.mp h89
             rw [opSh_c (by omega) (by omega) f1 f2 hsrt (fun z => q (P2.mpr (And.intro z.2.2.1 (And.intro z.1 (by rw [← ew]; exact z.2.2.2.2)))))]
             exact ⟨rfl, hS, onlyX.rf⟩)
          | (have q : ¬ bP 14 i n μ := zB_eq0.mp h77
             rw [opSh_c (by omega) (by omega) f1 f2 hsrt (fun z => q (P1.mpr (And.intro z.2.1 (And.intro z.1 (by rw [← em]; exact z.2.2.2.1)))))]
             exact ⟨rfl, hS, onlyX.rf⟩)
          | (have q := zB_eq0.mp h63
             have f1 : hHeld S 1 = 2 := R1.mp (zB_ne0.mp h50)
             have n2 : ¬ hHeld S 3 = 0 := fun z => (show ¬ bE 16 μ from zB_eq0.mp h39) (E2.mpr z)
             rw [opSh_b (by omega) (by omega) (by rw [f1]; decide) n2 (by
               by_cases z : hHeld S 3 = 2
               · refine Or.inr (Or.inr (fun y => q (And.intro (R2.mpr z) ?_)))
                 exact (show μ.1 16 2 = _ from (xsh2 hS hok (show 3 < 6 by omega) z).1).trans (y.symm.trans (show μ.1 14 2 = _ from (xsh2 hS hok (show 1 < 6 by omega) f1).1).symm)
               · exact Or.inr (Or.inl (xsh1 hok (by omega) n2 z)))]
             exact ⟨rfl, hS, onlyX.rf⟩)
          | (have q : ¬ bR 14 μ := zB_eq0.mp h50
             have n1 : ¬ hHeld S 1 = 0 := fun z => (show ¬ bE 14 μ from zB_eq0.mp h31) (E1.mpr z)
             have n2 : ¬ hHeld S 3 = 0 := fun z => (show ¬ bE 16 μ from zB_eq0.mp h39) (E2.mpr z)
             rw [opSh_b (by omega) (by omega) n1 n2 (Or.inl (xsh1 hok (by omega) n1 (fun z => q (R1.mpr z))))]
             exact ⟨rfl, hS, onlyX.rf⟩)
          | (have q : bE 16 μ := zB_ne0.mp h39
             rw [opSh_a (by omega) (by omega) (Or.inr (E2.mp q))]
             exact ⟨rfl, hS, onlyX.rf⟩)
          | (have q : bE 14 μ := zB_ne0.mp h31
             rw [opSh_a (by omega) (by omega) (Or.inl (E1.mp q))]
             exact ⟨rfl, hS, onlyX.rf⟩)
      · refine zb X_shift_s53 rfl ?_
        refine zcallV X_shift_d60 k10_101 (by omega) (x_isRowOf_3 _ (by omega)) rfl rfl rfl (Nat.le_of_ble_eq_true rfl) ?_
        rintro _ μx ⟨rfl, hx⟩
        rw [hx]
        clear hx μx
        refine z_ne X_shift_d63 (tgt := 69) rfl (fun h63 => ?_) (fun h63 => ?_)
        · have f1 : hHeld S 1 = 2 := R1.mp (zB_ne0.mp h50)
          have f2 : hHeld S 3 = 2 := R2.mp (zB_ne0.mp h63).1
          obtain ⟨a1, a2, m, hm, em⟩ := xsh2 hS hok (show 1 < 6 by omega) f1
          obtain ⟨b1, b2, w, hw, ew⟩ := xsh2 hS hok (show 3 < 6 by omega) f2
          have hsrt : hSort S 1 = hSort S 3 := a1.symm.trans ((zB_ne0.mp h63).2.symm.trans b1)
          have P1 := bPn (i := i) (n := n) hm (a2.trans em)
          have P2 := bPn (i := j) (n := n) hw (b2.trans ew)
          refine zb X_shift_s69 rfl ?_
          refine zcallV X_shift_d74 k10_363 (by omega) (x_hasPlaces_1 _ _) rfl rfl rfl (Nat.le_of_ble_eq_true rfl) ?_
          rintro _ μx ⟨rfl, hx⟩
          rw [hx]
          clear hx μx
          refine z_eq X_shift_d77 (tgt := 92) rfl (fun h77 => ?_) (fun h77 => ?_)
          · refine zb X_shift_s92 rfl ?_
            refine z_ret X_shift_d94 rfl ?_
            first
              | (have f := fin_shift (s := 1) (p := 3) (a := x) (b := y) (N := N) hS (by omega) (by omega) (by omega)
                 rw [cN, cx, cy]
                 exact ⟨rfl, f.1, f.2⟩)
              | (have q : ¬ bP 16 j n μ := zB_eq0.mp h89
                 rw [opSh_c (by omega) (by omega) f1 f2 hsrt (fun z => q (P2.mpr (And.intro z.2.2.1 (And.intro z.1 (by rw [← ew]; exact z.2.2.2.2)))))]
                 exact ⟨rfl, hS, onlyX.rf⟩)
              | (have q : ¬ bP 14 i n μ := zB_eq0.mp h77
                 rw [opSh_c (by omega) (by omega) f1 f2 hsrt (fun z => q (P1.mpr (And.intro z.2.1 (And.intro z.1 (by rw [← em]; exact z.2.2.2.1)))))]
                 exact ⟨rfl, hS, onlyX.rf⟩)
              | (have q := zB_eq0.mp h63
                 have f1 : hHeld S 1 = 2 := R1.mp (zB_ne0.mp h50)
                 have n2 : ¬ hHeld S 3 = 0 := fun z => (show ¬ bE 16 μ from zB_eq0.mp h39) (E2.mpr z)
                 rw [opSh_b (by omega) (by omega) (by rw [f1]; decide) n2 (by
                   by_cases z : hHeld S 3 = 2
                   · refine Or.inr (Or.inr (fun y => q (And.intro (R2.mpr z) ?_)))
                     exact (show μ.1 16 2 = _ from (xsh2 hS hok (show 3 < 6 by omega) z).1).trans (y.symm.trans (show μ.1 14 2 = _ from (xsh2 hS hok (show 1 < 6 by omega) f1).1).symm)
                   · exact Or.inr (Or.inl (xsh1 hok (by omega) n2 z)))]
                 exact ⟨rfl, hS, onlyX.rf⟩)
              | (have q : ¬ bR 14 μ := zB_eq0.mp h50
                 have n1 : ¬ hHeld S 1 = 0 := fun z => (show ¬ bE 14 μ from zB_eq0.mp h31) (E1.mpr z)
                 have n2 : ¬ hHeld S 3 = 0 := fun z => (show ¬ bE 16 μ from zB_eq0.mp h39) (E2.mpr z)
                 rw [opSh_b (by omega) (by omega) n1 n2 (Or.inl (xsh1 hok (by omega) n1 (fun z => q (R1.mpr z))))]
                 exact ⟨rfl, hS, onlyX.rf⟩)
              | (have q : bE 16 μ := zB_ne0.mp h39
                 rw [opSh_a (by omega) (by omega) (Or.inr (E2.mp q))]
                 exact ⟨rfl, hS, onlyX.rf⟩)
              | (have q : bE 14 μ := zB_ne0.mp h31
                 rw [opSh_a (by omega) (by omega) (Or.inl (E1.mp q))]
                 exact ⟨rfl, hS, onlyX.rf⟩)
          · refine zb X_shift_s80 rfl ?_
            refine zcallV X_shift_d86 k10_363 (by omega) (x_hasPlaces_3 _ _) rfl rfl rfl (Nat.le_of_ble_eq_true rfl) ?_
            rintro _ μx ⟨rfl, hx⟩
            rw [hx]
            clear hx μx
            refine z_ne X_shift_d89 (tgt := 95) rfl (fun h89 => ?_) (fun h89 => ?_)
            · have g1 := P1.mp (zB_ne0.mp h77)
              have g2 := P2.mp (zB_ne0.mp h89)
              have hall : 0 ≤ n ∧ 0 ≤ i ∧ 0 ≤ j ∧ i ≤ hSize S 1 - n ∧ j ≤ hSize S 3 - n := by
                exact ⟨g1.2.1, g1.1, g2.1, by rw [em]; exact g1.2.2, by rw [ew]; exact g2.2.2⟩
              rw [opSh_d (by omega) (by omega) f1 f2 hsrt hall]
              clear hall
              obtain ⟨N, hN, rfl⟩ := nI_of (Int32.not_lt.mpr g1.2.1)
              obtain ⟨x, hx, rfl⟩ := nI_of (Int32.not_lt.mpr g1.1)
              obtain ⟨y, hy, rfl⟩ := nI_of (Int32.not_lt.mpr g2.1)
              have k1 := (le_sub hx hm hN).mp g1.2.2
              have k2 := (le_sub hy hw hN).mp g2.2.2
              have cN : (nI N).toNatClampNeg = N := nI_clamp hN
              have cx : (nI x).toNatClampNeg = x := nI_clamp hx
              have cy : (nI y).toNatClampNeg = y := nI_clamp hy
              refine zb X_shift_s95 rfl ?_
              refine zcpL X_shift_d110 k10_366 (by omega) (Nat.le_of_ble_eq_true rfl) rfl rfl (nI_pos (by omega)) (nI_pos (by omega)) (nI_pos (by omega)) (by rw [cN, cx]; omega) (by rw [cN, cy]; omega) ?_
              refine zb X_shift_s113 rfl ?_
              refine z_ret X_shift_d115 rfl ?_
              first
                | (have f := fin_shift (s := 1) (p := 3) (a := x) (b := y) (N := N) hS (by omega) (by omega) (by omega)
                   rw [cN, cx, cy]
                   exact ⟨rfl, f.1, f.2⟩)
                | (have q : ¬ bP 16 j n μ := zB_eq0.mp h89
                   rw [opSh_c (by omega) (by omega) f1 f2 hsrt (fun z => q (P2.mpr (And.intro z.2.2.1 (And.intro z.1 (by rw [← ew]; exact z.2.2.2.2)))))]
                   exact ⟨rfl, hS, onlyX.rf⟩)
                | (have q : ¬ bP 14 i n μ := zB_eq0.mp h77
                   rw [opSh_c (by omega) (by omega) f1 f2 hsrt (fun z => q (P1.mpr (And.intro z.2.1 (And.intro z.1 (by rw [← em]; exact z.2.2.2.1)))))]
                   exact ⟨rfl, hS, onlyX.rf⟩)
                | (have q := zB_eq0.mp h63
                   have f1 : hHeld S 1 = 2 := R1.mp (zB_ne0.mp h50)
                   have n2 : ¬ hHeld S 3 = 0 := fun z => (show ¬ bE 16 μ from zB_eq0.mp h39) (E2.mpr z)
                   rw [opSh_b (by omega) (by omega) (by rw [f1]; decide) n2 (by
                     by_cases z : hHeld S 3 = 2
                     · refine Or.inr (Or.inr (fun y => q (And.intro (R2.mpr z) ?_)))
                       exact (show μ.1 16 2 = _ from (xsh2 hS hok (show 3 < 6 by omega) z).1).trans (y.symm.trans (show μ.1 14 2 = _ from (xsh2 hS hok (show 1 < 6 by omega) f1).1).symm)
                     · exact Or.inr (Or.inl (xsh1 hok (by omega) n2 z)))]
                   exact ⟨rfl, hS, onlyX.rf⟩)
                | (have q : ¬ bR 14 μ := zB_eq0.mp h50
                   have n1 : ¬ hHeld S 1 = 0 := fun z => (show ¬ bE 14 μ from zB_eq0.mp h31) (E1.mpr z)
                   have n2 : ¬ hHeld S 3 = 0 := fun z => (show ¬ bE 16 μ from zB_eq0.mp h39) (E2.mpr z)
                   rw [opSh_b (by omega) (by omega) n1 n2 (Or.inl (xsh1 hok (by omega) n1 (fun z => q (R1.mpr z))))]
                   exact ⟨rfl, hS, onlyX.rf⟩)
                | (have q : bE 16 μ := zB_ne0.mp h39
                   rw [opSh_a (by omega) (by omega) (Or.inr (E2.mp q))]
                   exact ⟨rfl, hS, onlyX.rf⟩)
                | (have q : bE 14 μ := zB_ne0.mp h31
                   rw [opSh_a (by omega) (by omega) (Or.inl (E1.mp q))]
                   exact ⟨rfl, hS, onlyX.rf⟩)
            · refine zb X_shift_s92 rfl ?_
              refine z_ret X_shift_d94 rfl ?_
              first
                | (have f := fin_shift (s := 1) (p := 3) (a := x) (b := y) (N := N) hS (by omega) (by omega) (by omega)
                   rw [cN, cx, cy]
                   exact ⟨rfl, f.1, f.2⟩)
                | (have q : ¬ bP 16 j n μ := zB_eq0.mp h89
                   rw [opSh_c (by omega) (by omega) f1 f2 hsrt (fun z => q (P2.mpr (And.intro z.2.2.1 (And.intro z.1 (by rw [← ew]; exact z.2.2.2.2)))))]
                   exact ⟨rfl, hS, onlyX.rf⟩)
                | (have q : ¬ bP 14 i n μ := zB_eq0.mp h77
                   rw [opSh_c (by omega) (by omega) f1 f2 hsrt (fun z => q (P1.mpr (And.intro z.2.1 (And.intro z.1 (by rw [← em]; exact z.2.2.2.1)))))]
                   exact ⟨rfl, hS, onlyX.rf⟩)
                | (have q := zB_eq0.mp h63
                   have f1 : hHeld S 1 = 2 := R1.mp (zB_ne0.mp h50)
                   have n2 : ¬ hHeld S 3 = 0 := fun z => (show ¬ bE 16 μ from zB_eq0.mp h39) (E2.mpr z)
                   rw [opSh_b (by omega) (by omega) (by rw [f1]; decide) n2 (by
                     by_cases z : hHeld S 3 = 2
                     · refine Or.inr (Or.inr (fun y => q (And.intro (R2.mpr z) ?_)))
                       exact (show μ.1 16 2 = _ from (xsh2 hS hok (show 3 < 6 by omega) z).1).trans (y.symm.trans (show μ.1 14 2 = _ from (xsh2 hS hok (show 1 < 6 by omega) f1).1).symm)
                     · exact Or.inr (Or.inl (xsh1 hok (by omega) n2 z)))]
                   exact ⟨rfl, hS, onlyX.rf⟩)
                | (have q : ¬ bR 14 μ := zB_eq0.mp h50
                   have n1 : ¬ hHeld S 1 = 0 := fun z => (show ¬ bE 14 μ from zB_eq0.mp h31) (E1.mpr z)
                   have n2 : ¬ hHeld S 3 = 0 := fun z => (show ¬ bE 16 μ from zB_eq0.mp h39) (E2.mpr z)
                   rw [opSh_b (by omega) (by omega) n1 n2 (Or.inl (xsh1 hok (by omega) n1 (fun z => q (R1.mpr z))))]
                   exact ⟨rfl, hS, onlyX.rf⟩)
                | (have q : bE 16 μ := zB_ne0.mp h39
                   rw [opSh_a (by omega) (by omega) (Or.inr (E2.mp q))]
                   exact ⟨rfl, hS, onlyX.rf⟩)
                | (have q : bE 14 μ := zB_ne0.mp h31
                   rw [opSh_a (by omega) (by omega) (Or.inl (E1.mp q))]
                   exact ⟨rfl, hS, onlyX.rf⟩)
        · refine zb X_shift_s66 rfl ?_
          refine z_ret X_shift_d68 rfl ?_
          first
            | (have f := fin_shift (s := 1) (p := 3) (a := x) (b := y) (N := N) hS (by omega) (by omega) (by omega)
               rw [cN, cx, cy]
               exact ⟨rfl, f.1, f.2⟩)
            | (have q : ¬ bP 16 j n μ := zB_eq0.mp h89
               rw [opSh_c (by omega) (by omega) f1 f2 hsrt (fun z => q (P2.mpr (And.intro z.2.2.1 (And.intro z.1 (by rw [← ew]; exact z.2.2.2.2)))))]
               exact ⟨rfl, hS, onlyX.rf⟩)
            | (have q : ¬ bP 14 i n μ := zB_eq0.mp h77
               rw [opSh_c (by omega) (by omega) f1 f2 hsrt (fun z => q (P1.mpr (And.intro z.2.1 (And.intro z.1 (by rw [← em]; exact z.2.2.2.1)))))]
               exact ⟨rfl, hS, onlyX.rf⟩)
            | (have q := zB_eq0.mp h63
               have f1 : hHeld S 1 = 2 := R1.mp (zB_ne0.mp h50)
               have n2 : ¬ hHeld S 3 = 0 := fun z => (show ¬ bE 16 μ from zB_eq0.mp h39) (E2.mpr z)
               rw [opSh_b (by omega) (by omega) (by rw [f1]; decide) n2 (by
                 by_cases z : hHeld S 3 = 2
                 · refine Or.inr (Or.inr (fun y => q (And.intro (R2.mpr z) ?_)))
                   exact (show μ.1 16 2 = _ from (xsh2 hS hok (show 3 < 6 by omega) z).1).trans (y.symm.trans (show μ.1 14 2 = _ from (xsh2 hS hok (show 1 < 6 by omega) f1).1).symm)
                 · exact Or.inr (Or.inl (xsh1 hok (by omega) n2 z)))]
               exact ⟨rfl, hS, onlyX.rf⟩)
            | (have q : ¬ bR 14 μ := zB_eq0.mp h50
               have n1 : ¬ hHeld S 1 = 0 := fun z => (show ¬ bE 14 μ from zB_eq0.mp h31) (E1.mpr z)
               have n2 : ¬ hHeld S 3 = 0 := fun z => (show ¬ bE 16 μ from zB_eq0.mp h39) (E2.mpr z)
               rw [opSh_b (by omega) (by omega) n1 n2 (Or.inl (xsh1 hok (by omega) n1 (fun z => q (R1.mpr z))))]
               exact ⟨rfl, hS, onlyX.rf⟩)
            | (have q : bE 16 μ := zB_ne0.mp h39
               rw [opSh_a (by omega) (by omega) (Or.inr (E2.mp q))]
               exact ⟨rfl, hS, onlyX.rf⟩)
            | (have q : bE 14 μ := zB_ne0.mp h31
               rw [opSh_a (by omega) (by omega) (Or.inl (E1.mp q))]
               exact ⟨rfl, hS, onlyX.rf⟩)
    · refine zb X_shift_s42 rfl ?_
      refine z_ret X_shift_d44 rfl ?_
      first
        | (have f := fin_shift (s := 1) (p := 3) (a := x) (b := y) (N := N) hS (by omega) (by omega) (by omega)
           rw [cN, cx, cy]
           exact ⟨rfl, f.1, f.2⟩)
        | (have q : ¬ bP 16 j n μ := zB_eq0.mp h89
           rw [opSh_c (by omega) (by omega) f1 f2 hsrt (fun z => q (P2.mpr (And.intro z.2.2.1 (And.intro z.1 (by rw [← ew]; exact z.2.2.2.2)))))]
           exact ⟨rfl, hS, onlyX.rf⟩)
        | (have q : ¬ bP 14 i n μ := zB_eq0.mp h77
           rw [opSh_c (by omega) (by omega) f1 f2 hsrt (fun z => q (P1.mpr (And.intro z.2.1 (And.intro z.1 (by rw [← em]; exact z.2.2.2.1)))))]
           exact ⟨rfl, hS, onlyX.rf⟩)
        | (have q := zB_eq0.mp h63
           have f1 : hHeld S 1 = 2 := R1.mp (zB_ne0.mp h50)
           have n2 : ¬ hHeld S 3 = 0 := fun z => (show ¬ bE 16 μ from zB_eq0.mp h39) (E2.mpr z)
           rw [opSh_b (by omega) (by omega) (by rw [f1]; decide) n2 (by
             by_cases z : hHeld S 3 = 2
             · refine Or.inr (Or.inr (fun y => q (And.intro (R2.mpr z) ?_)))
               exact (show μ.1 16 2 = _ from (xsh2 hS hok (show 3 < 6 by omega) z).1).trans (y.symm.trans (show μ.1 14 2 = _ from (xsh2 hS hok (show 1 < 6 by omega) f1).1).symm)
             · exact Or.inr (Or.inl (xsh1 hok (by omega) n2 z)))]
           exact ⟨rfl, hS, onlyX.rf⟩)
        | (have q : ¬ bR 14 μ := zB_eq0.mp h50
           have n1 : ¬ hHeld S 1 = 0 := fun z => (show ¬ bE 14 μ from zB_eq0.mp h31) (E1.mpr z)
           have n2 : ¬ hHeld S 3 = 0 := fun z => (show ¬ bE 16 μ from zB_eq0.mp h39) (E2.mpr z)
           rw [opSh_b (by omega) (by omega) n1 n2 (Or.inl (xsh1 hok (by omega) n1 (fun z => q (R1.mpr z))))]
           exact ⟨rfl, hS, onlyX.rf⟩)
        | (have q : bE 16 μ := zB_ne0.mp h39
           rw [opSh_a (by omega) (by omega) (Or.inr (E2.mp q))]
           exact ⟨rfl, hS, onlyX.rf⟩)
        | (have q : bE 14 μ := zB_ne0.mp h31
           rw [opSh_a (by omega) (by omega) (Or.inl (E1.mp q))]
           exact ⟨rfl, hS, onlyX.rf⟩)

set_option maxRecDepth 100000 in
set_option maxHeartbeats 4000000 in
theorem xs_shift_1_4 {g : zG} {d : Nat} {S : zS} {μ : zMem} {i j n : Int32} (hd : 2 ≤ d) (hS : xS S μ) (hok : okH S) : zM g d X_shift [.ref 1, .int (nI 1), .int i, .int (nI 4), .int j, .int n] μ (pO xS onlyX (opShift S (nI 1) i (nI 4) j n) μ) := by
  refine zM_of (by decide +kernel) rfl rfl (Nat.le_of_ble_eq_true rfl) rfl ?_
  obtain ⟨ho, h2, hT, hC, hD, hI, hA, hH⟩ := hS
  have hS : xS S μ := ⟨ho, h2, hT, hC, hD, hI, hA, hH⟩
  have hb := ho.b
  have hv := ho.v
  have hB6 := ho.b6
  have hV12 := ho.v12
  have hz : zq sX μ μ := zq.rf
  have E1 := xshE (s := 1) hS hok (by omega)
  have E2 := xshE (s := 4) hS hok (by omega)
  have R1 := xshR (s := 1) hS hok (by omega)
  have R2 := xshR (s := 4) hS hok (by omega)
  refine zb X_shift_s0 rfl ?_
  refine zcallV X_shift_d2 k10_93 (by omega) (x_shelf_1 (by omega)) rfl rfl rfl (Nat.le_of_ble_eq_true rfl) ?_
  rintro _ μx ⟨rfl, hx⟩
  rw [hx]
  clear hx μx
  refine zb X_shift_s5 rfl ?_
  refine zcallV X_shift_d9 k10_93 (by omega) (x_shelf_4 (by omega)) rfl rfl rfl (Nat.le_of_ble_eq_true rfl) ?_
  rintro _ μx ⟨rfl, hx⟩
  rw [hx]
  clear hx μx
  refine zb X_shift_s12 rfl ?_
  refine z_null X_shift_d16 ?_
  refine zb X_shift_s19 rfl ?_
  refine z_nonnull X_shift_d21 (tgt := 26) rfl ?_
  refine zb X_shift_s26 rfl ?_
  refine zcallV X_shift_d28 k10_97 (by omega) (x_isEmpty_1) rfl rfl rfl (Nat.le_of_ble_eq_true rfl) ?_
  rintro _ μx ⟨rfl, hx⟩
  rw [hx]
  clear hx μx
  refine z_ne X_shift_d31 (tgt := 42) rfl (fun h31 => ?_) (fun h31 => ?_)
  · refine zb X_shift_s42 rfl ?_
    refine z_ret X_shift_d44 rfl ?_
    first
      | (have f := fin_shift (s := 1) (p := 4) (a := x) (b := y) (N := N) hS (by omega) (by omega) (by omega)
         rw [cN, cx, cy]
         exact ⟨rfl, f.1, f.2⟩)
      | (have q : ¬ bP 17 j n μ := zB_eq0.mp h89
         rw [opSh_c (by omega) (by omega) f1 f2 hsrt (fun z => q (P2.mpr (And.intro z.2.2.1 (And.intro z.1 (by rw [← ew]; exact z.2.2.2.2)))))]
         exact ⟨rfl, hS, onlyX.rf⟩)
      | (have q : ¬ bP 14 i n μ := zB_eq0.mp h77
         rw [opSh_c (by omega) (by omega) f1 f2 hsrt (fun z => q (P1.mpr (And.intro z.2.1 (And.intro z.1 (by rw [← em]; exact z.2.2.2.1)))))]
         exact ⟨rfl, hS, onlyX.rf⟩)
      | (have q := zB_eq0.mp h63
         have f1 : hHeld S 1 = 2 := R1.mp (zB_ne0.mp h50)
         have n2 : ¬ hHeld S 4 = 0 := fun z => (show ¬ bE 17 μ from zB_eq0.mp h39) (E2.mpr z)
         rw [opSh_b (by omega) (by omega) (by rw [f1]; decide) n2 (by
           by_cases z : hHeld S 4 = 2
           · refine Or.inr (Or.inr (fun y => q (And.intro (R2.mpr z) ?_)))
             exact (show μ.1 17 2 = _ from (xsh2 hS hok (show 4 < 6 by omega) z).1).trans (y.symm.trans (show μ.1 14 2 = _ from (xsh2 hS hok (show 1 < 6 by omega) f1).1).symm)
           · exact Or.inr (Or.inl (xsh1 hok (by omega) n2 z)))]
         exact ⟨rfl, hS, onlyX.rf⟩)
      | (have q : ¬ bR 14 μ := zB_eq0.mp h50
         have n1 : ¬ hHeld S 1 = 0 := fun z => (show ¬ bE 14 μ from zB_eq0.mp h31) (E1.mpr z)
         have n2 : ¬ hHeld S 4 = 0 := fun z => (show ¬ bE 17 μ from zB_eq0.mp h39) (E2.mpr z)
         rw [opSh_b (by omega) (by omega) n1 n2 (Or.inl (xsh1 hok (by omega) n1 (fun z => q (R1.mpr z))))]
         exact ⟨rfl, hS, onlyX.rf⟩)
      | (have q : bE 17 μ := zB_ne0.mp h39
         rw [opSh_a (by omega) (by omega) (Or.inr (E2.mp q))]
         exact ⟨rfl, hS, onlyX.rf⟩)
      | (have q : bE 14 μ := zB_ne0.mp h31
         rw [opSh_a (by omega) (by omega) (Or.inl (E1.mp q))]
         exact ⟨rfl, hS, onlyX.rf⟩)
  · refine zb X_shift_s34 rfl ?_
    refine zcallV X_shift_d36 k10_97 (by omega) (x_isEmpty_4) rfl rfl rfl (Nat.le_of_ble_eq_true rfl) ?_
    rintro _ μx ⟨rfl, hx⟩
    rw [hx]
    clear hx μx
    refine z_eq X_shift_d39 (tgt := 45) rfl (fun h39 => ?_) (fun h39 => ?_)
    · refine zb X_shift_s45 rfl ?_
      refine zcallV X_shift_d47 k10_357 (by omega) (x_isRow_1) rfl rfl rfl (Nat.le_of_ble_eq_true rfl) ?_
      rintro _ μx ⟨rfl, hx⟩
      rw [hx]
      clear hx μx
      refine z_eq X_shift_d50 (tgt := 66) rfl (fun h50 => ?_) (fun h50 => ?_)
      · refine zb X_shift_s66 rfl ?_
        refine z_ret X_shift_d68 rfl ?_
        first
          | (have f := fin_shift (s := 1) (p := 4) (a := x) (b := y) (N := N) hS (by omega) (by omega) (by omega)
             rw [cN, cx, cy]
             exact ⟨rfl, f.1, f.2⟩)
          | (have q : ¬ bP 17 j n μ := zB_eq0.mp h89
             rw [opSh_c (by omega) (by omega) f1 f2 hsrt (fun z => q (P2.mpr (And.intro z.2.2.1 (And.intro z.1 (by rw [← ew]; exact z.2.2.2.2)))))]
             exact ⟨rfl, hS, onlyX.rf⟩)
          | (have q : ¬ bP 14 i n μ := zB_eq0.mp h77
             rw [opSh_c (by omega) (by omega) f1 f2 hsrt (fun z => q (P1.mpr (And.intro z.2.1 (And.intro z.1 (by rw [← em]; exact z.2.2.2.1)))))]
             exact ⟨rfl, hS, onlyX.rf⟩)
          | (have q := zB_eq0.mp h63
             have f1 : hHeld S 1 = 2 := R1.mp (zB_ne0.mp h50)
             have n2 : ¬ hHeld S 4 = 0 := fun z => (show ¬ bE 17 μ from zB_eq0.mp h39) (E2.mpr z)
             rw [opSh_b (by omega) (by omega) (by rw [f1]; decide) n2 (by
               by_cases z : hHeld S 4 = 2
               · refine Or.inr (Or.inr (fun y => q (And.intro (R2.mpr z) ?_)))
                 exact (show μ.1 17 2 = _ from (xsh2 hS hok (show 4 < 6 by omega) z).1).trans (y.symm.trans (show μ.1 14 2 = _ from (xsh2 hS hok (show 1 < 6 by omega) f1).1).symm)
               · exact Or.inr (Or.inl (xsh1 hok (by omega) n2 z)))]
             exact ⟨rfl, hS, onlyX.rf⟩)
          | (have q : ¬ bR 14 μ := zB_eq0.mp h50
             have n1 : ¬ hHeld S 1 = 0 := fun z => (show ¬ bE 14 μ from zB_eq0.mp h31) (E1.mpr z)
             have n2 : ¬ hHeld S 4 = 0 := fun z => (show ¬ bE 17 μ from zB_eq0.mp h39) (E2.mpr z)
             rw [opSh_b (by omega) (by omega) n1 n2 (Or.inl (xsh1 hok (by omega) n1 (fun z => q (R1.mpr z))))]
             exact ⟨rfl, hS, onlyX.rf⟩)
          | (have q : bE 17 μ := zB_ne0.mp h39
             rw [opSh_a (by omega) (by omega) (Or.inr (E2.mp q))]
             exact ⟨rfl, hS, onlyX.rf⟩)
          | (have q : bE 14 μ := zB_ne0.mp h31
             rw [opSh_a (by omega) (by omega) (Or.inl (E1.mp q))]
             exact ⟨rfl, hS, onlyX.rf⟩)
      · refine zb X_shift_s53 rfl ?_
        refine zcallV X_shift_d60 k10_101 (by omega) (x_isRowOf_4 _ (by omega)) rfl rfl rfl (Nat.le_of_ble_eq_true rfl) ?_
        rintro _ μx ⟨rfl, hx⟩
        rw [hx]
        clear hx μx
        refine z_ne X_shift_d63 (tgt := 69) rfl (fun h63 => ?_) (fun h63 => ?_)
        · have f1 : hHeld S 1 = 2 := R1.mp (zB_ne0.mp h50)
          have f2 : hHeld S 4 = 2 := R2.mp (zB_ne0.mp h63).1
          obtain ⟨a1, a2, m, hm, em⟩ := xsh2 hS hok (show 1 < 6 by omega) f1
          obtain ⟨b1, b2, w, hw, ew⟩ := xsh2 hS hok (show 4 < 6 by omega) f2
          have hsrt : hSort S 1 = hSort S 4 := a1.symm.trans ((zB_ne0.mp h63).2.symm.trans b1)
          have P1 := bPn (i := i) (n := n) hm (a2.trans em)
          have P2 := bPn (i := j) (n := n) hw (b2.trans ew)
          refine zb X_shift_s69 rfl ?_
          refine zcallV X_shift_d74 k10_363 (by omega) (x_hasPlaces_1 _ _) rfl rfl rfl (Nat.le_of_ble_eq_true rfl) ?_
          rintro _ μx ⟨rfl, hx⟩
          rw [hx]
          clear hx μx
          refine z_eq X_shift_d77 (tgt := 92) rfl (fun h77 => ?_) (fun h77 => ?_)
          · refine zb X_shift_s92 rfl ?_
            refine z_ret X_shift_d94 rfl ?_
            first
              | (have f := fin_shift (s := 1) (p := 4) (a := x) (b := y) (N := N) hS (by omega) (by omega) (by omega)
                 rw [cN, cx, cy]
                 exact ⟨rfl, f.1, f.2⟩)
              | (have q : ¬ bP 17 j n μ := zB_eq0.mp h89
                 rw [opSh_c (by omega) (by omega) f1 f2 hsrt (fun z => q (P2.mpr (And.intro z.2.2.1 (And.intro z.1 (by rw [← ew]; exact z.2.2.2.2)))))]
                 exact ⟨rfl, hS, onlyX.rf⟩)
              | (have q : ¬ bP 14 i n μ := zB_eq0.mp h77
                 rw [opSh_c (by omega) (by omega) f1 f2 hsrt (fun z => q (P1.mpr (And.intro z.2.1 (And.intro z.1 (by rw [← em]; exact z.2.2.2.1)))))]
                 exact ⟨rfl, hS, onlyX.rf⟩)
              | (have q := zB_eq0.mp h63
                 have f1 : hHeld S 1 = 2 := R1.mp (zB_ne0.mp h50)
                 have n2 : ¬ hHeld S 4 = 0 := fun z => (show ¬ bE 17 μ from zB_eq0.mp h39) (E2.mpr z)
                 rw [opSh_b (by omega) (by omega) (by rw [f1]; decide) n2 (by
                   by_cases z : hHeld S 4 = 2
                   · refine Or.inr (Or.inr (fun y => q (And.intro (R2.mpr z) ?_)))
                     exact (show μ.1 17 2 = _ from (xsh2 hS hok (show 4 < 6 by omega) z).1).trans (y.symm.trans (show μ.1 14 2 = _ from (xsh2 hS hok (show 1 < 6 by omega) f1).1).symm)
                   · exact Or.inr (Or.inl (xsh1 hok (by omega) n2 z)))]
                 exact ⟨rfl, hS, onlyX.rf⟩)
              | (have q : ¬ bR 14 μ := zB_eq0.mp h50
                 have n1 : ¬ hHeld S 1 = 0 := fun z => (show ¬ bE 14 μ from zB_eq0.mp h31) (E1.mpr z)
                 have n2 : ¬ hHeld S 4 = 0 := fun z => (show ¬ bE 17 μ from zB_eq0.mp h39) (E2.mpr z)
                 rw [opSh_b (by omega) (by omega) n1 n2 (Or.inl (xsh1 hok (by omega) n1 (fun z => q (R1.mpr z))))]
                 exact ⟨rfl, hS, onlyX.rf⟩)
              | (have q : bE 17 μ := zB_ne0.mp h39
                 rw [opSh_a (by omega) (by omega) (Or.inr (E2.mp q))]
                 exact ⟨rfl, hS, onlyX.rf⟩)
              | (have q : bE 14 μ := zB_ne0.mp h31
                 rw [opSh_a (by omega) (by omega) (Or.inl (E1.mp q))]
                 exact ⟨rfl, hS, onlyX.rf⟩)
          · refine zb X_shift_s80 rfl ?_
            refine zcallV X_shift_d86 k10_363 (by omega) (x_hasPlaces_4 _ _) rfl rfl rfl (Nat.le_of_ble_eq_true rfl) ?_
            rintro _ μx ⟨rfl, hx⟩
            rw [hx]
            clear hx μx
            refine z_ne X_shift_d89 (tgt := 95) rfl (fun h89 => ?_) (fun h89 => ?_)
            · have g1 := P1.mp (zB_ne0.mp h77)
              have g2 := P2.mp (zB_ne0.mp h89)
              have hall : 0 ≤ n ∧ 0 ≤ i ∧ 0 ≤ j ∧ i ≤ hSize S 1 - n ∧ j ≤ hSize S 4 - n := by
                exact ⟨g1.2.1, g1.1, g2.1, by rw [em]; exact g1.2.2, by rw [ew]; exact g2.2.2⟩
              rw [opSh_d (by omega) (by omega) f1 f2 hsrt hall]
              clear hall
              obtain ⟨N, hN, rfl⟩ := nI_of (Int32.not_lt.mpr g1.2.1)
              obtain ⟨x, hx, rfl⟩ := nI_of (Int32.not_lt.mpr g1.1)
              obtain ⟨y, hy, rfl⟩ := nI_of (Int32.not_lt.mpr g2.1)
              have k1 := (le_sub hx hm hN).mp g1.2.2
              have k2 := (le_sub hy hw hN).mp g2.2.2
              have cN : (nI N).toNatClampNeg = N := nI_clamp hN
              have cx : (nI x).toNatClampNeg = x := nI_clamp hx
              have cy : (nI y).toNatClampNeg = y := nI_clamp hy
              refine zb X_shift_s95 rfl ?_
              refine zcpL X_shift_d110 k10_366 (by omega) (Nat.le_of_ble_eq_true rfl) rfl rfl (nI_pos (by omega)) (nI_pos (by omega)) (nI_pos (by omega)) (by rw [cN, cx]; omega) (by rw [cN, cy]; omega) ?_
              refine zb X_shift_s113 rfl ?_
              refine z_ret X_shift_d115 rfl ?_
              first
                | (have f := fin_shift (s := 1) (p := 4) (a := x) (b := y) (N := N) hS (by omega) (by omega) (by omega)
                   rw [cN, cx, cy]
                   exact ⟨rfl, f.1, f.2⟩)
                | (have q : ¬ bP 17 j n μ := zB_eq0.mp h89
                   rw [opSh_c (by omega) (by omega) f1 f2 hsrt (fun z => q (P2.mpr (And.intro z.2.2.1 (And.intro z.1 (by rw [← ew]; exact z.2.2.2.2)))))]
                   exact ⟨rfl, hS, onlyX.rf⟩)
                | (have q : ¬ bP 14 i n μ := zB_eq0.mp h77
                   rw [opSh_c (by omega) (by omega) f1 f2 hsrt (fun z => q (P1.mpr (And.intro z.2.1 (And.intro z.1 (by rw [← em]; exact z.2.2.2.1)))))]
                   exact ⟨rfl, hS, onlyX.rf⟩)
                | (have q := zB_eq0.mp h63
                   have f1 : hHeld S 1 = 2 := R1.mp (zB_ne0.mp h50)
                   have n2 : ¬ hHeld S 4 = 0 := fun z => (show ¬ bE 17 μ from zB_eq0.mp h39) (E2.mpr z)
                   rw [opSh_b (by omega) (by omega) (by rw [f1]; decide) n2 (by
                     by_cases z : hHeld S 4 = 2
                     · refine Or.inr (Or.inr (fun y => q (And.intro (R2.mpr z) ?_)))
                       exact (show μ.1 17 2 = _ from (xsh2 hS hok (show 4 < 6 by omega) z).1).trans (y.symm.trans (show μ.1 14 2 = _ from (xsh2 hS hok (show 1 < 6 by omega) f1).1).symm)
                     · exact Or.inr (Or.inl (xsh1 hok (by omega) n2 z)))]
                   exact ⟨rfl, hS, onlyX.rf⟩)
                | (have q : ¬ bR 14 μ := zB_eq0.mp h50
                   have n1 : ¬ hHeld S 1 = 0 := fun z => (show ¬ bE 14 μ from zB_eq0.mp h31) (E1.mpr z)
                   have n2 : ¬ hHeld S 4 = 0 := fun z => (show ¬ bE 17 μ from zB_eq0.mp h39) (E2.mpr z)
                   rw [opSh_b (by omega) (by omega) n1 n2 (Or.inl (xsh1 hok (by omega) n1 (fun z => q (R1.mpr z))))]
                   exact ⟨rfl, hS, onlyX.rf⟩)
                | (have q : bE 17 μ := zB_ne0.mp h39
                   rw [opSh_a (by omega) (by omega) (Or.inr (E2.mp q))]
                   exact ⟨rfl, hS, onlyX.rf⟩)
                | (have q : bE 14 μ := zB_ne0.mp h31
                   rw [opSh_a (by omega) (by omega) (Or.inl (E1.mp q))]
                   exact ⟨rfl, hS, onlyX.rf⟩)
            · refine zb X_shift_s92 rfl ?_
              refine z_ret X_shift_d94 rfl ?_
              first
                | (have f := fin_shift (s := 1) (p := 4) (a := x) (b := y) (N := N) hS (by omega) (by omega) (by omega)
                   rw [cN, cx, cy]
                   exact ⟨rfl, f.1, f.2⟩)
                | (have q : ¬ bP 17 j n μ := zB_eq0.mp h89
                   rw [opSh_c (by omega) (by omega) f1 f2 hsrt (fun z => q (P2.mpr (And.intro z.2.2.1 (And.intro z.1 (by rw [← ew]; exact z.2.2.2.2)))))]
                   exact ⟨rfl, hS, onlyX.rf⟩)
                | (have q : ¬ bP 14 i n μ := zB_eq0.mp h77
                   rw [opSh_c (by omega) (by omega) f1 f2 hsrt (fun z => q (P1.mpr (And.intro z.2.1 (And.intro z.1 (by rw [← em]; exact z.2.2.2.1)))))]
                   exact ⟨rfl, hS, onlyX.rf⟩)
                | (have q := zB_eq0.mp h63
                   have f1 : hHeld S 1 = 2 := R1.mp (zB_ne0.mp h50)
                   have n2 : ¬ hHeld S 4 = 0 := fun z => (show ¬ bE 17 μ from zB_eq0.mp h39) (E2.mpr z)
                   rw [opSh_b (by omega) (by omega) (by rw [f1]; decide) n2 (by
                     by_cases z : hHeld S 4 = 2
                     · refine Or.inr (Or.inr (fun y => q (And.intro (R2.mpr z) ?_)))
                       exact (show μ.1 17 2 = _ from (xsh2 hS hok (show 4 < 6 by omega) z).1).trans (y.symm.trans (show μ.1 14 2 = _ from (xsh2 hS hok (show 1 < 6 by omega) f1).1).symm)
                     · exact Or.inr (Or.inl (xsh1 hok (by omega) n2 z)))]
                   exact ⟨rfl, hS, onlyX.rf⟩)
                | (have q : ¬ bR 14 μ := zB_eq0.mp h50
                   have n1 : ¬ hHeld S 1 = 0 := fun z => (show ¬ bE 14 μ from zB_eq0.mp h31) (E1.mpr z)
                   have n2 : ¬ hHeld S 4 = 0 := fun z => (show ¬ bE 17 μ from zB_eq0.mp h39) (E2.mpr z)
                   rw [opSh_b (by omega) (by omega) n1 n2 (Or.inl (xsh1 hok (by omega) n1 (fun z => q (R1.mpr z))))]
                   exact ⟨rfl, hS, onlyX.rf⟩)
                | (have q : bE 17 μ := zB_ne0.mp h39
                   rw [opSh_a (by omega) (by omega) (Or.inr (E2.mp q))]
                   exact ⟨rfl, hS, onlyX.rf⟩)
                | (have q : bE 14 μ := zB_ne0.mp h31
                   rw [opSh_a (by omega) (by omega) (Or.inl (E1.mp q))]
                   exact ⟨rfl, hS, onlyX.rf⟩)
        · refine zb X_shift_s66 rfl ?_
          refine z_ret X_shift_d68 rfl ?_
          first
            | (have f := fin_shift (s := 1) (p := 4) (a := x) (b := y) (N := N) hS (by omega) (by omega) (by omega)
               rw [cN, cx, cy]
               exact ⟨rfl, f.1, f.2⟩)
            | (have q : ¬ bP 17 j n μ := zB_eq0.mp h89
               rw [opSh_c (by omega) (by omega) f1 f2 hsrt (fun z => q (P2.mpr (And.intro z.2.2.1 (And.intro z.1 (by rw [← ew]; exact z.2.2.2.2)))))]
               exact ⟨rfl, hS, onlyX.rf⟩)
            | (have q : ¬ bP 14 i n μ := zB_eq0.mp h77
               rw [opSh_c (by omega) (by omega) f1 f2 hsrt (fun z => q (P1.mpr (And.intro z.2.1 (And.intro z.1 (by rw [← em]; exact z.2.2.2.1)))))]
               exact ⟨rfl, hS, onlyX.rf⟩)
            | (have q := zB_eq0.mp h63
               have f1 : hHeld S 1 = 2 := R1.mp (zB_ne0.mp h50)
               have n2 : ¬ hHeld S 4 = 0 := fun z => (show ¬ bE 17 μ from zB_eq0.mp h39) (E2.mpr z)
               rw [opSh_b (by omega) (by omega) (by rw [f1]; decide) n2 (by
                 by_cases z : hHeld S 4 = 2
                 · refine Or.inr (Or.inr (fun y => q (And.intro (R2.mpr z) ?_)))
                   exact (show μ.1 17 2 = _ from (xsh2 hS hok (show 4 < 6 by omega) z).1).trans (y.symm.trans (show μ.1 14 2 = _ from (xsh2 hS hok (show 1 < 6 by omega) f1).1).symm)
                 · exact Or.inr (Or.inl (xsh1 hok (by omega) n2 z)))]
               exact ⟨rfl, hS, onlyX.rf⟩)
            | (have q : ¬ bR 14 μ := zB_eq0.mp h50
               have n1 : ¬ hHeld S 1 = 0 := fun z => (show ¬ bE 14 μ from zB_eq0.mp h31) (E1.mpr z)
               have n2 : ¬ hHeld S 4 = 0 := fun z => (show ¬ bE 17 μ from zB_eq0.mp h39) (E2.mpr z)
               rw [opSh_b (by omega) (by omega) n1 n2 (Or.inl (xsh1 hok (by omega) n1 (fun z => q (R1.mpr z))))]
               exact ⟨rfl, hS, onlyX.rf⟩)
            | (have q : bE 17 μ := zB_ne0.mp h39
               rw [opSh_a (by omega) (by omega) (Or.inr (E2.mp q))]
               exact ⟨rfl, hS, onlyX.rf⟩)
            | (have q : bE 14 μ := zB_ne0.mp h31
               rw [opSh_a (by omega) (by omega) (Or.inl (E1.mp q))]
               exact ⟨rfl, hS, onlyX.rf⟩)
    · refine zb X_shift_s42 rfl ?_
      refine z_ret X_shift_d44 rfl ?_
      first
        | (have f := fin_shift (s := 1) (p := 4) (a := x) (b := y) (N := N) hS (by omega) (by omega) (by omega)
           rw [cN, cx, cy]
           exact ⟨rfl, f.1, f.2⟩)
        | (have q : ¬ bP 17 j n μ := zB_eq0.mp h89
           rw [opSh_c (by omega) (by omega) f1 f2 hsrt (fun z => q (P2.mpr (And.intro z.2.2.1 (And.intro z.1 (by rw [← ew]; exact z.2.2.2.2)))))]
           exact ⟨rfl, hS, onlyX.rf⟩)
        | (have q : ¬ bP 14 i n μ := zB_eq0.mp h77
           rw [opSh_c (by omega) (by omega) f1 f2 hsrt (fun z => q (P1.mpr (And.intro z.2.1 (And.intro z.1 (by rw [← em]; exact z.2.2.2.1)))))]
           exact ⟨rfl, hS, onlyX.rf⟩)
        | (have q := zB_eq0.mp h63
           have f1 : hHeld S 1 = 2 := R1.mp (zB_ne0.mp h50)
           have n2 : ¬ hHeld S 4 = 0 := fun z => (show ¬ bE 17 μ from zB_eq0.mp h39) (E2.mpr z)
           rw [opSh_b (by omega) (by omega) (by rw [f1]; decide) n2 (by
             by_cases z : hHeld S 4 = 2
             · refine Or.inr (Or.inr (fun y => q (And.intro (R2.mpr z) ?_)))
               exact (show μ.1 17 2 = _ from (xsh2 hS hok (show 4 < 6 by omega) z).1).trans (y.symm.trans (show μ.1 14 2 = _ from (xsh2 hS hok (show 1 < 6 by omega) f1).1).symm)
             · exact Or.inr (Or.inl (xsh1 hok (by omega) n2 z)))]
           exact ⟨rfl, hS, onlyX.rf⟩)
        | (have q : ¬ bR 14 μ := zB_eq0.mp h50
           have n1 : ¬ hHeld S 1 = 0 := fun z => (show ¬ bE 14 μ from zB_eq0.mp h31) (E1.mpr z)
           have n2 : ¬ hHeld S 4 = 0 := fun z => (show ¬ bE 17 μ from zB_eq0.mp h39) (E2.mpr z)
           rw [opSh_b (by omega) (by omega) n1 n2 (Or.inl (xsh1 hok (by omega) n1 (fun z => q (R1.mpr z))))]
           exact ⟨rfl, hS, onlyX.rf⟩)
        | (have q : bE 17 μ := zB_ne0.mp h39
           rw [opSh_a (by omega) (by omega) (Or.inr (E2.mp q))]
           exact ⟨rfl, hS, onlyX.rf⟩)
        | (have q : bE 14 μ := zB_ne0.mp h31
           rw [opSh_a (by omega) (by omega) (Or.inl (E1.mp q))]
           exact ⟨rfl, hS, onlyX.rf⟩)

set_option maxRecDepth 100000 in
set_option maxHeartbeats 4000000 in
theorem xs_shift_1_5 {g : zG} {d : Nat} {S : zS} {μ : zMem} {i j n : Int32} (hd : 2 ≤ d) (hS : xS S μ) (hok : okH S) : zM g d X_shift [.ref 1, .int (nI 1), .int i, .int (nI 5), .int j, .int n] μ (pO xS onlyX (opShift S (nI 1) i (nI 5) j n) μ) := by
  refine zM_of (by decide +kernel) rfl rfl (Nat.le_of_ble_eq_true rfl) rfl ?_
  obtain ⟨ho, h2, hT, hC, hD, hI, hA, hH⟩ := hS
  have hS : xS S μ := ⟨ho, h2, hT, hC, hD, hI, hA, hH⟩
  have hb := ho.b
  have hv := ho.v
  have hB6 := ho.b6
  have hV12 := ho.v12
  have hz : zq sX μ μ := zq.rf
  have E1 := xshE (s := 1) hS hok (by omega)
  have E2 := xshE (s := 5) hS hok (by omega)
  have R1 := xshR (s := 1) hS hok (by omega)
  have R2 := xshR (s := 5) hS hok (by omega)
  refine zb X_shift_s0 rfl ?_
  refine zcallV X_shift_d2 k10_93 (by omega) (x_shelf_1 (by omega)) rfl rfl rfl (Nat.le_of_ble_eq_true rfl) ?_
  rintro _ μx ⟨rfl, hx⟩
  rw [hx]
  clear hx μx
  refine zb X_shift_s5 rfl ?_
  refine zcallV X_shift_d9 k10_93 (by omega) (x_shelf_5 (by omega)) rfl rfl rfl (Nat.le_of_ble_eq_true rfl) ?_
  rintro _ μx ⟨rfl, hx⟩
  rw [hx]
  clear hx μx
  refine zb X_shift_s12 rfl ?_
  refine z_null X_shift_d16 ?_
  refine zb X_shift_s19 rfl ?_
  refine z_nonnull X_shift_d21 (tgt := 26) rfl ?_
  refine zb X_shift_s26 rfl ?_
  refine zcallV X_shift_d28 k10_97 (by omega) (x_isEmpty_1) rfl rfl rfl (Nat.le_of_ble_eq_true rfl) ?_
  rintro _ μx ⟨rfl, hx⟩
  rw [hx]
  clear hx μx
  refine z_ne X_shift_d31 (tgt := 42) rfl (fun h31 => ?_) (fun h31 => ?_)
  · refine zb X_shift_s42 rfl ?_
    refine z_ret X_shift_d44 rfl ?_
    first
      | (have f := fin_shift (s := 1) (p := 5) (a := x) (b := y) (N := N) hS (by omega) (by omega) (by omega)
         rw [cN, cx, cy]
         exact ⟨rfl, f.1, f.2⟩)
      | (have q : ¬ bP 18 j n μ := zB_eq0.mp h89
         rw [opSh_c (by omega) (by omega) f1 f2 hsrt (fun z => q (P2.mpr (And.intro z.2.2.1 (And.intro z.1 (by rw [← ew]; exact z.2.2.2.2)))))]
         exact ⟨rfl, hS, onlyX.rf⟩)
      | (have q : ¬ bP 14 i n μ := zB_eq0.mp h77
         rw [opSh_c (by omega) (by omega) f1 f2 hsrt (fun z => q (P1.mpr (And.intro z.2.1 (And.intro z.1 (by rw [← em]; exact z.2.2.2.1)))))]
         exact ⟨rfl, hS, onlyX.rf⟩)
      | (have q := zB_eq0.mp h63
         have f1 : hHeld S 1 = 2 := R1.mp (zB_ne0.mp h50)
         have n2 : ¬ hHeld S 5 = 0 := fun z => (show ¬ bE 18 μ from zB_eq0.mp h39) (E2.mpr z)
         rw [opSh_b (by omega) (by omega) (by rw [f1]; decide) n2 (by
           by_cases z : hHeld S 5 = 2
           · refine Or.inr (Or.inr (fun y => q (And.intro (R2.mpr z) ?_)))
             exact (show μ.1 18 2 = _ from (xsh2 hS hok (show 5 < 6 by omega) z).1).trans (y.symm.trans (show μ.1 14 2 = _ from (xsh2 hS hok (show 1 < 6 by omega) f1).1).symm)
           · exact Or.inr (Or.inl (xsh1 hok (by omega) n2 z)))]
         exact ⟨rfl, hS, onlyX.rf⟩)
      | (have q : ¬ bR 14 μ := zB_eq0.mp h50
         have n1 : ¬ hHeld S 1 = 0 := fun z => (show ¬ bE 14 μ from zB_eq0.mp h31) (E1.mpr z)
         have n2 : ¬ hHeld S 5 = 0 := fun z => (show ¬ bE 18 μ from zB_eq0.mp h39) (E2.mpr z)
         rw [opSh_b (by omega) (by omega) n1 n2 (Or.inl (xsh1 hok (by omega) n1 (fun z => q (R1.mpr z))))]
         exact ⟨rfl, hS, onlyX.rf⟩)
      | (have q : bE 18 μ := zB_ne0.mp h39
         rw [opSh_a (by omega) (by omega) (Or.inr (E2.mp q))]
         exact ⟨rfl, hS, onlyX.rf⟩)
      | (have q : bE 14 μ := zB_ne0.mp h31
         rw [opSh_a (by omega) (by omega) (Or.inl (E1.mp q))]
         exact ⟨rfl, hS, onlyX.rf⟩)
  · refine zb X_shift_s34 rfl ?_
    refine zcallV X_shift_d36 k10_97 (by omega) (x_isEmpty_5) rfl rfl rfl (Nat.le_of_ble_eq_true rfl) ?_
    rintro _ μx ⟨rfl, hx⟩
    rw [hx]
    clear hx μx
    refine z_eq X_shift_d39 (tgt := 45) rfl (fun h39 => ?_) (fun h39 => ?_)
    · refine zb X_shift_s45 rfl ?_
      refine zcallV X_shift_d47 k10_357 (by omega) (x_isRow_1) rfl rfl rfl (Nat.le_of_ble_eq_true rfl) ?_
      rintro _ μx ⟨rfl, hx⟩
      rw [hx]
      clear hx μx
      refine z_eq X_shift_d50 (tgt := 66) rfl (fun h50 => ?_) (fun h50 => ?_)
      · refine zb X_shift_s66 rfl ?_
        refine z_ret X_shift_d68 rfl ?_
        first
          | (have f := fin_shift (s := 1) (p := 5) (a := x) (b := y) (N := N) hS (by omega) (by omega) (by omega)
             rw [cN, cx, cy]
             exact ⟨rfl, f.1, f.2⟩)
          | (have q : ¬ bP 18 j n μ := zB_eq0.mp h89
             rw [opSh_c (by omega) (by omega) f1 f2 hsrt (fun z => q (P2.mpr (And.intro z.2.2.1 (And.intro z.1 (by rw [← ew]; exact z.2.2.2.2)))))]
             exact ⟨rfl, hS, onlyX.rf⟩)
          | (have q : ¬ bP 14 i n μ := zB_eq0.mp h77
             rw [opSh_c (by omega) (by omega) f1 f2 hsrt (fun z => q (P1.mpr (And.intro z.2.1 (And.intro z.1 (by rw [← em]; exact z.2.2.2.1)))))]
             exact ⟨rfl, hS, onlyX.rf⟩)
          | (have q := zB_eq0.mp h63
             have f1 : hHeld S 1 = 2 := R1.mp (zB_ne0.mp h50)
             have n2 : ¬ hHeld S 5 = 0 := fun z => (show ¬ bE 18 μ from zB_eq0.mp h39) (E2.mpr z)
             rw [opSh_b (by omega) (by omega) (by rw [f1]; decide) n2 (by
               by_cases z : hHeld S 5 = 2
               · refine Or.inr (Or.inr (fun y => q (And.intro (R2.mpr z) ?_)))
                 exact (show μ.1 18 2 = _ from (xsh2 hS hok (show 5 < 6 by omega) z).1).trans (y.symm.trans (show μ.1 14 2 = _ from (xsh2 hS hok (show 1 < 6 by omega) f1).1).symm)
               · exact Or.inr (Or.inl (xsh1 hok (by omega) n2 z)))]
             exact ⟨rfl, hS, onlyX.rf⟩)
          | (have q : ¬ bR 14 μ := zB_eq0.mp h50
             have n1 : ¬ hHeld S 1 = 0 := fun z => (show ¬ bE 14 μ from zB_eq0.mp h31) (E1.mpr z)
             have n2 : ¬ hHeld S 5 = 0 := fun z => (show ¬ bE 18 μ from zB_eq0.mp h39) (E2.mpr z)
             rw [opSh_b (by omega) (by omega) n1 n2 (Or.inl (xsh1 hok (by omega) n1 (fun z => q (R1.mpr z))))]
             exact ⟨rfl, hS, onlyX.rf⟩)
          | (have q : bE 18 μ := zB_ne0.mp h39
             rw [opSh_a (by omega) (by omega) (Or.inr (E2.mp q))]
             exact ⟨rfl, hS, onlyX.rf⟩)
          | (have q : bE 14 μ := zB_ne0.mp h31
             rw [opSh_a (by omega) (by omega) (Or.inl (E1.mp q))]
             exact ⟨rfl, hS, onlyX.rf⟩)
      · refine zb X_shift_s53 rfl ?_
        refine zcallV X_shift_d60 k10_101 (by omega) (x_isRowOf_5 _ (by omega)) rfl rfl rfl (Nat.le_of_ble_eq_true rfl) ?_
        rintro _ μx ⟨rfl, hx⟩
        rw [hx]
        clear hx μx
        refine z_ne X_shift_d63 (tgt := 69) rfl (fun h63 => ?_) (fun h63 => ?_)
        · have f1 : hHeld S 1 = 2 := R1.mp (zB_ne0.mp h50)
          have f2 : hHeld S 5 = 2 := R2.mp (zB_ne0.mp h63).1
          obtain ⟨a1, a2, m, hm, em⟩ := xsh2 hS hok (show 1 < 6 by omega) f1
          obtain ⟨b1, b2, w, hw, ew⟩ := xsh2 hS hok (show 5 < 6 by omega) f2
          have hsrt : hSort S 1 = hSort S 5 := a1.symm.trans ((zB_ne0.mp h63).2.symm.trans b1)
          have P1 := bPn (i := i) (n := n) hm (a2.trans em)
          have P2 := bPn (i := j) (n := n) hw (b2.trans ew)
          refine zb X_shift_s69 rfl ?_
          refine zcallV X_shift_d74 k10_363 (by omega) (x_hasPlaces_1 _ _) rfl rfl rfl (Nat.le_of_ble_eq_true rfl) ?_
          rintro _ μx ⟨rfl, hx⟩
          rw [hx]
          clear hx μx
          refine z_eq X_shift_d77 (tgt := 92) rfl (fun h77 => ?_) (fun h77 => ?_)
          · refine zb X_shift_s92 rfl ?_
            refine z_ret X_shift_d94 rfl ?_
            first
              | (have f := fin_shift (s := 1) (p := 5) (a := x) (b := y) (N := N) hS (by omega) (by omega) (by omega)
                 rw [cN, cx, cy]
                 exact ⟨rfl, f.1, f.2⟩)
              | (have q : ¬ bP 18 j n μ := zB_eq0.mp h89
                 rw [opSh_c (by omega) (by omega) f1 f2 hsrt (fun z => q (P2.mpr (And.intro z.2.2.1 (And.intro z.1 (by rw [← ew]; exact z.2.2.2.2)))))]
                 exact ⟨rfl, hS, onlyX.rf⟩)
              | (have q : ¬ bP 14 i n μ := zB_eq0.mp h77
                 rw [opSh_c (by omega) (by omega) f1 f2 hsrt (fun z => q (P1.mpr (And.intro z.2.1 (And.intro z.1 (by rw [← em]; exact z.2.2.2.1)))))]
                 exact ⟨rfl, hS, onlyX.rf⟩)
              | (have q := zB_eq0.mp h63
                 have f1 : hHeld S 1 = 2 := R1.mp (zB_ne0.mp h50)
                 have n2 : ¬ hHeld S 5 = 0 := fun z => (show ¬ bE 18 μ from zB_eq0.mp h39) (E2.mpr z)
                 rw [opSh_b (by omega) (by omega) (by rw [f1]; decide) n2 (by
                   by_cases z : hHeld S 5 = 2
                   · refine Or.inr (Or.inr (fun y => q (And.intro (R2.mpr z) ?_)))
                     exact (show μ.1 18 2 = _ from (xsh2 hS hok (show 5 < 6 by omega) z).1).trans (y.symm.trans (show μ.1 14 2 = _ from (xsh2 hS hok (show 1 < 6 by omega) f1).1).symm)
                   · exact Or.inr (Or.inl (xsh1 hok (by omega) n2 z)))]
                 exact ⟨rfl, hS, onlyX.rf⟩)
              | (have q : ¬ bR 14 μ := zB_eq0.mp h50
                 have n1 : ¬ hHeld S 1 = 0 := fun z => (show ¬ bE 14 μ from zB_eq0.mp h31) (E1.mpr z)
                 have n2 : ¬ hHeld S 5 = 0 := fun z => (show ¬ bE 18 μ from zB_eq0.mp h39) (E2.mpr z)
                 rw [opSh_b (by omega) (by omega) n1 n2 (Or.inl (xsh1 hok (by omega) n1 (fun z => q (R1.mpr z))))]
                 exact ⟨rfl, hS, onlyX.rf⟩)
              | (have q : bE 18 μ := zB_ne0.mp h39
                 rw [opSh_a (by omega) (by omega) (Or.inr (E2.mp q))]
                 exact ⟨rfl, hS, onlyX.rf⟩)
              | (have q : bE 14 μ := zB_ne0.mp h31
                 rw [opSh_a (by omega) (by omega) (Or.inl (E1.mp q))]
                 exact ⟨rfl, hS, onlyX.rf⟩)
          · refine zb X_shift_s80 rfl ?_
            refine zcallV X_shift_d86 k10_363 (by omega) (x_hasPlaces_5 _ _) rfl rfl rfl (Nat.le_of_ble_eq_true rfl) ?_
            rintro _ μx ⟨rfl, hx⟩
            rw [hx]
            clear hx μx
            refine z_ne X_shift_d89 (tgt := 95) rfl (fun h89 => ?_) (fun h89 => ?_)
            · have g1 := P1.mp (zB_ne0.mp h77)
              have g2 := P2.mp (zB_ne0.mp h89)
              have hall : 0 ≤ n ∧ 0 ≤ i ∧ 0 ≤ j ∧ i ≤ hSize S 1 - n ∧ j ≤ hSize S 5 - n := by
                exact ⟨g1.2.1, g1.1, g2.1, by rw [em]; exact g1.2.2, by rw [ew]; exact g2.2.2⟩
              rw [opSh_d (by omega) (by omega) f1 f2 hsrt hall]
              clear hall
              obtain ⟨N, hN, rfl⟩ := nI_of (Int32.not_lt.mpr g1.2.1)
              obtain ⟨x, hx, rfl⟩ := nI_of (Int32.not_lt.mpr g1.1)
              obtain ⟨y, hy, rfl⟩ := nI_of (Int32.not_lt.mpr g2.1)
              have k1 := (le_sub hx hm hN).mp g1.2.2
              have k2 := (le_sub hy hw hN).mp g2.2.2
              have cN : (nI N).toNatClampNeg = N := nI_clamp hN
              have cx : (nI x).toNatClampNeg = x := nI_clamp hx
              have cy : (nI y).toNatClampNeg = y := nI_clamp hy
              refine zb X_shift_s95 rfl ?_
              refine zcpL X_shift_d110 k10_366 (by omega) (Nat.le_of_ble_eq_true rfl) rfl rfl (nI_pos (by omega)) (nI_pos (by omega)) (nI_pos (by omega)) (by rw [cN, cx]; omega) (by rw [cN, cy]; omega) ?_
              refine zb X_shift_s113 rfl ?_
              refine z_ret X_shift_d115 rfl ?_
              first
                | (have f := fin_shift (s := 1) (p := 5) (a := x) (b := y) (N := N) hS (by omega) (by omega) (by omega)
                   rw [cN, cx, cy]
                   exact ⟨rfl, f.1, f.2⟩)
                | (have q : ¬ bP 18 j n μ := zB_eq0.mp h89
                   rw [opSh_c (by omega) (by omega) f1 f2 hsrt (fun z => q (P2.mpr (And.intro z.2.2.1 (And.intro z.1 (by rw [← ew]; exact z.2.2.2.2)))))]
                   exact ⟨rfl, hS, onlyX.rf⟩)
                | (have q : ¬ bP 14 i n μ := zB_eq0.mp h77
                   rw [opSh_c (by omega) (by omega) f1 f2 hsrt (fun z => q (P1.mpr (And.intro z.2.1 (And.intro z.1 (by rw [← em]; exact z.2.2.2.1)))))]
                   exact ⟨rfl, hS, onlyX.rf⟩)
                | (have q := zB_eq0.mp h63
                   have f1 : hHeld S 1 = 2 := R1.mp (zB_ne0.mp h50)
                   have n2 : ¬ hHeld S 5 = 0 := fun z => (show ¬ bE 18 μ from zB_eq0.mp h39) (E2.mpr z)
                   rw [opSh_b (by omega) (by omega) (by rw [f1]; decide) n2 (by
                     by_cases z : hHeld S 5 = 2
                     · refine Or.inr (Or.inr (fun y => q (And.intro (R2.mpr z) ?_)))
                       exact (show μ.1 18 2 = _ from (xsh2 hS hok (show 5 < 6 by omega) z).1).trans (y.symm.trans (show μ.1 14 2 = _ from (xsh2 hS hok (show 1 < 6 by omega) f1).1).symm)
                     · exact Or.inr (Or.inl (xsh1 hok (by omega) n2 z)))]
                   exact ⟨rfl, hS, onlyX.rf⟩)
                | (have q : ¬ bR 14 μ := zB_eq0.mp h50
                   have n1 : ¬ hHeld S 1 = 0 := fun z => (show ¬ bE 14 μ from zB_eq0.mp h31) (E1.mpr z)
                   have n2 : ¬ hHeld S 5 = 0 := fun z => (show ¬ bE 18 μ from zB_eq0.mp h39) (E2.mpr z)
                   rw [opSh_b (by omega) (by omega) n1 n2 (Or.inl (xsh1 hok (by omega) n1 (fun z => q (R1.mpr z))))]
                   exact ⟨rfl, hS, onlyX.rf⟩)
                | (have q : bE 18 μ := zB_ne0.mp h39
                   rw [opSh_a (by omega) (by omega) (Or.inr (E2.mp q))]
                   exact ⟨rfl, hS, onlyX.rf⟩)
                | (have q : bE 14 μ := zB_ne0.mp h31
                   rw [opSh_a (by omega) (by omega) (Or.inl (E1.mp q))]
                   exact ⟨rfl, hS, onlyX.rf⟩)
            · refine zb X_shift_s92 rfl ?_
              refine z_ret X_shift_d94 rfl ?_
              first
                | (have f := fin_shift (s := 1) (p := 5) (a := x) (b := y) (N := N) hS (by omega) (by omega) (by omega)
                   rw [cN, cx, cy]
                   exact ⟨rfl, f.1, f.2⟩)
                | (have q : ¬ bP 18 j n μ := zB_eq0.mp h89
                   rw [opSh_c (by omega) (by omega) f1 f2 hsrt (fun z => q (P2.mpr (And.intro z.2.2.1 (And.intro z.1 (by rw [← ew]; exact z.2.2.2.2)))))]
                   exact ⟨rfl, hS, onlyX.rf⟩)
                | (have q : ¬ bP 14 i n μ := zB_eq0.mp h77
                   rw [opSh_c (by omega) (by omega) f1 f2 hsrt (fun z => q (P1.mpr (And.intro z.2.1 (And.intro z.1 (by rw [← em]; exact z.2.2.2.1)))))]
                   exact ⟨rfl, hS, onlyX.rf⟩)
                | (have q := zB_eq0.mp h63
                   have f1 : hHeld S 1 = 2 := R1.mp (zB_ne0.mp h50)
                   have n2 : ¬ hHeld S 5 = 0 := fun z => (show ¬ bE 18 μ from zB_eq0.mp h39) (E2.mpr z)
                   rw [opSh_b (by omega) (by omega) (by rw [f1]; decide) n2 (by
                     by_cases z : hHeld S 5 = 2
                     · refine Or.inr (Or.inr (fun y => q (And.intro (R2.mpr z) ?_)))
                       exact (show μ.1 18 2 = _ from (xsh2 hS hok (show 5 < 6 by omega) z).1).trans (y.symm.trans (show μ.1 14 2 = _ from (xsh2 hS hok (show 1 < 6 by omega) f1).1).symm)
                     · exact Or.inr (Or.inl (xsh1 hok (by omega) n2 z)))]
                   exact ⟨rfl, hS, onlyX.rf⟩)
                | (have q : ¬ bR 14 μ := zB_eq0.mp h50
                   have n1 : ¬ hHeld S 1 = 0 := fun z => (show ¬ bE 14 μ from zB_eq0.mp h31) (E1.mpr z)
                   have n2 : ¬ hHeld S 5 = 0 := fun z => (show ¬ bE 18 μ from zB_eq0.mp h39) (E2.mpr z)
                   rw [opSh_b (by omega) (by omega) n1 n2 (Or.inl (xsh1 hok (by omega) n1 (fun z => q (R1.mpr z))))]
                   exact ⟨rfl, hS, onlyX.rf⟩)
                | (have q : bE 18 μ := zB_ne0.mp h39
                   rw [opSh_a (by omega) (by omega) (Or.inr (E2.mp q))]
                   exact ⟨rfl, hS, onlyX.rf⟩)
                | (have q : bE 14 μ := zB_ne0.mp h31
                   rw [opSh_a (by omega) (by omega) (Or.inl (E1.mp q))]
                   exact ⟨rfl, hS, onlyX.rf⟩)
        · refine zb X_shift_s66 rfl ?_
          refine z_ret X_shift_d68 rfl ?_
          first
            | (have f := fin_shift (s := 1) (p := 5) (a := x) (b := y) (N := N) hS (by omega) (by omega) (by omega)
               rw [cN, cx, cy]
               exact ⟨rfl, f.1, f.2⟩)
            | (have q : ¬ bP 18 j n μ := zB_eq0.mp h89
               rw [opSh_c (by omega) (by omega) f1 f2 hsrt (fun z => q (P2.mpr (And.intro z.2.2.1 (And.intro z.1 (by rw [← ew]; exact z.2.2.2.2)))))]
               exact ⟨rfl, hS, onlyX.rf⟩)
            | (have q : ¬ bP 14 i n μ := zB_eq0.mp h77
               rw [opSh_c (by omega) (by omega) f1 f2 hsrt (fun z => q (P1.mpr (And.intro z.2.1 (And.intro z.1 (by rw [← em]; exact z.2.2.2.1)))))]
               exact ⟨rfl, hS, onlyX.rf⟩)
            | (have q := zB_eq0.mp h63
               have f1 : hHeld S 1 = 2 := R1.mp (zB_ne0.mp h50)
               have n2 : ¬ hHeld S 5 = 0 := fun z => (show ¬ bE 18 μ from zB_eq0.mp h39) (E2.mpr z)
               rw [opSh_b (by omega) (by omega) (by rw [f1]; decide) n2 (by
                 by_cases z : hHeld S 5 = 2
                 · refine Or.inr (Or.inr (fun y => q (And.intro (R2.mpr z) ?_)))
                   exact (show μ.1 18 2 = _ from (xsh2 hS hok (show 5 < 6 by omega) z).1).trans (y.symm.trans (show μ.1 14 2 = _ from (xsh2 hS hok (show 1 < 6 by omega) f1).1).symm)
                 · exact Or.inr (Or.inl (xsh1 hok (by omega) n2 z)))]
               exact ⟨rfl, hS, onlyX.rf⟩)
            | (have q : ¬ bR 14 μ := zB_eq0.mp h50
               have n1 : ¬ hHeld S 1 = 0 := fun z => (show ¬ bE 14 μ from zB_eq0.mp h31) (E1.mpr z)
               have n2 : ¬ hHeld S 5 = 0 := fun z => (show ¬ bE 18 μ from zB_eq0.mp h39) (E2.mpr z)
               rw [opSh_b (by omega) (by omega) n1 n2 (Or.inl (xsh1 hok (by omega) n1 (fun z => q (R1.mpr z))))]
               exact ⟨rfl, hS, onlyX.rf⟩)
            | (have q : bE 18 μ := zB_ne0.mp h39
               rw [opSh_a (by omega) (by omega) (Or.inr (E2.mp q))]
               exact ⟨rfl, hS, onlyX.rf⟩)
            | (have q : bE 14 μ := zB_ne0.mp h31
               rw [opSh_a (by omega) (by omega) (Or.inl (E1.mp q))]
               exact ⟨rfl, hS, onlyX.rf⟩)
    · refine zb X_shift_s42 rfl ?_
      refine z_ret X_shift_d44 rfl ?_
      first
        | (have f := fin_shift (s := 1) (p := 5) (a := x) (b := y) (N := N) hS (by omega) (by omega) (by omega)
           rw [cN, cx, cy]
           exact ⟨rfl, f.1, f.2⟩)
        | (have q : ¬ bP 18 j n μ := zB_eq0.mp h89
           rw [opSh_c (by omega) (by omega) f1 f2 hsrt (fun z => q (P2.mpr (And.intro z.2.2.1 (And.intro z.1 (by rw [← ew]; exact z.2.2.2.2)))))]
           exact ⟨rfl, hS, onlyX.rf⟩)
        | (have q : ¬ bP 14 i n μ := zB_eq0.mp h77
           rw [opSh_c (by omega) (by omega) f1 f2 hsrt (fun z => q (P1.mpr (And.intro z.2.1 (And.intro z.1 (by rw [← em]; exact z.2.2.2.1)))))]
           exact ⟨rfl, hS, onlyX.rf⟩)
        | (have q := zB_eq0.mp h63
           have f1 : hHeld S 1 = 2 := R1.mp (zB_ne0.mp h50)
           have n2 : ¬ hHeld S 5 = 0 := fun z => (show ¬ bE 18 μ from zB_eq0.mp h39) (E2.mpr z)
           rw [opSh_b (by omega) (by omega) (by rw [f1]; decide) n2 (by
             by_cases z : hHeld S 5 = 2
             · refine Or.inr (Or.inr (fun y => q (And.intro (R2.mpr z) ?_)))
               exact (show μ.1 18 2 = _ from (xsh2 hS hok (show 5 < 6 by omega) z).1).trans (y.symm.trans (show μ.1 14 2 = _ from (xsh2 hS hok (show 1 < 6 by omega) f1).1).symm)
             · exact Or.inr (Or.inl (xsh1 hok (by omega) n2 z)))]
           exact ⟨rfl, hS, onlyX.rf⟩)
        | (have q : ¬ bR 14 μ := zB_eq0.mp h50
           have n1 : ¬ hHeld S 1 = 0 := fun z => (show ¬ bE 14 μ from zB_eq0.mp h31) (E1.mpr z)
           have n2 : ¬ hHeld S 5 = 0 := fun z => (show ¬ bE 18 μ from zB_eq0.mp h39) (E2.mpr z)
           rw [opSh_b (by omega) (by omega) n1 n2 (Or.inl (xsh1 hok (by omega) n1 (fun z => q (R1.mpr z))))]
           exact ⟨rfl, hS, onlyX.rf⟩)
        | (have q : bE 18 μ := zB_ne0.mp h39
           rw [opSh_a (by omega) (by omega) (Or.inr (E2.mp q))]
           exact ⟨rfl, hS, onlyX.rf⟩)
        | (have q : bE 14 μ := zB_ne0.mp h31
           rw [opSh_a (by omega) (by omega) (Or.inl (E1.mp q))]
           exact ⟨rfl, hS, onlyX.rf⟩)

set_option maxRecDepth 100000 in
set_option maxHeartbeats 4000000 in
theorem xs_shift_2_0 {g : zG} {d : Nat} {S : zS} {μ : zMem} {i j n : Int32} (hd : 2 ≤ d) (hS : xS S μ) (hok : okH S) : zM g d X_shift [.ref 1, .int (nI 2), .int i, .int (nI 0), .int j, .int n] μ (pO xS onlyX (opShift S (nI 2) i (nI 0) j n) μ) := by
  refine zM_of (by decide +kernel) rfl rfl (Nat.le_of_ble_eq_true rfl) rfl ?_
  obtain ⟨ho, h2, hT, hC, hD, hI, hA, hH⟩ := hS
  have hS : xS S μ := ⟨ho, h2, hT, hC, hD, hI, hA, hH⟩
  have hb := ho.b
  have hv := ho.v
  have hB6 := ho.b6
  have hV12 := ho.v12
  have hz : zq sX μ μ := zq.rf
  have E1 := xshE (s := 2) hS hok (by omega)
  have E2 := xshE (s := 0) hS hok (by omega)
  have R1 := xshR (s := 2) hS hok (by omega)
  have R2 := xshR (s := 0) hS hok (by omega)
  refine zb X_shift_s0 rfl ?_
  refine zcallV X_shift_d2 k10_93 (by omega) (x_shelf_2 (by omega)) rfl rfl rfl (Nat.le_of_ble_eq_true rfl) ?_
  rintro _ μx ⟨rfl, hx⟩
  rw [hx]
  clear hx μx
  refine zb X_shift_s5 rfl ?_
  refine zcallV X_shift_d9 k10_93 (by omega) (x_shelf_0 (by omega)) rfl rfl rfl (Nat.le_of_ble_eq_true rfl) ?_
  rintro _ μx ⟨rfl, hx⟩
  rw [hx]
  clear hx μx
  refine zb X_shift_s12 rfl ?_
  refine z_null X_shift_d16 ?_
  refine zb X_shift_s19 rfl ?_
  refine z_nonnull X_shift_d21 (tgt := 26) rfl ?_
  refine zb X_shift_s26 rfl ?_
  refine zcallV X_shift_d28 k10_97 (by omega) (x_isEmpty_2) rfl rfl rfl (Nat.le_of_ble_eq_true rfl) ?_
  rintro _ μx ⟨rfl, hx⟩
  rw [hx]
  clear hx μx
  refine z_ne X_shift_d31 (tgt := 42) rfl (fun h31 => ?_) (fun h31 => ?_)
  · refine zb X_shift_s42 rfl ?_
    refine z_ret X_shift_d44 rfl ?_
    first
      | (have f := fin_shift (s := 2) (p := 0) (a := x) (b := y) (N := N) hS (by omega) (by omega) (by omega)
         rw [cN, cx, cy]
         exact ⟨rfl, f.1, f.2⟩)
      | (have q : ¬ bP 13 j n μ := zB_eq0.mp h89
         rw [opSh_c (by omega) (by omega) f1 f2 hsrt (fun z => q (P2.mpr (And.intro z.2.2.1 (And.intro z.1 (by rw [← ew]; exact z.2.2.2.2)))))]
         exact ⟨rfl, hS, onlyX.rf⟩)
      | (have q : ¬ bP 15 i n μ := zB_eq0.mp h77
         rw [opSh_c (by omega) (by omega) f1 f2 hsrt (fun z => q (P1.mpr (And.intro z.2.1 (And.intro z.1 (by rw [← em]; exact z.2.2.2.1)))))]
         exact ⟨rfl, hS, onlyX.rf⟩)
      | (have q := zB_eq0.mp h63
         have f1 : hHeld S 2 = 2 := R1.mp (zB_ne0.mp h50)
         have n2 : ¬ hHeld S 0 = 0 := fun z => (show ¬ bE 13 μ from zB_eq0.mp h39) (E2.mpr z)
         rw [opSh_b (by omega) (by omega) (by rw [f1]; decide) n2 (by
           by_cases z : hHeld S 0 = 2
           · refine Or.inr (Or.inr (fun y => q (And.intro (R2.mpr z) ?_)))
             exact (show μ.1 13 2 = _ from (xsh2 hS hok (show 0 < 6 by omega) z).1).trans (y.symm.trans (show μ.1 15 2 = _ from (xsh2 hS hok (show 2 < 6 by omega) f1).1).symm)
           · exact Or.inr (Or.inl (xsh1 hok (by omega) n2 z)))]
         exact ⟨rfl, hS, onlyX.rf⟩)
      | (have q : ¬ bR 15 μ := zB_eq0.mp h50
         have n1 : ¬ hHeld S 2 = 0 := fun z => (show ¬ bE 15 μ from zB_eq0.mp h31) (E1.mpr z)
         have n2 : ¬ hHeld S 0 = 0 := fun z => (show ¬ bE 13 μ from zB_eq0.mp h39) (E2.mpr z)
         rw [opSh_b (by omega) (by omega) n1 n2 (Or.inl (xsh1 hok (by omega) n1 (fun z => q (R1.mpr z))))]
         exact ⟨rfl, hS, onlyX.rf⟩)
      | (have q : bE 13 μ := zB_ne0.mp h39
         rw [opSh_a (by omega) (by omega) (Or.inr (E2.mp q))]
         exact ⟨rfl, hS, onlyX.rf⟩)
      | (have q : bE 15 μ := zB_ne0.mp h31
         rw [opSh_a (by omega) (by omega) (Or.inl (E1.mp q))]
         exact ⟨rfl, hS, onlyX.rf⟩)
  · refine zb X_shift_s34 rfl ?_
    refine zcallV X_shift_d36 k10_97 (by omega) (x_isEmpty_0) rfl rfl rfl (Nat.le_of_ble_eq_true rfl) ?_
    rintro _ μx ⟨rfl, hx⟩
    rw [hx]
    clear hx μx
    refine z_eq X_shift_d39 (tgt := 45) rfl (fun h39 => ?_) (fun h39 => ?_)
    · refine zb X_shift_s45 rfl ?_
      refine zcallV X_shift_d47 k10_357 (by omega) (x_isRow_2) rfl rfl rfl (Nat.le_of_ble_eq_true rfl) ?_
      rintro _ μx ⟨rfl, hx⟩
      rw [hx]
      clear hx μx
      refine z_eq X_shift_d50 (tgt := 66) rfl (fun h50 => ?_) (fun h50 => ?_)
      · refine zb X_shift_s66 rfl ?_
        refine z_ret X_shift_d68 rfl ?_
        first
          | (have f := fin_shift (s := 2) (p := 0) (a := x) (b := y) (N := N) hS (by omega) (by omega) (by omega)
             rw [cN, cx, cy]
             exact ⟨rfl, f.1, f.2⟩)
          | (have q : ¬ bP 13 j n μ := zB_eq0.mp h89
             rw [opSh_c (by omega) (by omega) f1 f2 hsrt (fun z => q (P2.mpr (And.intro z.2.2.1 (And.intro z.1 (by rw [← ew]; exact z.2.2.2.2)))))]
             exact ⟨rfl, hS, onlyX.rf⟩)
          | (have q : ¬ bP 15 i n μ := zB_eq0.mp h77
             rw [opSh_c (by omega) (by omega) f1 f2 hsrt (fun z => q (P1.mpr (And.intro z.2.1 (And.intro z.1 (by rw [← em]; exact z.2.2.2.1)))))]
             exact ⟨rfl, hS, onlyX.rf⟩)
          | (have q := zB_eq0.mp h63
             have f1 : hHeld S 2 = 2 := R1.mp (zB_ne0.mp h50)
             have n2 : ¬ hHeld S 0 = 0 := fun z => (show ¬ bE 13 μ from zB_eq0.mp h39) (E2.mpr z)
             rw [opSh_b (by omega) (by omega) (by rw [f1]; decide) n2 (by
               by_cases z : hHeld S 0 = 2
               · refine Or.inr (Or.inr (fun y => q (And.intro (R2.mpr z) ?_)))
                 exact (show μ.1 13 2 = _ from (xsh2 hS hok (show 0 < 6 by omega) z).1).trans (y.symm.trans (show μ.1 15 2 = _ from (xsh2 hS hok (show 2 < 6 by omega) f1).1).symm)
               · exact Or.inr (Or.inl (xsh1 hok (by omega) n2 z)))]
             exact ⟨rfl, hS, onlyX.rf⟩)
          | (have q : ¬ bR 15 μ := zB_eq0.mp h50
             have n1 : ¬ hHeld S 2 = 0 := fun z => (show ¬ bE 15 μ from zB_eq0.mp h31) (E1.mpr z)
             have n2 : ¬ hHeld S 0 = 0 := fun z => (show ¬ bE 13 μ from zB_eq0.mp h39) (E2.mpr z)
             rw [opSh_b (by omega) (by omega) n1 n2 (Or.inl (xsh1 hok (by omega) n1 (fun z => q (R1.mpr z))))]
             exact ⟨rfl, hS, onlyX.rf⟩)
          | (have q : bE 13 μ := zB_ne0.mp h39
             rw [opSh_a (by omega) (by omega) (Or.inr (E2.mp q))]
             exact ⟨rfl, hS, onlyX.rf⟩)
          | (have q : bE 15 μ := zB_ne0.mp h31
             rw [opSh_a (by omega) (by omega) (Or.inl (E1.mp q))]
             exact ⟨rfl, hS, onlyX.rf⟩)
      · refine zb X_shift_s53 rfl ?_
        refine zcallV X_shift_d60 k10_101 (by omega) (x_isRowOf_0 _ (by omega)) rfl rfl rfl (Nat.le_of_ble_eq_true rfl) ?_
        rintro _ μx ⟨rfl, hx⟩
        rw [hx]
        clear hx μx
        refine z_ne X_shift_d63 (tgt := 69) rfl (fun h63 => ?_) (fun h63 => ?_)
        · have f1 : hHeld S 2 = 2 := R1.mp (zB_ne0.mp h50)
          have f2 : hHeld S 0 = 2 := R2.mp (zB_ne0.mp h63).1
          obtain ⟨a1, a2, m, hm, em⟩ := xsh2 hS hok (show 2 < 6 by omega) f1
          obtain ⟨b1, b2, w, hw, ew⟩ := xsh2 hS hok (show 0 < 6 by omega) f2
          have hsrt : hSort S 2 = hSort S 0 := a1.symm.trans ((zB_ne0.mp h63).2.symm.trans b1)
          have P1 := bPn (i := i) (n := n) hm (a2.trans em)
          have P2 := bPn (i := j) (n := n) hw (b2.trans ew)
          refine zb X_shift_s69 rfl ?_
          refine zcallV X_shift_d74 k10_363 (by omega) (x_hasPlaces_2 _ _) rfl rfl rfl (Nat.le_of_ble_eq_true rfl) ?_
          rintro _ μx ⟨rfl, hx⟩
          rw [hx]
          clear hx μx
          refine z_eq X_shift_d77 (tgt := 92) rfl (fun h77 => ?_) (fun h77 => ?_)
          · refine zb X_shift_s92 rfl ?_
            refine z_ret X_shift_d94 rfl ?_
            first
              | (have f := fin_shift (s := 2) (p := 0) (a := x) (b := y) (N := N) hS (by omega) (by omega) (by omega)
                 rw [cN, cx, cy]
                 exact ⟨rfl, f.1, f.2⟩)
              | (have q : ¬ bP 13 j n μ := zB_eq0.mp h89
                 rw [opSh_c (by omega) (by omega) f1 f2 hsrt (fun z => q (P2.mpr (And.intro z.2.2.1 (And.intro z.1 (by rw [← ew]; exact z.2.2.2.2)))))]
                 exact ⟨rfl, hS, onlyX.rf⟩)
              | (have q : ¬ bP 15 i n μ := zB_eq0.mp h77
                 rw [opSh_c (by omega) (by omega) f1 f2 hsrt (fun z => q (P1.mpr (And.intro z.2.1 (And.intro z.1 (by rw [← em]; exact z.2.2.2.1)))))]
                 exact ⟨rfl, hS, onlyX.rf⟩)
              | (have q := zB_eq0.mp h63
                 have f1 : hHeld S 2 = 2 := R1.mp (zB_ne0.mp h50)
                 have n2 : ¬ hHeld S 0 = 0 := fun z => (show ¬ bE 13 μ from zB_eq0.mp h39) (E2.mpr z)
                 rw [opSh_b (by omega) (by omega) (by rw [f1]; decide) n2 (by
                   by_cases z : hHeld S 0 = 2
                   · refine Or.inr (Or.inr (fun y => q (And.intro (R2.mpr z) ?_)))
                     exact (show μ.1 13 2 = _ from (xsh2 hS hok (show 0 < 6 by omega) z).1).trans (y.symm.trans (show μ.1 15 2 = _ from (xsh2 hS hok (show 2 < 6 by omega) f1).1).symm)
                   · exact Or.inr (Or.inl (xsh1 hok (by omega) n2 z)))]
                 exact ⟨rfl, hS, onlyX.rf⟩)
              | (have q : ¬ bR 15 μ := zB_eq0.mp h50
                 have n1 : ¬ hHeld S 2 = 0 := fun z => (show ¬ bE 15 μ from zB_eq0.mp h31) (E1.mpr z)
                 have n2 : ¬ hHeld S 0 = 0 := fun z => (show ¬ bE 13 μ from zB_eq0.mp h39) (E2.mpr z)
                 rw [opSh_b (by omega) (by omega) n1 n2 (Or.inl (xsh1 hok (by omega) n1 (fun z => q (R1.mpr z))))]
                 exact ⟨rfl, hS, onlyX.rf⟩)
              | (have q : bE 13 μ := zB_ne0.mp h39
                 rw [opSh_a (by omega) (by omega) (Or.inr (E2.mp q))]
                 exact ⟨rfl, hS, onlyX.rf⟩)
              | (have q : bE 15 μ := zB_ne0.mp h31
                 rw [opSh_a (by omega) (by omega) (Or.inl (E1.mp q))]
                 exact ⟨rfl, hS, onlyX.rf⟩)
          · refine zb X_shift_s80 rfl ?_
            refine zcallV X_shift_d86 k10_363 (by omega) (x_hasPlaces_0 _ _) rfl rfl rfl (Nat.le_of_ble_eq_true rfl) ?_
            rintro _ μx ⟨rfl, hx⟩
            rw [hx]
            clear hx μx
            refine z_ne X_shift_d89 (tgt := 95) rfl (fun h89 => ?_) (fun h89 => ?_)
            · have g1 := P1.mp (zB_ne0.mp h77)
              have g2 := P2.mp (zB_ne0.mp h89)
              have hall : 0 ≤ n ∧ 0 ≤ i ∧ 0 ≤ j ∧ i ≤ hSize S 2 - n ∧ j ≤ hSize S 0 - n := by
                exact ⟨g1.2.1, g1.1, g2.1, by rw [em]; exact g1.2.2, by rw [ew]; exact g2.2.2⟩
              rw [opSh_d (by omega) (by omega) f1 f2 hsrt hall]
              clear hall
              obtain ⟨N, hN, rfl⟩ := nI_of (Int32.not_lt.mpr g1.2.1)
              obtain ⟨x, hx, rfl⟩ := nI_of (Int32.not_lt.mpr g1.1)
              obtain ⟨y, hy, rfl⟩ := nI_of (Int32.not_lt.mpr g2.1)
              have k1 := (le_sub hx hm hN).mp g1.2.2
              have k2 := (le_sub hy hw hN).mp g2.2.2
              have cN : (nI N).toNatClampNeg = N := nI_clamp hN
              have cx : (nI x).toNatClampNeg = x := nI_clamp hx
              have cy : (nI y).toNatClampNeg = y := nI_clamp hy
              refine zb X_shift_s95 rfl ?_
              refine zcpL X_shift_d110 k10_366 (by omega) (Nat.le_of_ble_eq_true rfl) rfl rfl (nI_pos (by omega)) (nI_pos (by omega)) (nI_pos (by omega)) (by rw [cN, cx]; omega) (by rw [cN, cy]; omega) ?_
              refine zb X_shift_s113 rfl ?_
              refine z_ret X_shift_d115 rfl ?_
              first
                | (have f := fin_shift (s := 2) (p := 0) (a := x) (b := y) (N := N) hS (by omega) (by omega) (by omega)
                   rw [cN, cx, cy]
                   exact ⟨rfl, f.1, f.2⟩)
                | (have q : ¬ bP 13 j n μ := zB_eq0.mp h89
                   rw [opSh_c (by omega) (by omega) f1 f2 hsrt (fun z => q (P2.mpr (And.intro z.2.2.1 (And.intro z.1 (by rw [← ew]; exact z.2.2.2.2)))))]
                   exact ⟨rfl, hS, onlyX.rf⟩)
                | (have q : ¬ bP 15 i n μ := zB_eq0.mp h77
                   rw [opSh_c (by omega) (by omega) f1 f2 hsrt (fun z => q (P1.mpr (And.intro z.2.1 (And.intro z.1 (by rw [← em]; exact z.2.2.2.1)))))]
                   exact ⟨rfl, hS, onlyX.rf⟩)
                | (have q := zB_eq0.mp h63
                   have f1 : hHeld S 2 = 2 := R1.mp (zB_ne0.mp h50)
                   have n2 : ¬ hHeld S 0 = 0 := fun z => (show ¬ bE 13 μ from zB_eq0.mp h39) (E2.mpr z)
                   rw [opSh_b (by omega) (by omega) (by rw [f1]; decide) n2 (by
                     by_cases z : hHeld S 0 = 2
                     · refine Or.inr (Or.inr (fun y => q (And.intro (R2.mpr z) ?_)))
                       exact (show μ.1 13 2 = _ from (xsh2 hS hok (show 0 < 6 by omega) z).1).trans (y.symm.trans (show μ.1 15 2 = _ from (xsh2 hS hok (show 2 < 6 by omega) f1).1).symm)
                     · exact Or.inr (Or.inl (xsh1 hok (by omega) n2 z)))]
                   exact ⟨rfl, hS, onlyX.rf⟩)
                | (have q : ¬ bR 15 μ := zB_eq0.mp h50
                   have n1 : ¬ hHeld S 2 = 0 := fun z => (show ¬ bE 15 μ from zB_eq0.mp h31) (E1.mpr z)
                   have n2 : ¬ hHeld S 0 = 0 := fun z => (show ¬ bE 13 μ from zB_eq0.mp h39) (E2.mpr z)
                   rw [opSh_b (by omega) (by omega) n1 n2 (Or.inl (xsh1 hok (by omega) n1 (fun z => q (R1.mpr z))))]
                   exact ⟨rfl, hS, onlyX.rf⟩)
                | (have q : bE 13 μ := zB_ne0.mp h39
                   rw [opSh_a (by omega) (by omega) (Or.inr (E2.mp q))]
                   exact ⟨rfl, hS, onlyX.rf⟩)
                | (have q : bE 15 μ := zB_ne0.mp h31
                   rw [opSh_a (by omega) (by omega) (Or.inl (E1.mp q))]
                   exact ⟨rfl, hS, onlyX.rf⟩)
            · refine zb X_shift_s92 rfl ?_
              refine z_ret X_shift_d94 rfl ?_
              first
                | (have f := fin_shift (s := 2) (p := 0) (a := x) (b := y) (N := N) hS (by omega) (by omega) (by omega)
                   rw [cN, cx, cy]
                   exact ⟨rfl, f.1, f.2⟩)
                | (have q : ¬ bP 13 j n μ := zB_eq0.mp h89
                   rw [opSh_c (by omega) (by omega) f1 f2 hsrt (fun z => q (P2.mpr (And.intro z.2.2.1 (And.intro z.1 (by rw [← ew]; exact z.2.2.2.2)))))]
                   exact ⟨rfl, hS, onlyX.rf⟩)
                | (have q : ¬ bP 15 i n μ := zB_eq0.mp h77
                   rw [opSh_c (by omega) (by omega) f1 f2 hsrt (fun z => q (P1.mpr (And.intro z.2.1 (And.intro z.1 (by rw [← em]; exact z.2.2.2.1)))))]
                   exact ⟨rfl, hS, onlyX.rf⟩)
                | (have q := zB_eq0.mp h63
                   have f1 : hHeld S 2 = 2 := R1.mp (zB_ne0.mp h50)
                   have n2 : ¬ hHeld S 0 = 0 := fun z => (show ¬ bE 13 μ from zB_eq0.mp h39) (E2.mpr z)
                   rw [opSh_b (by omega) (by omega) (by rw [f1]; decide) n2 (by
                     by_cases z : hHeld S 0 = 2
                     · refine Or.inr (Or.inr (fun y => q (And.intro (R2.mpr z) ?_)))
                       exact (show μ.1 13 2 = _ from (xsh2 hS hok (show 0 < 6 by omega) z).1).trans (y.symm.trans (show μ.1 15 2 = _ from (xsh2 hS hok (show 2 < 6 by omega) f1).1).symm)
                     · exact Or.inr (Or.inl (xsh1 hok (by omega) n2 z)))]
                   exact ⟨rfl, hS, onlyX.rf⟩)
                | (have q : ¬ bR 15 μ := zB_eq0.mp h50
                   have n1 : ¬ hHeld S 2 = 0 := fun z => (show ¬ bE 15 μ from zB_eq0.mp h31) (E1.mpr z)
                   have n2 : ¬ hHeld S 0 = 0 := fun z => (show ¬ bE 13 μ from zB_eq0.mp h39) (E2.mpr z)
                   rw [opSh_b (by omega) (by omega) n1 n2 (Or.inl (xsh1 hok (by omega) n1 (fun z => q (R1.mpr z))))]
                   exact ⟨rfl, hS, onlyX.rf⟩)
                | (have q : bE 13 μ := zB_ne0.mp h39
                   rw [opSh_a (by omega) (by omega) (Or.inr (E2.mp q))]
                   exact ⟨rfl, hS, onlyX.rf⟩)
                | (have q : bE 15 μ := zB_ne0.mp h31
                   rw [opSh_a (by omega) (by omega) (Or.inl (E1.mp q))]
                   exact ⟨rfl, hS, onlyX.rf⟩)
        · refine zb X_shift_s66 rfl ?_
          refine z_ret X_shift_d68 rfl ?_
          first
            | (have f := fin_shift (s := 2) (p := 0) (a := x) (b := y) (N := N) hS (by omega) (by omega) (by omega)
               rw [cN, cx, cy]
               exact ⟨rfl, f.1, f.2⟩)
            | (have q : ¬ bP 13 j n μ := zB_eq0.mp h89
               rw [opSh_c (by omega) (by omega) f1 f2 hsrt (fun z => q (P2.mpr (And.intro z.2.2.1 (And.intro z.1 (by rw [← ew]; exact z.2.2.2.2)))))]
               exact ⟨rfl, hS, onlyX.rf⟩)
            | (have q : ¬ bP 15 i n μ := zB_eq0.mp h77
               rw [opSh_c (by omega) (by omega) f1 f2 hsrt (fun z => q (P1.mpr (And.intro z.2.1 (And.intro z.1 (by rw [← em]; exact z.2.2.2.1)))))]
               exact ⟨rfl, hS, onlyX.rf⟩)
            | (have q := zB_eq0.mp h63
               have f1 : hHeld S 2 = 2 := R1.mp (zB_ne0.mp h50)
               have n2 : ¬ hHeld S 0 = 0 := fun z => (show ¬ bE 13 μ from zB_eq0.mp h39) (E2.mpr z)
               rw [opSh_b (by omega) (by omega) (by rw [f1]; decide) n2 (by
                 by_cases z : hHeld S 0 = 2
                 · refine Or.inr (Or.inr (fun y => q (And.intro (R2.mpr z) ?_)))
                   exact (show μ.1 13 2 = _ from (xsh2 hS hok (show 0 < 6 by omega) z).1).trans (y.symm.trans (show μ.1 15 2 = _ from (xsh2 hS hok (show 2 < 6 by omega) f1).1).symm)
                 · exact Or.inr (Or.inl (xsh1 hok (by omega) n2 z)))]
               exact ⟨rfl, hS, onlyX.rf⟩)
            | (have q : ¬ bR 15 μ := zB_eq0.mp h50
               have n1 : ¬ hHeld S 2 = 0 := fun z => (show ¬ bE 15 μ from zB_eq0.mp h31) (E1.mpr z)
               have n2 : ¬ hHeld S 0 = 0 := fun z => (show ¬ bE 13 μ from zB_eq0.mp h39) (E2.mpr z)
               rw [opSh_b (by omega) (by omega) n1 n2 (Or.inl (xsh1 hok (by omega) n1 (fun z => q (R1.mpr z))))]
               exact ⟨rfl, hS, onlyX.rf⟩)
            | (have q : bE 13 μ := zB_ne0.mp h39
               rw [opSh_a (by omega) (by omega) (Or.inr (E2.mp q))]
               exact ⟨rfl, hS, onlyX.rf⟩)
            | (have q : bE 15 μ := zB_ne0.mp h31
               rw [opSh_a (by omega) (by omega) (Or.inl (E1.mp q))]
               exact ⟨rfl, hS, onlyX.rf⟩)
    · refine zb X_shift_s42 rfl ?_
      refine z_ret X_shift_d44 rfl ?_
      first
        | (have f := fin_shift (s := 2) (p := 0) (a := x) (b := y) (N := N) hS (by omega) (by omega) (by omega)
           rw [cN, cx, cy]
           exact ⟨rfl, f.1, f.2⟩)
        | (have q : ¬ bP 13 j n μ := zB_eq0.mp h89
           rw [opSh_c (by omega) (by omega) f1 f2 hsrt (fun z => q (P2.mpr (And.intro z.2.2.1 (And.intro z.1 (by rw [← ew]; exact z.2.2.2.2)))))]
           exact ⟨rfl, hS, onlyX.rf⟩)
        | (have q : ¬ bP 15 i n μ := zB_eq0.mp h77
           rw [opSh_c (by omega) (by omega) f1 f2 hsrt (fun z => q (P1.mpr (And.intro z.2.1 (And.intro z.1 (by rw [← em]; exact z.2.2.2.1)))))]
           exact ⟨rfl, hS, onlyX.rf⟩)
        | (have q := zB_eq0.mp h63
           have f1 : hHeld S 2 = 2 := R1.mp (zB_ne0.mp h50)
           have n2 : ¬ hHeld S 0 = 0 := fun z => (show ¬ bE 13 μ from zB_eq0.mp h39) (E2.mpr z)
           rw [opSh_b (by omega) (by omega) (by rw [f1]; decide) n2 (by
             by_cases z : hHeld S 0 = 2
             · refine Or.inr (Or.inr (fun y => q (And.intro (R2.mpr z) ?_)))
               exact (show μ.1 13 2 = _ from (xsh2 hS hok (show 0 < 6 by omega) z).1).trans (y.symm.trans (show μ.1 15 2 = _ from (xsh2 hS hok (show 2 < 6 by omega) f1).1).symm)
             · exact Or.inr (Or.inl (xsh1 hok (by omega) n2 z)))]
           exact ⟨rfl, hS, onlyX.rf⟩)
        | (have q : ¬ bR 15 μ := zB_eq0.mp h50
           have n1 : ¬ hHeld S 2 = 0 := fun z => (show ¬ bE 15 μ from zB_eq0.mp h31) (E1.mpr z)
           have n2 : ¬ hHeld S 0 = 0 := fun z => (show ¬ bE 13 μ from zB_eq0.mp h39) (E2.mpr z)
           rw [opSh_b (by omega) (by omega) n1 n2 (Or.inl (xsh1 hok (by omega) n1 (fun z => q (R1.mpr z))))]
           exact ⟨rfl, hS, onlyX.rf⟩)
        | (have q : bE 13 μ := zB_ne0.mp h39
           rw [opSh_a (by omega) (by omega) (Or.inr (E2.mp q))]
           exact ⟨rfl, hS, onlyX.rf⟩)
        | (have q : bE 15 μ := zB_ne0.mp h31
           rw [opSh_a (by omega) (by omega) (Or.inl (E1.mp q))]
           exact ⟨rfl, hS, onlyX.rf⟩)

set_option maxRecDepth 100000 in
set_option maxHeartbeats 4000000 in
theorem xs_shift_2_1 {g : zG} {d : Nat} {S : zS} {μ : zMem} {i j n : Int32} (hd : 2 ≤ d) (hS : xS S μ) (hok : okH S) : zM g d X_shift [.ref 1, .int (nI 2), .int i, .int (nI 1), .int j, .int n] μ (pO xS onlyX (opShift S (nI 2) i (nI 1) j n) μ) := by
  refine zM_of (by decide +kernel) rfl rfl (Nat.le_of_ble_eq_true rfl) rfl ?_
  obtain ⟨ho, h2, hT, hC, hD, hI, hA, hH⟩ := hS
  have hS : xS S μ := ⟨ho, h2, hT, hC, hD, hI, hA, hH⟩
  have hb := ho.b
  have hv := ho.v
  have hB6 := ho.b6
  have hV12 := ho.v12
  have hz : zq sX μ μ := zq.rf
  have E1 := xshE (s := 2) hS hok (by omega)
  have E2 := xshE (s := 1) hS hok (by omega)
  have R1 := xshR (s := 2) hS hok (by omega)
  have R2 := xshR (s := 1) hS hok (by omega)
  refine zb X_shift_s0 rfl ?_
  refine zcallV X_shift_d2 k10_93 (by omega) (x_shelf_2 (by omega)) rfl rfl rfl (Nat.le_of_ble_eq_true rfl) ?_
  rintro _ μx ⟨rfl, hx⟩
  rw [hx]
  clear hx μx
  refine zb X_shift_s5 rfl ?_
  refine zcallV X_shift_d9 k10_93 (by omega) (x_shelf_1 (by omega)) rfl rfl rfl (Nat.le_of_ble_eq_true rfl) ?_
  rintro _ μx ⟨rfl, hx⟩
  rw [hx]
  clear hx μx
  refine zb X_shift_s12 rfl ?_
  refine z_null X_shift_d16 ?_
  refine zb X_shift_s19 rfl ?_
  refine z_nonnull X_shift_d21 (tgt := 26) rfl ?_
  refine zb X_shift_s26 rfl ?_
  refine zcallV X_shift_d28 k10_97 (by omega) (x_isEmpty_2) rfl rfl rfl (Nat.le_of_ble_eq_true rfl) ?_
  rintro _ μx ⟨rfl, hx⟩
  rw [hx]
  clear hx μx
  refine z_ne X_shift_d31 (tgt := 42) rfl (fun h31 => ?_) (fun h31 => ?_)
  · refine zb X_shift_s42 rfl ?_
    refine z_ret X_shift_d44 rfl ?_
    first
      | (have f := fin_shift (s := 2) (p := 1) (a := x) (b := y) (N := N) hS (by omega) (by omega) (by omega)
         rw [cN, cx, cy]
         exact ⟨rfl, f.1, f.2⟩)
      | (have q : ¬ bP 14 j n μ := zB_eq0.mp h89
         rw [opSh_c (by omega) (by omega) f1 f2 hsrt (fun z => q (P2.mpr (And.intro z.2.2.1 (And.intro z.1 (by rw [← ew]; exact z.2.2.2.2)))))]
         exact ⟨rfl, hS, onlyX.rf⟩)
      | (have q : ¬ bP 15 i n μ := zB_eq0.mp h77
         rw [opSh_c (by omega) (by omega) f1 f2 hsrt (fun z => q (P1.mpr (And.intro z.2.1 (And.intro z.1 (by rw [← em]; exact z.2.2.2.1)))))]
         exact ⟨rfl, hS, onlyX.rf⟩)
      | (have q := zB_eq0.mp h63
         have f1 : hHeld S 2 = 2 := R1.mp (zB_ne0.mp h50)
         have n2 : ¬ hHeld S 1 = 0 := fun z => (show ¬ bE 14 μ from zB_eq0.mp h39) (E2.mpr z)
         rw [opSh_b (by omega) (by omega) (by rw [f1]; decide) n2 (by
           by_cases z : hHeld S 1 = 2
           · refine Or.inr (Or.inr (fun y => q (And.intro (R2.mpr z) ?_)))
             exact (show μ.1 14 2 = _ from (xsh2 hS hok (show 1 < 6 by omega) z).1).trans (y.symm.trans (show μ.1 15 2 = _ from (xsh2 hS hok (show 2 < 6 by omega) f1).1).symm)
           · exact Or.inr (Or.inl (xsh1 hok (by omega) n2 z)))]
         exact ⟨rfl, hS, onlyX.rf⟩)
      | (have q : ¬ bR 15 μ := zB_eq0.mp h50
         have n1 : ¬ hHeld S 2 = 0 := fun z => (show ¬ bE 15 μ from zB_eq0.mp h31) (E1.mpr z)
         have n2 : ¬ hHeld S 1 = 0 := fun z => (show ¬ bE 14 μ from zB_eq0.mp h39) (E2.mpr z)
         rw [opSh_b (by omega) (by omega) n1 n2 (Or.inl (xsh1 hok (by omega) n1 (fun z => q (R1.mpr z))))]
         exact ⟨rfl, hS, onlyX.rf⟩)
      | (have q : bE 14 μ := zB_ne0.mp h39
         rw [opSh_a (by omega) (by omega) (Or.inr (E2.mp q))]
         exact ⟨rfl, hS, onlyX.rf⟩)
      | (have q : bE 15 μ := zB_ne0.mp h31
         rw [opSh_a (by omega) (by omega) (Or.inl (E1.mp q))]
         exact ⟨rfl, hS, onlyX.rf⟩)
  · refine zb X_shift_s34 rfl ?_
    refine zcallV X_shift_d36 k10_97 (by omega) (x_isEmpty_1) rfl rfl rfl (Nat.le_of_ble_eq_true rfl) ?_
    rintro _ μx ⟨rfl, hx⟩
    rw [hx]
    clear hx μx
    refine z_eq X_shift_d39 (tgt := 45) rfl (fun h39 => ?_) (fun h39 => ?_)
    · refine zb X_shift_s45 rfl ?_
      refine zcallV X_shift_d47 k10_357 (by omega) (x_isRow_2) rfl rfl rfl (Nat.le_of_ble_eq_true rfl) ?_
      rintro _ μx ⟨rfl, hx⟩
      rw [hx]
      clear hx μx
      refine z_eq X_shift_d50 (tgt := 66) rfl (fun h50 => ?_) (fun h50 => ?_)
      · refine zb X_shift_s66 rfl ?_
        refine z_ret X_shift_d68 rfl ?_
        first
          | (have f := fin_shift (s := 2) (p := 1) (a := x) (b := y) (N := N) hS (by omega) (by omega) (by omega)
             rw [cN, cx, cy]
             exact ⟨rfl, f.1, f.2⟩)
          | (have q : ¬ bP 14 j n μ := zB_eq0.mp h89
             rw [opSh_c (by omega) (by omega) f1 f2 hsrt (fun z => q (P2.mpr (And.intro z.2.2.1 (And.intro z.1 (by rw [← ew]; exact z.2.2.2.2)))))]
             exact ⟨rfl, hS, onlyX.rf⟩)
          | (have q : ¬ bP 15 i n μ := zB_eq0.mp h77
             rw [opSh_c (by omega) (by omega) f1 f2 hsrt (fun z => q (P1.mpr (And.intro z.2.1 (And.intro z.1 (by rw [← em]; exact z.2.2.2.1)))))]
             exact ⟨rfl, hS, onlyX.rf⟩)
          | (have q := zB_eq0.mp h63
             have f1 : hHeld S 2 = 2 := R1.mp (zB_ne0.mp h50)
             have n2 : ¬ hHeld S 1 = 0 := fun z => (show ¬ bE 14 μ from zB_eq0.mp h39) (E2.mpr z)
             rw [opSh_b (by omega) (by omega) (by rw [f1]; decide) n2 (by
               by_cases z : hHeld S 1 = 2
               · refine Or.inr (Or.inr (fun y => q (And.intro (R2.mpr z) ?_)))
                 exact (show μ.1 14 2 = _ from (xsh2 hS hok (show 1 < 6 by omega) z).1).trans (y.symm.trans (show μ.1 15 2 = _ from (xsh2 hS hok (show 2 < 6 by omega) f1).1).symm)
               · exact Or.inr (Or.inl (xsh1 hok (by omega) n2 z)))]
             exact ⟨rfl, hS, onlyX.rf⟩)
          | (have q : ¬ bR 15 μ := zB_eq0.mp h50
             have n1 : ¬ hHeld S 2 = 0 := fun z => (show ¬ bE 15 μ from zB_eq0.mp h31) (E1.mpr z)
             have n2 : ¬ hHeld S 1 = 0 := fun z => (show ¬ bE 14 μ from zB_eq0.mp h39) (E2.mpr z)
             rw [opSh_b (by omega) (by omega) n1 n2 (Or.inl (xsh1 hok (by omega) n1 (fun z => q (R1.mpr z))))]
             exact ⟨rfl, hS, onlyX.rf⟩)
          | (have q : bE 14 μ := zB_ne0.mp h39
             rw [opSh_a (by omega) (by omega) (Or.inr (E2.mp q))]
             exact ⟨rfl, hS, onlyX.rf⟩)
          | (have q : bE 15 μ := zB_ne0.mp h31
             rw [opSh_a (by omega) (by omega) (Or.inl (E1.mp q))]
             exact ⟨rfl, hS, onlyX.rf⟩)
      · refine zb X_shift_s53 rfl ?_
        refine zcallV X_shift_d60 k10_101 (by omega) (x_isRowOf_1 _ (by omega)) rfl rfl rfl (Nat.le_of_ble_eq_true rfl) ?_
        rintro _ μx ⟨rfl, hx⟩
        rw [hx]
        clear hx μx
        refine z_ne X_shift_d63 (tgt := 69) rfl (fun h63 => ?_) (fun h63 => ?_)
        · have f1 : hHeld S 2 = 2 := R1.mp (zB_ne0.mp h50)
          have f2 : hHeld S 1 = 2 := R2.mp (zB_ne0.mp h63).1
          obtain ⟨a1, a2, m, hm, em⟩ := xsh2 hS hok (show 2 < 6 by omega) f1
          obtain ⟨b1, b2, w, hw, ew⟩ := xsh2 hS hok (show 1 < 6 by omega) f2
          have hsrt : hSort S 2 = hSort S 1 := a1.symm.trans ((zB_ne0.mp h63).2.symm.trans b1)
          have P1 := bPn (i := i) (n := n) hm (a2.trans em)
          have P2 := bPn (i := j) (n := n) hw (b2.trans ew)
          refine zb X_shift_s69 rfl ?_
          refine zcallV X_shift_d74 k10_363 (by omega) (x_hasPlaces_2 _ _) rfl rfl rfl (Nat.le_of_ble_eq_true rfl) ?_
          rintro _ μx ⟨rfl, hx⟩
          rw [hx]
          clear hx μx
          refine z_eq X_shift_d77 (tgt := 92) rfl (fun h77 => ?_) (fun h77 => ?_)
          · refine zb X_shift_s92 rfl ?_
            refine z_ret X_shift_d94 rfl ?_
            first
              | (have f := fin_shift (s := 2) (p := 1) (a := x) (b := y) (N := N) hS (by omega) (by omega) (by omega)
                 rw [cN, cx, cy]
                 exact ⟨rfl, f.1, f.2⟩)
              | (have q : ¬ bP 14 j n μ := zB_eq0.mp h89
                 rw [opSh_c (by omega) (by omega) f1 f2 hsrt (fun z => q (P2.mpr (And.intro z.2.2.1 (And.intro z.1 (by rw [← ew]; exact z.2.2.2.2)))))]
                 exact ⟨rfl, hS, onlyX.rf⟩)
              | (have q : ¬ bP 15 i n μ := zB_eq0.mp h77
                 rw [opSh_c (by omega) (by omega) f1 f2 hsrt (fun z => q (P1.mpr (And.intro z.2.1 (And.intro z.1 (by rw [← em]; exact z.2.2.2.1)))))]
                 exact ⟨rfl, hS, onlyX.rf⟩)
              | (have q := zB_eq0.mp h63
                 have f1 : hHeld S 2 = 2 := R1.mp (zB_ne0.mp h50)
                 have n2 : ¬ hHeld S 1 = 0 := fun z => (show ¬ bE 14 μ from zB_eq0.mp h39) (E2.mpr z)
                 rw [opSh_b (by omega) (by omega) (by rw [f1]; decide) n2 (by
                   by_cases z : hHeld S 1 = 2
                   · refine Or.inr (Or.inr (fun y => q (And.intro (R2.mpr z) ?_)))
                     exact (show μ.1 14 2 = _ from (xsh2 hS hok (show 1 < 6 by omega) z).1).trans (y.symm.trans (show μ.1 15 2 = _ from (xsh2 hS hok (show 2 < 6 by omega) f1).1).symm)
                   · exact Or.inr (Or.inl (xsh1 hok (by omega) n2 z)))]
                 exact ⟨rfl, hS, onlyX.rf⟩)
              | (have q : ¬ bR 15 μ := zB_eq0.mp h50
                 have n1 : ¬ hHeld S 2 = 0 := fun z => (show ¬ bE 15 μ from zB_eq0.mp h31) (E1.mpr z)
                 have n2 : ¬ hHeld S 1 = 0 := fun z => (show ¬ bE 14 μ from zB_eq0.mp h39) (E2.mpr z)
                 rw [opSh_b (by omega) (by omega) n1 n2 (Or.inl (xsh1 hok (by omega) n1 (fun z => q (R1.mpr z))))]
                 exact ⟨rfl, hS, onlyX.rf⟩)
              | (have q : bE 14 μ := zB_ne0.mp h39
                 rw [opSh_a (by omega) (by omega) (Or.inr (E2.mp q))]
                 exact ⟨rfl, hS, onlyX.rf⟩)
              | (have q : bE 15 μ := zB_ne0.mp h31
                 rw [opSh_a (by omega) (by omega) (Or.inl (E1.mp q))]
                 exact ⟨rfl, hS, onlyX.rf⟩)
          · refine zb X_shift_s80 rfl ?_
            refine zcallV X_shift_d86 k10_363 (by omega) (x_hasPlaces_1 _ _) rfl rfl rfl (Nat.le_of_ble_eq_true rfl) ?_
            rintro _ μx ⟨rfl, hx⟩
            rw [hx]
            clear hx μx
            refine z_ne X_shift_d89 (tgt := 95) rfl (fun h89 => ?_) (fun h89 => ?_)
            · have g1 := P1.mp (zB_ne0.mp h77)
              have g2 := P2.mp (zB_ne0.mp h89)
              have hall : 0 ≤ n ∧ 0 ≤ i ∧ 0 ≤ j ∧ i ≤ hSize S 2 - n ∧ j ≤ hSize S 1 - n := by
                exact ⟨g1.2.1, g1.1, g2.1, by rw [em]; exact g1.2.2, by rw [ew]; exact g2.2.2⟩
              rw [opSh_d (by omega) (by omega) f1 f2 hsrt hall]
              clear hall
              obtain ⟨N, hN, rfl⟩ := nI_of (Int32.not_lt.mpr g1.2.1)
              obtain ⟨x, hx, rfl⟩ := nI_of (Int32.not_lt.mpr g1.1)
              obtain ⟨y, hy, rfl⟩ := nI_of (Int32.not_lt.mpr g2.1)
              have k1 := (le_sub hx hm hN).mp g1.2.2
              have k2 := (le_sub hy hw hN).mp g2.2.2
              have cN : (nI N).toNatClampNeg = N := nI_clamp hN
              have cx : (nI x).toNatClampNeg = x := nI_clamp hx
              have cy : (nI y).toNatClampNeg = y := nI_clamp hy
              refine zb X_shift_s95 rfl ?_
              refine zcpL X_shift_d110 k10_366 (by omega) (Nat.le_of_ble_eq_true rfl) rfl rfl (nI_pos (by omega)) (nI_pos (by omega)) (nI_pos (by omega)) (by rw [cN, cx]; omega) (by rw [cN, cy]; omega) ?_
              refine zb X_shift_s113 rfl ?_
              refine z_ret X_shift_d115 rfl ?_
              first
                | (have f := fin_shift (s := 2) (p := 1) (a := x) (b := y) (N := N) hS (by omega) (by omega) (by omega)
                   rw [cN, cx, cy]
                   exact ⟨rfl, f.1, f.2⟩)
                | (have q : ¬ bP 14 j n μ := zB_eq0.mp h89
                   rw [opSh_c (by omega) (by omega) f1 f2 hsrt (fun z => q (P2.mpr (And.intro z.2.2.1 (And.intro z.1 (by rw [← ew]; exact z.2.2.2.2)))))]
                   exact ⟨rfl, hS, onlyX.rf⟩)
                | (have q : ¬ bP 15 i n μ := zB_eq0.mp h77
                   rw [opSh_c (by omega) (by omega) f1 f2 hsrt (fun z => q (P1.mpr (And.intro z.2.1 (And.intro z.1 (by rw [← em]; exact z.2.2.2.1)))))]
                   exact ⟨rfl, hS, onlyX.rf⟩)
                | (have q := zB_eq0.mp h63
                   have f1 : hHeld S 2 = 2 := R1.mp (zB_ne0.mp h50)
                   have n2 : ¬ hHeld S 1 = 0 := fun z => (show ¬ bE 14 μ from zB_eq0.mp h39) (E2.mpr z)
                   rw [opSh_b (by omega) (by omega) (by rw [f1]; decide) n2 (by
                     by_cases z : hHeld S 1 = 2
                     · refine Or.inr (Or.inr (fun y => q (And.intro (R2.mpr z) ?_)))
                       exact (show μ.1 14 2 = _ from (xsh2 hS hok (show 1 < 6 by omega) z).1).trans (y.symm.trans (show μ.1 15 2 = _ from (xsh2 hS hok (show 2 < 6 by omega) f1).1).symm)
                     · exact Or.inr (Or.inl (xsh1 hok (by omega) n2 z)))]
                   exact ⟨rfl, hS, onlyX.rf⟩)
                | (have q : ¬ bR 15 μ := zB_eq0.mp h50
                   have n1 : ¬ hHeld S 2 = 0 := fun z => (show ¬ bE 15 μ from zB_eq0.mp h31) (E1.mpr z)
                   have n2 : ¬ hHeld S 1 = 0 := fun z => (show ¬ bE 14 μ from zB_eq0.mp h39) (E2.mpr z)
                   rw [opSh_b (by omega) (by omega) n1 n2 (Or.inl (xsh1 hok (by omega) n1 (fun z => q (R1.mpr z))))]
                   exact ⟨rfl, hS, onlyX.rf⟩)
                | (have q : bE 14 μ := zB_ne0.mp h39
                   rw [opSh_a (by omega) (by omega) (Or.inr (E2.mp q))]
                   exact ⟨rfl, hS, onlyX.rf⟩)
                | (have q : bE 15 μ := zB_ne0.mp h31
                   rw [opSh_a (by omega) (by omega) (Or.inl (E1.mp q))]
                   exact ⟨rfl, hS, onlyX.rf⟩)
            · refine zb X_shift_s92 rfl ?_
              refine z_ret X_shift_d94 rfl ?_
              first
                | (have f := fin_shift (s := 2) (p := 1) (a := x) (b := y) (N := N) hS (by omega) (by omega) (by omega)
                   rw [cN, cx, cy]
                   exact ⟨rfl, f.1, f.2⟩)
                | (have q : ¬ bP 14 j n μ := zB_eq0.mp h89
                   rw [opSh_c (by omega) (by omega) f1 f2 hsrt (fun z => q (P2.mpr (And.intro z.2.2.1 (And.intro z.1 (by rw [← ew]; exact z.2.2.2.2)))))]
                   exact ⟨rfl, hS, onlyX.rf⟩)
                | (have q : ¬ bP 15 i n μ := zB_eq0.mp h77
                   rw [opSh_c (by omega) (by omega) f1 f2 hsrt (fun z => q (P1.mpr (And.intro z.2.1 (And.intro z.1 (by rw [← em]; exact z.2.2.2.1)))))]
                   exact ⟨rfl, hS, onlyX.rf⟩)
                | (have q := zB_eq0.mp h63
                   have f1 : hHeld S 2 = 2 := R1.mp (zB_ne0.mp h50)
                   have n2 : ¬ hHeld S 1 = 0 := fun z => (show ¬ bE 14 μ from zB_eq0.mp h39) (E2.mpr z)
                   rw [opSh_b (by omega) (by omega) (by rw [f1]; decide) n2 (by
                     by_cases z : hHeld S 1 = 2
                     · refine Or.inr (Or.inr (fun y => q (And.intro (R2.mpr z) ?_)))
                       exact (show μ.1 14 2 = _ from (xsh2 hS hok (show 1 < 6 by omega) z).1).trans (y.symm.trans (show μ.1 15 2 = _ from (xsh2 hS hok (show 2 < 6 by omega) f1).1).symm)
                     · exact Or.inr (Or.inl (xsh1 hok (by omega) n2 z)))]
                   exact ⟨rfl, hS, onlyX.rf⟩)
                | (have q : ¬ bR 15 μ := zB_eq0.mp h50
                   have n1 : ¬ hHeld S 2 = 0 := fun z => (show ¬ bE 15 μ from zB_eq0.mp h31) (E1.mpr z)
                   have n2 : ¬ hHeld S 1 = 0 := fun z => (show ¬ bE 14 μ from zB_eq0.mp h39) (E2.mpr z)
                   rw [opSh_b (by omega) (by omega) n1 n2 (Or.inl (xsh1 hok (by omega) n1 (fun z => q (R1.mpr z))))]
                   exact ⟨rfl, hS, onlyX.rf⟩)
                | (have q : bE 14 μ := zB_ne0.mp h39
                   rw [opSh_a (by omega) (by omega) (Or.inr (E2.mp q))]
                   exact ⟨rfl, hS, onlyX.rf⟩)
                | (have q : bE 15 μ := zB_ne0.mp h31
                   rw [opSh_a (by omega) (by omega) (Or.inl (E1.mp q))]
                   exact ⟨rfl, hS, onlyX.rf⟩)
        · refine zb X_shift_s66 rfl ?_
          refine z_ret X_shift_d68 rfl ?_
          first
            | (have f := fin_shift (s := 2) (p := 1) (a := x) (b := y) (N := N) hS (by omega) (by omega) (by omega)
               rw [cN, cx, cy]
               exact ⟨rfl, f.1, f.2⟩)
            | (have q : ¬ bP 14 j n μ := zB_eq0.mp h89
               rw [opSh_c (by omega) (by omega) f1 f2 hsrt (fun z => q (P2.mpr (And.intro z.2.2.1 (And.intro z.1 (by rw [← ew]; exact z.2.2.2.2)))))]
               exact ⟨rfl, hS, onlyX.rf⟩)
            | (have q : ¬ bP 15 i n μ := zB_eq0.mp h77
               rw [opSh_c (by omega) (by omega) f1 f2 hsrt (fun z => q (P1.mpr (And.intro z.2.1 (And.intro z.1 (by rw [← em]; exact z.2.2.2.1)))))]
               exact ⟨rfl, hS, onlyX.rf⟩)
            | (have q := zB_eq0.mp h63
               have f1 : hHeld S 2 = 2 := R1.mp (zB_ne0.mp h50)
               have n2 : ¬ hHeld S 1 = 0 := fun z => (show ¬ bE 14 μ from zB_eq0.mp h39) (E2.mpr z)
               rw [opSh_b (by omega) (by omega) (by rw [f1]; decide) n2 (by
                 by_cases z : hHeld S 1 = 2
                 · refine Or.inr (Or.inr (fun y => q (And.intro (R2.mpr z) ?_)))
                   exact (show μ.1 14 2 = _ from (xsh2 hS hok (show 1 < 6 by omega) z).1).trans (y.symm.trans (show μ.1 15 2 = _ from (xsh2 hS hok (show 2 < 6 by omega) f1).1).symm)
                 · exact Or.inr (Or.inl (xsh1 hok (by omega) n2 z)))]
               exact ⟨rfl, hS, onlyX.rf⟩)
            | (have q : ¬ bR 15 μ := zB_eq0.mp h50
               have n1 : ¬ hHeld S 2 = 0 := fun z => (show ¬ bE 15 μ from zB_eq0.mp h31) (E1.mpr z)
               have n2 : ¬ hHeld S 1 = 0 := fun z => (show ¬ bE 14 μ from zB_eq0.mp h39) (E2.mpr z)
               rw [opSh_b (by omega) (by omega) n1 n2 (Or.inl (xsh1 hok (by omega) n1 (fun z => q (R1.mpr z))))]
               exact ⟨rfl, hS, onlyX.rf⟩)
            | (have q : bE 14 μ := zB_ne0.mp h39
               rw [opSh_a (by omega) (by omega) (Or.inr (E2.mp q))]
               exact ⟨rfl, hS, onlyX.rf⟩)
            | (have q : bE 15 μ := zB_ne0.mp h31
               rw [opSh_a (by omega) (by omega) (Or.inl (E1.mp q))]
               exact ⟨rfl, hS, onlyX.rf⟩)
    · refine zb X_shift_s42 rfl ?_
      refine z_ret X_shift_d44 rfl ?_
      first
        | (have f := fin_shift (s := 2) (p := 1) (a := x) (b := y) (N := N) hS (by omega) (by omega) (by omega)
           rw [cN, cx, cy]
           exact ⟨rfl, f.1, f.2⟩)
        | (have q : ¬ bP 14 j n μ := zB_eq0.mp h89
           rw [opSh_c (by omega) (by omega) f1 f2 hsrt (fun z => q (P2.mpr (And.intro z.2.2.1 (And.intro z.1 (by rw [← ew]; exact z.2.2.2.2)))))]
           exact ⟨rfl, hS, onlyX.rf⟩)
        | (have q : ¬ bP 15 i n μ := zB_eq0.mp h77
           rw [opSh_c (by omega) (by omega) f1 f2 hsrt (fun z => q (P1.mpr (And.intro z.2.1 (And.intro z.1 (by rw [← em]; exact z.2.2.2.1)))))]
           exact ⟨rfl, hS, onlyX.rf⟩)
        | (have q := zB_eq0.mp h63
           have f1 : hHeld S 2 = 2 := R1.mp (zB_ne0.mp h50)
           have n2 : ¬ hHeld S 1 = 0 := fun z => (show ¬ bE 14 μ from zB_eq0.mp h39) (E2.mpr z)
           rw [opSh_b (by omega) (by omega) (by rw [f1]; decide) n2 (by
             by_cases z : hHeld S 1 = 2
             · refine Or.inr (Or.inr (fun y => q (And.intro (R2.mpr z) ?_)))
               exact (show μ.1 14 2 = _ from (xsh2 hS hok (show 1 < 6 by omega) z).1).trans (y.symm.trans (show μ.1 15 2 = _ from (xsh2 hS hok (show 2 < 6 by omega) f1).1).symm)
             · exact Or.inr (Or.inl (xsh1 hok (by omega) n2 z)))]
           exact ⟨rfl, hS, onlyX.rf⟩)
        | (have q : ¬ bR 15 μ := zB_eq0.mp h50
           have n1 : ¬ hHeld S 2 = 0 := fun z => (show ¬ bE 15 μ from zB_eq0.mp h31) (E1.mpr z)
           have n2 : ¬ hHeld S 1 = 0 := fun z => (show ¬ bE 14 μ from zB_eq0.mp h39) (E2.mpr z)
           rw [opSh_b (by omega) (by omega) n1 n2 (Or.inl (xsh1 hok (by omega) n1 (fun z => q (R1.mpr z))))]
           exact ⟨rfl, hS, onlyX.rf⟩)
        | (have q : bE 14 μ := zB_ne0.mp h39
           rw [opSh_a (by omega) (by omega) (Or.inr (E2.mp q))]
           exact ⟨rfl, hS, onlyX.rf⟩)
        | (have q : bE 15 μ := zB_ne0.mp h31
           rw [opSh_a (by omega) (by omega) (Or.inl (E1.mp q))]
           exact ⟨rfl, hS, onlyX.rf⟩)

set_option maxRecDepth 100000 in
set_option maxHeartbeats 4000000 in
theorem xs_shift_2_2 {g : zG} {d : Nat} {S : zS} {μ : zMem} {i j n : Int32} (hd : 2 ≤ d) (hS : xS S μ) (hok : okH S) : zM g d X_shift [.ref 1, .int (nI 2), .int i, .int (nI 2), .int j, .int n] μ (pO xS onlyX (opShift S (nI 2) i (nI 2) j n) μ) := by
  refine zM_of (by decide +kernel) rfl rfl (Nat.le_of_ble_eq_true rfl) rfl ?_
  obtain ⟨ho, h2, hT, hC, hD, hI, hA, hH⟩ := hS
  have hS : xS S μ := ⟨ho, h2, hT, hC, hD, hI, hA, hH⟩
  have hb := ho.b
  have hv := ho.v
  have hB6 := ho.b6
  have hV12 := ho.v12
  have hz : zq sX μ μ := zq.rf
  have E1 := xshE (s := 2) hS hok (by omega)
  have E2 := xshE (s := 2) hS hok (by omega)
  have R1 := xshR (s := 2) hS hok (by omega)
  have R2 := xshR (s := 2) hS hok (by omega)
  refine zb X_shift_s0 rfl ?_
  refine zcallV X_shift_d2 k10_93 (by omega) (x_shelf_2 (by omega)) rfl rfl rfl (Nat.le_of_ble_eq_true rfl) ?_
  rintro _ μx ⟨rfl, hx⟩
  rw [hx]
  clear hx μx
  refine zb X_shift_s5 rfl ?_
  refine zcallV X_shift_d9 k10_93 (by omega) (x_shelf_2 (by omega)) rfl rfl rfl (Nat.le_of_ble_eq_true rfl) ?_
  rintro _ μx ⟨rfl, hx⟩
  rw [hx]
  clear hx μx
  refine zb X_shift_s12 rfl ?_
  refine z_null X_shift_d16 ?_
  refine zb X_shift_s19 rfl ?_
  refine z_nonnull X_shift_d21 (tgt := 26) rfl ?_
  refine zb X_shift_s26 rfl ?_
  refine zcallV X_shift_d28 k10_97 (by omega) (x_isEmpty_2) rfl rfl rfl (Nat.le_of_ble_eq_true rfl) ?_
  rintro _ μx ⟨rfl, hx⟩
  rw [hx]
  clear hx μx
  refine z_ne X_shift_d31 (tgt := 42) rfl (fun h31 => ?_) (fun h31 => ?_)
  · refine zb X_shift_s42 rfl ?_
    refine z_ret X_shift_d44 rfl ?_
    first
      | (have f := fin_shift (s := 2) (p := 2) (a := x) (b := y) (N := N) hS (by omega) (by omega) (by omega)
         rw [cN, cx, cy]
         exact ⟨rfl, f.1, f.2⟩)
      | (have q : ¬ bP 15 j n μ := zB_eq0.mp h89
         rw [opSh_c (by omega) (by omega) f1 f2 hsrt (fun z => q (P2.mpr (And.intro z.2.2.1 (And.intro z.1 (by rw [← ew]; exact z.2.2.2.2)))))]
         exact ⟨rfl, hS, onlyX.rf⟩)
      | (have q : ¬ bP 15 i n μ := zB_eq0.mp h77
         rw [opSh_c (by omega) (by omega) f1 f2 hsrt (fun z => q (P1.mpr (And.intro z.2.1 (And.intro z.1 (by rw [← em]; exact z.2.2.2.1)))))]
         exact ⟨rfl, hS, onlyX.rf⟩)
      | (have q := zB_eq0.mp h63
         have f1 : hHeld S 2 = 2 := R1.mp (zB_ne0.mp h50)
         have n2 : ¬ hHeld S 2 = 0 := fun z => (show ¬ bE 15 μ from zB_eq0.mp h39) (E2.mpr z)
         rw [opSh_b (by omega) (by omega) (by rw [f1]; decide) n2 (by
           by_cases z : hHeld S 2 = 2
           · refine Or.inr (Or.inr (fun y => q (And.intro (R2.mpr z) ?_)))
             exact (show μ.1 15 2 = _ from (xsh2 hS hok (show 2 < 6 by omega) z).1).trans (y.symm.trans (show μ.1 15 2 = _ from (xsh2 hS hok (show 2 < 6 by omega) f1).1).symm)
           · exact Or.inr (Or.inl (xsh1 hok (by omega) n2 z)))]
         exact ⟨rfl, hS, onlyX.rf⟩)
      | (have q : ¬ bR 15 μ := zB_eq0.mp h50
         have n1 : ¬ hHeld S 2 = 0 := fun z => (show ¬ bE 15 μ from zB_eq0.mp h31) (E1.mpr z)
         have n2 : ¬ hHeld S 2 = 0 := fun z => (show ¬ bE 15 μ from zB_eq0.mp h39) (E2.mpr z)
         rw [opSh_b (by omega) (by omega) n1 n2 (Or.inl (xsh1 hok (by omega) n1 (fun z => q (R1.mpr z))))]
         exact ⟨rfl, hS, onlyX.rf⟩)
      | (have q : bE 15 μ := zB_ne0.mp h39
         rw [opSh_a (by omega) (by omega) (Or.inr (E2.mp q))]
         exact ⟨rfl, hS, onlyX.rf⟩)
      | (have q : bE 15 μ := zB_ne0.mp h31
         rw [opSh_a (by omega) (by omega) (Or.inl (E1.mp q))]
         exact ⟨rfl, hS, onlyX.rf⟩)
  · refine zb X_shift_s34 rfl ?_
    refine zcallV X_shift_d36 k10_97 (by omega) (x_isEmpty_2) rfl rfl rfl (Nat.le_of_ble_eq_true rfl) ?_
    rintro _ μx ⟨rfl, hx⟩
    rw [hx]
    clear hx μx
    refine z_eq X_shift_d39 (tgt := 45) rfl (fun h39 => ?_) (fun h39 => ?_)
    · refine zb X_shift_s45 rfl ?_
      refine zcallV X_shift_d47 k10_357 (by omega) (x_isRow_2) rfl rfl rfl (Nat.le_of_ble_eq_true rfl) ?_
      rintro _ μx ⟨rfl, hx⟩
      rw [hx]
      clear hx μx
      refine z_eq X_shift_d50 (tgt := 66) rfl (fun h50 => ?_) (fun h50 => ?_)
      · refine zb X_shift_s66 rfl ?_
        refine z_ret X_shift_d68 rfl ?_
        first
          | (have f := fin_shift (s := 2) (p := 2) (a := x) (b := y) (N := N) hS (by omega) (by omega) (by omega)
             rw [cN, cx, cy]
             exact ⟨rfl, f.1, f.2⟩)
          | (have q : ¬ bP 15 j n μ := zB_eq0.mp h89
             rw [opSh_c (by omega) (by omega) f1 f2 hsrt (fun z => q (P2.mpr (And.intro z.2.2.1 (And.intro z.1 (by rw [← ew]; exact z.2.2.2.2)))))]
             exact ⟨rfl, hS, onlyX.rf⟩)
          | (have q : ¬ bP 15 i n μ := zB_eq0.mp h77
             rw [opSh_c (by omega) (by omega) f1 f2 hsrt (fun z => q (P1.mpr (And.intro z.2.1 (And.intro z.1 (by rw [← em]; exact z.2.2.2.1)))))]
             exact ⟨rfl, hS, onlyX.rf⟩)
          | (have q := zB_eq0.mp h63
             have f1 : hHeld S 2 = 2 := R1.mp (zB_ne0.mp h50)
             have n2 : ¬ hHeld S 2 = 0 := fun z => (show ¬ bE 15 μ from zB_eq0.mp h39) (E2.mpr z)
             rw [opSh_b (by omega) (by omega) (by rw [f1]; decide) n2 (by
               by_cases z : hHeld S 2 = 2
               · refine Or.inr (Or.inr (fun y => q (And.intro (R2.mpr z) ?_)))
                 exact (show μ.1 15 2 = _ from (xsh2 hS hok (show 2 < 6 by omega) z).1).trans (y.symm.trans (show μ.1 15 2 = _ from (xsh2 hS hok (show 2 < 6 by omega) f1).1).symm)
               · exact Or.inr (Or.inl (xsh1 hok (by omega) n2 z)))]
             exact ⟨rfl, hS, onlyX.rf⟩)
          | (have q : ¬ bR 15 μ := zB_eq0.mp h50
             have n1 : ¬ hHeld S 2 = 0 := fun z => (show ¬ bE 15 μ from zB_eq0.mp h31) (E1.mpr z)
             have n2 : ¬ hHeld S 2 = 0 := fun z => (show ¬ bE 15 μ from zB_eq0.mp h39) (E2.mpr z)
             rw [opSh_b (by omega) (by omega) n1 n2 (Or.inl (xsh1 hok (by omega) n1 (fun z => q (R1.mpr z))))]
             exact ⟨rfl, hS, onlyX.rf⟩)
          | (have q : bE 15 μ := zB_ne0.mp h39
             rw [opSh_a (by omega) (by omega) (Or.inr (E2.mp q))]
             exact ⟨rfl, hS, onlyX.rf⟩)
          | (have q : bE 15 μ := zB_ne0.mp h31
             rw [opSh_a (by omega) (by omega) (Or.inl (E1.mp q))]
             exact ⟨rfl, hS, onlyX.rf⟩)
      · refine zb X_shift_s53 rfl ?_
        refine zcallV X_shift_d60 k10_101 (by omega) (x_isRowOf_2 _ (by omega)) rfl rfl rfl (Nat.le_of_ble_eq_true rfl) ?_
        rintro _ μx ⟨rfl, hx⟩
        rw [hx]
        clear hx μx
        refine z_ne X_shift_d63 (tgt := 69) rfl (fun h63 => ?_) (fun h63 => ?_)
        · have f1 : hHeld S 2 = 2 := R1.mp (zB_ne0.mp h50)
          have f2 : hHeld S 2 = 2 := R2.mp (zB_ne0.mp h63).1
          obtain ⟨a1, a2, m, hm, em⟩ := xsh2 hS hok (show 2 < 6 by omega) f1
          obtain ⟨b1, b2, w, hw, ew⟩ := xsh2 hS hok (show 2 < 6 by omega) f2
          have hsrt : hSort S 2 = hSort S 2 := a1.symm.trans ((zB_ne0.mp h63).2.symm.trans b1)
          have P1 := bPn (i := i) (n := n) hm (a2.trans em)
          have P2 := bPn (i := j) (n := n) hw (b2.trans ew)
          refine zb X_shift_s69 rfl ?_
          refine zcallV X_shift_d74 k10_363 (by omega) (x_hasPlaces_2 _ _) rfl rfl rfl (Nat.le_of_ble_eq_true rfl) ?_
          rintro _ μx ⟨rfl, hx⟩
          rw [hx]
          clear hx μx
          refine z_eq X_shift_d77 (tgt := 92) rfl (fun h77 => ?_) (fun h77 => ?_)
          · refine zb X_shift_s92 rfl ?_
            refine z_ret X_shift_d94 rfl ?_
            first
              | (have f := fin_shift (s := 2) (p := 2) (a := x) (b := y) (N := N) hS (by omega) (by omega) (by omega)
                 rw [cN, cx, cy]
                 exact ⟨rfl, f.1, f.2⟩)
              | (have q : ¬ bP 15 j n μ := zB_eq0.mp h89
                 rw [opSh_c (by omega) (by omega) f1 f2 hsrt (fun z => q (P2.mpr (And.intro z.2.2.1 (And.intro z.1 (by rw [← ew]; exact z.2.2.2.2)))))]
                 exact ⟨rfl, hS, onlyX.rf⟩)
              | (have q : ¬ bP 15 i n μ := zB_eq0.mp h77
                 rw [opSh_c (by omega) (by omega) f1 f2 hsrt (fun z => q (P1.mpr (And.intro z.2.1 (And.intro z.1 (by rw [← em]; exact z.2.2.2.1)))))]
                 exact ⟨rfl, hS, onlyX.rf⟩)
              | (have q := zB_eq0.mp h63
                 have f1 : hHeld S 2 = 2 := R1.mp (zB_ne0.mp h50)
                 have n2 : ¬ hHeld S 2 = 0 := fun z => (show ¬ bE 15 μ from zB_eq0.mp h39) (E2.mpr z)
                 rw [opSh_b (by omega) (by omega) (by rw [f1]; decide) n2 (by
                   by_cases z : hHeld S 2 = 2
                   · refine Or.inr (Or.inr (fun y => q (And.intro (R2.mpr z) ?_)))
                     exact (show μ.1 15 2 = _ from (xsh2 hS hok (show 2 < 6 by omega) z).1).trans (y.symm.trans (show μ.1 15 2 = _ from (xsh2 hS hok (show 2 < 6 by omega) f1).1).symm)
                   · exact Or.inr (Or.inl (xsh1 hok (by omega) n2 z)))]
                 exact ⟨rfl, hS, onlyX.rf⟩)
              | (have q : ¬ bR 15 μ := zB_eq0.mp h50
                 have n1 : ¬ hHeld S 2 = 0 := fun z => (show ¬ bE 15 μ from zB_eq0.mp h31) (E1.mpr z)
                 have n2 : ¬ hHeld S 2 = 0 := fun z => (show ¬ bE 15 μ from zB_eq0.mp h39) (E2.mpr z)
                 rw [opSh_b (by omega) (by omega) n1 n2 (Or.inl (xsh1 hok (by omega) n1 (fun z => q (R1.mpr z))))]
                 exact ⟨rfl, hS, onlyX.rf⟩)
              | (have q : bE 15 μ := zB_ne0.mp h39
                 rw [opSh_a (by omega) (by omega) (Or.inr (E2.mp q))]
                 exact ⟨rfl, hS, onlyX.rf⟩)
              | (have q : bE 15 μ := zB_ne0.mp h31
                 rw [opSh_a (by omega) (by omega) (Or.inl (E1.mp q))]
                 exact ⟨rfl, hS, onlyX.rf⟩)
          · refine zb X_shift_s80 rfl ?_
            refine zcallV X_shift_d86 k10_363 (by omega) (x_hasPlaces_2 _ _) rfl rfl rfl (Nat.le_of_ble_eq_true rfl) ?_
            rintro _ μx ⟨rfl, hx⟩
            rw [hx]
            clear hx μx
            refine z_ne X_shift_d89 (tgt := 95) rfl (fun h89 => ?_) (fun h89 => ?_)
            · have g1 := P1.mp (zB_ne0.mp h77)
              have g2 := P2.mp (zB_ne0.mp h89)
              have hall : 0 ≤ n ∧ 0 ≤ i ∧ 0 ≤ j ∧ i ≤ hSize S 2 - n ∧ j ≤ hSize S 2 - n := by
                exact ⟨g1.2.1, g1.1, g2.1, by rw [em]; exact g1.2.2, by rw [ew]; exact g2.2.2⟩
              rw [opSh_d (by omega) (by omega) f1 f2 hsrt hall]
              clear hall
              obtain ⟨N, hN, rfl⟩ := nI_of (Int32.not_lt.mpr g1.2.1)
              obtain ⟨x, hx, rfl⟩ := nI_of (Int32.not_lt.mpr g1.1)
              obtain ⟨y, hy, rfl⟩ := nI_of (Int32.not_lt.mpr g2.1)
              have k1 := (le_sub hx hm hN).mp g1.2.2
              have k2 := (le_sub hy hw hN).mp g2.2.2
              have cN : (nI N).toNatClampNeg = N := nI_clamp hN
              have cx : (nI x).toNatClampNeg = x := nI_clamp hx
              have cy : (nI y).toNatClampNeg = y := nI_clamp hy
              refine zb X_shift_s95 rfl ?_
              refine zcpL X_shift_d110 k10_366 (by omega) (Nat.le_of_ble_eq_true rfl) rfl rfl (nI_pos (by omega)) (nI_pos (by omega)) (nI_pos (by omega)) (by rw [cN, cx]; omega) (by rw [cN, cy]; omega) ?_
              refine zb X_shift_s113 rfl ?_
              refine z_ret X_shift_d115 rfl ?_
              first
                | (have f := fin_shift (s := 2) (p := 2) (a := x) (b := y) (N := N) hS (by omega) (by omega) (by omega)
                   rw [cN, cx, cy]
                   exact ⟨rfl, f.1, f.2⟩)
                | (have q : ¬ bP 15 j n μ := zB_eq0.mp h89
                   rw [opSh_c (by omega) (by omega) f1 f2 hsrt (fun z => q (P2.mpr (And.intro z.2.2.1 (And.intro z.1 (by rw [← ew]; exact z.2.2.2.2)))))]
                   exact ⟨rfl, hS, onlyX.rf⟩)
                | (have q : ¬ bP 15 i n μ := zB_eq0.mp h77
                   rw [opSh_c (by omega) (by omega) f1 f2 hsrt (fun z => q (P1.mpr (And.intro z.2.1 (And.intro z.1 (by rw [← em]; exact z.2.2.2.1)))))]
                   exact ⟨rfl, hS, onlyX.rf⟩)
                | (have q := zB_eq0.mp h63
                   have f1 : hHeld S 2 = 2 := R1.mp (zB_ne0.mp h50)
                   have n2 : ¬ hHeld S 2 = 0 := fun z => (show ¬ bE 15 μ from zB_eq0.mp h39) (E2.mpr z)
                   rw [opSh_b (by omega) (by omega) (by rw [f1]; decide) n2 (by
                     by_cases z : hHeld S 2 = 2
                     · refine Or.inr (Or.inr (fun y => q (And.intro (R2.mpr z) ?_)))
                       exact (show μ.1 15 2 = _ from (xsh2 hS hok (show 2 < 6 by omega) z).1).trans (y.symm.trans (show μ.1 15 2 = _ from (xsh2 hS hok (show 2 < 6 by omega) f1).1).symm)
                     · exact Or.inr (Or.inl (xsh1 hok (by omega) n2 z)))]
                   exact ⟨rfl, hS, onlyX.rf⟩)
                | (have q : ¬ bR 15 μ := zB_eq0.mp h50
                   have n1 : ¬ hHeld S 2 = 0 := fun z => (show ¬ bE 15 μ from zB_eq0.mp h31) (E1.mpr z)
                   have n2 : ¬ hHeld S 2 = 0 := fun z => (show ¬ bE 15 μ from zB_eq0.mp h39) (E2.mpr z)
                   rw [opSh_b (by omega) (by omega) n1 n2 (Or.inl (xsh1 hok (by omega) n1 (fun z => q (R1.mpr z))))]
                   exact ⟨rfl, hS, onlyX.rf⟩)
                | (have q : bE 15 μ := zB_ne0.mp h39
                   rw [opSh_a (by omega) (by omega) (Or.inr (E2.mp q))]
                   exact ⟨rfl, hS, onlyX.rf⟩)
                | (have q : bE 15 μ := zB_ne0.mp h31
                   rw [opSh_a (by omega) (by omega) (Or.inl (E1.mp q))]
                   exact ⟨rfl, hS, onlyX.rf⟩)
            · refine zb X_shift_s92 rfl ?_
              refine z_ret X_shift_d94 rfl ?_
              first
                | (have f := fin_shift (s := 2) (p := 2) (a := x) (b := y) (N := N) hS (by omega) (by omega) (by omega)
                   rw [cN, cx, cy]
                   exact ⟨rfl, f.1, f.2⟩)
                | (have q : ¬ bP 15 j n μ := zB_eq0.mp h89
                   rw [opSh_c (by omega) (by omega) f1 f2 hsrt (fun z => q (P2.mpr (And.intro z.2.2.1 (And.intro z.1 (by rw [← ew]; exact z.2.2.2.2)))))]
                   exact ⟨rfl, hS, onlyX.rf⟩)
                | (have q : ¬ bP 15 i n μ := zB_eq0.mp h77
                   rw [opSh_c (by omega) (by omega) f1 f2 hsrt (fun z => q (P1.mpr (And.intro z.2.1 (And.intro z.1 (by rw [← em]; exact z.2.2.2.1)))))]
                   exact ⟨rfl, hS, onlyX.rf⟩)
                | (have q := zB_eq0.mp h63
                   have f1 : hHeld S 2 = 2 := R1.mp (zB_ne0.mp h50)
                   have n2 : ¬ hHeld S 2 = 0 := fun z => (show ¬ bE 15 μ from zB_eq0.mp h39) (E2.mpr z)
                   rw [opSh_b (by omega) (by omega) (by rw [f1]; decide) n2 (by
                     by_cases z : hHeld S 2 = 2
                     · refine Or.inr (Or.inr (fun y => q (And.intro (R2.mpr z) ?_)))
                       exact (show μ.1 15 2 = _ from (xsh2 hS hok (show 2 < 6 by omega) z).1).trans (y.symm.trans (show μ.1 15 2 = _ from (xsh2 hS hok (show 2 < 6 by omega) f1).1).symm)
                     · exact Or.inr (Or.inl (xsh1 hok (by omega) n2 z)))]
                   exact ⟨rfl, hS, onlyX.rf⟩)
                | (have q : ¬ bR 15 μ := zB_eq0.mp h50
                   have n1 : ¬ hHeld S 2 = 0 := fun z => (show ¬ bE 15 μ from zB_eq0.mp h31) (E1.mpr z)
                   have n2 : ¬ hHeld S 2 = 0 := fun z => (show ¬ bE 15 μ from zB_eq0.mp h39) (E2.mpr z)
                   rw [opSh_b (by omega) (by omega) n1 n2 (Or.inl (xsh1 hok (by omega) n1 (fun z => q (R1.mpr z))))]
                   exact ⟨rfl, hS, onlyX.rf⟩)
                | (have q : bE 15 μ := zB_ne0.mp h39
                   rw [opSh_a (by omega) (by omega) (Or.inr (E2.mp q))]
                   exact ⟨rfl, hS, onlyX.rf⟩)
                | (have q : bE 15 μ := zB_ne0.mp h31
                   rw [opSh_a (by omega) (by omega) (Or.inl (E1.mp q))]
                   exact ⟨rfl, hS, onlyX.rf⟩)
        · refine zb X_shift_s66 rfl ?_
          refine z_ret X_shift_d68 rfl ?_
          first
            | (have f := fin_shift (s := 2) (p := 2) (a := x) (b := y) (N := N) hS (by omega) (by omega) (by omega)
               rw [cN, cx, cy]
               exact ⟨rfl, f.1, f.2⟩)
            | (have q : ¬ bP 15 j n μ := zB_eq0.mp h89
               rw [opSh_c (by omega) (by omega) f1 f2 hsrt (fun z => q (P2.mpr (And.intro z.2.2.1 (And.intro z.1 (by rw [← ew]; exact z.2.2.2.2)))))]
               exact ⟨rfl, hS, onlyX.rf⟩)
            | (have q : ¬ bP 15 i n μ := zB_eq0.mp h77
               rw [opSh_c (by omega) (by omega) f1 f2 hsrt (fun z => q (P1.mpr (And.intro z.2.1 (And.intro z.1 (by rw [← em]; exact z.2.2.2.1)))))]
               exact ⟨rfl, hS, onlyX.rf⟩)
            | (have q := zB_eq0.mp h63
               have f1 : hHeld S 2 = 2 := R1.mp (zB_ne0.mp h50)
               have n2 : ¬ hHeld S 2 = 0 := fun z => (show ¬ bE 15 μ from zB_eq0.mp h39) (E2.mpr z)
               rw [opSh_b (by omega) (by omega) (by rw [f1]; decide) n2 (by
                 by_cases z : hHeld S 2 = 2
                 · refine Or.inr (Or.inr (fun y => q (And.intro (R2.mpr z) ?_)))
                   exact (show μ.1 15 2 = _ from (xsh2 hS hok (show 2 < 6 by omega) z).1).trans (y.symm.trans (show μ.1 15 2 = _ from (xsh2 hS hok (show 2 < 6 by omega) f1).1).symm)
                 · exact Or.inr (Or.inl (xsh1 hok (by omega) n2 z)))]
               exact ⟨rfl, hS, onlyX.rf⟩)
            | (have q : ¬ bR 15 μ := zB_eq0.mp h50
               have n1 : ¬ hHeld S 2 = 0 := fun z => (show ¬ bE 15 μ from zB_eq0.mp h31) (E1.mpr z)
               have n2 : ¬ hHeld S 2 = 0 := fun z => (show ¬ bE 15 μ from zB_eq0.mp h39) (E2.mpr z)
               rw [opSh_b (by omega) (by omega) n1 n2 (Or.inl (xsh1 hok (by omega) n1 (fun z => q (R1.mpr z))))]
               exact ⟨rfl, hS, onlyX.rf⟩)
            | (have q : bE 15 μ := zB_ne0.mp h39
               rw [opSh_a (by omega) (by omega) (Or.inr (E2.mp q))]
               exact ⟨rfl, hS, onlyX.rf⟩)
            | (have q : bE 15 μ := zB_ne0.mp h31
               rw [opSh_a (by omega) (by omega) (Or.inl (E1.mp q))]
               exact ⟨rfl, hS, onlyX.rf⟩)
    · refine zb X_shift_s42 rfl ?_
      refine z_ret X_shift_d44 rfl ?_
      first
        | (have f := fin_shift (s := 2) (p := 2) (a := x) (b := y) (N := N) hS (by omega) (by omega) (by omega)
           rw [cN, cx, cy]
           exact ⟨rfl, f.1, f.2⟩)
        | (have q : ¬ bP 15 j n μ := zB_eq0.mp h89
           rw [opSh_c (by omega) (by omega) f1 f2 hsrt (fun z => q (P2.mpr (And.intro z.2.2.1 (And.intro z.1 (by rw [← ew]; exact z.2.2.2.2)))))]
           exact ⟨rfl, hS, onlyX.rf⟩)
        | (have q : ¬ bP 15 i n μ := zB_eq0.mp h77
           rw [opSh_c (by omega) (by omega) f1 f2 hsrt (fun z => q (P1.mpr (And.intro z.2.1 (And.intro z.1 (by rw [← em]; exact z.2.2.2.1)))))]
           exact ⟨rfl, hS, onlyX.rf⟩)
        | (have q := zB_eq0.mp h63
           have f1 : hHeld S 2 = 2 := R1.mp (zB_ne0.mp h50)
           have n2 : ¬ hHeld S 2 = 0 := fun z => (show ¬ bE 15 μ from zB_eq0.mp h39) (E2.mpr z)
           rw [opSh_b (by omega) (by omega) (by rw [f1]; decide) n2 (by
             by_cases z : hHeld S 2 = 2
             · refine Or.inr (Or.inr (fun y => q (And.intro (R2.mpr z) ?_)))
               exact (show μ.1 15 2 = _ from (xsh2 hS hok (show 2 < 6 by omega) z).1).trans (y.symm.trans (show μ.1 15 2 = _ from (xsh2 hS hok (show 2 < 6 by omega) f1).1).symm)
             · exact Or.inr (Or.inl (xsh1 hok (by omega) n2 z)))]
           exact ⟨rfl, hS, onlyX.rf⟩)
        | (have q : ¬ bR 15 μ := zB_eq0.mp h50
           have n1 : ¬ hHeld S 2 = 0 := fun z => (show ¬ bE 15 μ from zB_eq0.mp h31) (E1.mpr z)
           have n2 : ¬ hHeld S 2 = 0 := fun z => (show ¬ bE 15 μ from zB_eq0.mp h39) (E2.mpr z)
           rw [opSh_b (by omega) (by omega) n1 n2 (Or.inl (xsh1 hok (by omega) n1 (fun z => q (R1.mpr z))))]
           exact ⟨rfl, hS, onlyX.rf⟩)
        | (have q : bE 15 μ := zB_ne0.mp h39
           rw [opSh_a (by omega) (by omega) (Or.inr (E2.mp q))]
           exact ⟨rfl, hS, onlyX.rf⟩)
        | (have q : bE 15 μ := zB_ne0.mp h31
           rw [opSh_a (by omega) (by omega) (Or.inl (E1.mp q))]
           exact ⟨rfl, hS, onlyX.rf⟩)

set_option maxRecDepth 100000 in
set_option maxHeartbeats 4000000 in
theorem xs_shift_2_3 {g : zG} {d : Nat} {S : zS} {μ : zMem} {i j n : Int32} (hd : 2 ≤ d) (hS : xS S μ) (hok : okH S) : zM g d X_shift [.ref 1, .int (nI 2), .int i, .int (nI 3), .int j, .int n] μ (pO xS onlyX (opShift S (nI 2) i (nI 3) j n) μ) := by
  refine zM_of (by decide +kernel) rfl rfl (Nat.le_of_ble_eq_true rfl) rfl ?_
  obtain ⟨ho, h2, hT, hC, hD, hI, hA, hH⟩ := hS
  have hS : xS S μ := ⟨ho, h2, hT, hC, hD, hI, hA, hH⟩
  have hb := ho.b
  have hv := ho.v
  have hB6 := ho.b6
  have hV12 := ho.v12
  have hz : zq sX μ μ := zq.rf
  have E1 := xshE (s := 2) hS hok (by omega)
  have E2 := xshE (s := 3) hS hok (by omega)
  have R1 := xshR (s := 2) hS hok (by omega)
  have R2 := xshR (s := 3) hS hok (by omega)
  refine zb X_shift_s0 rfl ?_
  refine zcallV X_shift_d2 k10_93 (by omega) (x_shelf_2 (by omega)) rfl rfl rfl (Nat.le_of_ble_eq_true rfl) ?_
  rintro _ μx ⟨rfl, hx⟩
  rw [hx]
  clear hx μx
  refine zb X_shift_s5 rfl ?_
  refine zcallV X_shift_d9 k10_93 (by omega) (x_shelf_3 (by omega)) rfl rfl rfl (Nat.le_of_ble_eq_true rfl) ?_
  rintro _ μx ⟨rfl, hx⟩
  rw [hx]
  clear hx μx
  refine zb X_shift_s12 rfl ?_
  refine z_null X_shift_d16 ?_
  refine zb X_shift_s19 rfl ?_
  refine z_nonnull X_shift_d21 (tgt := 26) rfl ?_
  refine zb X_shift_s26 rfl ?_
  refine zcallV X_shift_d28 k10_97 (by omega) (x_isEmpty_2) rfl rfl rfl (Nat.le_of_ble_eq_true rfl) ?_
  rintro _ μx ⟨rfl, hx⟩
  rw [hx]
  clear hx μx
  refine z_ne X_shift_d31 (tgt := 42) rfl (fun h31 => ?_) (fun h31 => ?_)
  · refine zb X_shift_s42 rfl ?_
    refine z_ret X_shift_d44 rfl ?_
    first
      | (have f := fin_shift (s := 2) (p := 3) (a := x) (b := y) (N := N) hS (by omega) (by omega) (by omega)
         rw [cN, cx, cy]
         exact ⟨rfl, f.1, f.2⟩)
      | (have q : ¬ bP 16 j n μ := zB_eq0.mp h89
         rw [opSh_c (by omega) (by omega) f1 f2 hsrt (fun z => q (P2.mpr (And.intro z.2.2.1 (And.intro z.1 (by rw [← ew]; exact z.2.2.2.2)))))]
         exact ⟨rfl, hS, onlyX.rf⟩)
      | (have q : ¬ bP 15 i n μ := zB_eq0.mp h77
         rw [opSh_c (by omega) (by omega) f1 f2 hsrt (fun z => q (P1.mpr (And.intro z.2.1 (And.intro z.1 (by rw [← em]; exact z.2.2.2.1)))))]
         exact ⟨rfl, hS, onlyX.rf⟩)
      | (have q := zB_eq0.mp h63
         have f1 : hHeld S 2 = 2 := R1.mp (zB_ne0.mp h50)
         have n2 : ¬ hHeld S 3 = 0 := fun z => (show ¬ bE 16 μ from zB_eq0.mp h39) (E2.mpr z)
         rw [opSh_b (by omega) (by omega) (by rw [f1]; decide) n2 (by
           by_cases z : hHeld S 3 = 2
           · refine Or.inr (Or.inr (fun y => q (And.intro (R2.mpr z) ?_)))
             exact (show μ.1 16 2 = _ from (xsh2 hS hok (show 3 < 6 by omega) z).1).trans (y.symm.trans (show μ.1 15 2 = _ from (xsh2 hS hok (show 2 < 6 by omega) f1).1).symm)
           · exact Or.inr (Or.inl (xsh1 hok (by omega) n2 z)))]
         exact ⟨rfl, hS, onlyX.rf⟩)
      | (have q : ¬ bR 15 μ := zB_eq0.mp h50
         have n1 : ¬ hHeld S 2 = 0 := fun z => (show ¬ bE 15 μ from zB_eq0.mp h31) (E1.mpr z)
         have n2 : ¬ hHeld S 3 = 0 := fun z => (show ¬ bE 16 μ from zB_eq0.mp h39) (E2.mpr z)
         rw [opSh_b (by omega) (by omega) n1 n2 (Or.inl (xsh1 hok (by omega) n1 (fun z => q (R1.mpr z))))]
         exact ⟨rfl, hS, onlyX.rf⟩)
      | (have q : bE 16 μ := zB_ne0.mp h39
         rw [opSh_a (by omega) (by omega) (Or.inr (E2.mp q))]
         exact ⟨rfl, hS, onlyX.rf⟩)
      | (have q : bE 15 μ := zB_ne0.mp h31
         rw [opSh_a (by omega) (by omega) (Or.inl (E1.mp q))]
         exact ⟨rfl, hS, onlyX.rf⟩)
  · refine zb X_shift_s34 rfl ?_
    refine zcallV X_shift_d36 k10_97 (by omega) (x_isEmpty_3) rfl rfl rfl (Nat.le_of_ble_eq_true rfl) ?_
    rintro _ μx ⟨rfl, hx⟩
    rw [hx]
    clear hx μx
    refine z_eq X_shift_d39 (tgt := 45) rfl (fun h39 => ?_) (fun h39 => ?_)
    · refine zb X_shift_s45 rfl ?_
      refine zcallV X_shift_d47 k10_357 (by omega) (x_isRow_2) rfl rfl rfl (Nat.le_of_ble_eq_true rfl) ?_
      rintro _ μx ⟨rfl, hx⟩
      rw [hx]
      clear hx μx
      refine z_eq X_shift_d50 (tgt := 66) rfl (fun h50 => ?_) (fun h50 => ?_)
      · refine zb X_shift_s66 rfl ?_
        refine z_ret X_shift_d68 rfl ?_
        first
          | (have f := fin_shift (s := 2) (p := 3) (a := x) (b := y) (N := N) hS (by omega) (by omega) (by omega)
             rw [cN, cx, cy]
             exact ⟨rfl, f.1, f.2⟩)
          | (have q : ¬ bP 16 j n μ := zB_eq0.mp h89
             rw [opSh_c (by omega) (by omega) f1 f2 hsrt (fun z => q (P2.mpr (And.intro z.2.2.1 (And.intro z.1 (by rw [← ew]; exact z.2.2.2.2)))))]
             exact ⟨rfl, hS, onlyX.rf⟩)
          | (have q : ¬ bP 15 i n μ := zB_eq0.mp h77
             rw [opSh_c (by omega) (by omega) f1 f2 hsrt (fun z => q (P1.mpr (And.intro z.2.1 (And.intro z.1 (by rw [← em]; exact z.2.2.2.1)))))]
             exact ⟨rfl, hS, onlyX.rf⟩)
          | (have q := zB_eq0.mp h63
             have f1 : hHeld S 2 = 2 := R1.mp (zB_ne0.mp h50)
             have n2 : ¬ hHeld S 3 = 0 := fun z => (show ¬ bE 16 μ from zB_eq0.mp h39) (E2.mpr z)
             rw [opSh_b (by omega) (by omega) (by rw [f1]; decide) n2 (by
               by_cases z : hHeld S 3 = 2
               · refine Or.inr (Or.inr (fun y => q (And.intro (R2.mpr z) ?_)))
                 exact (show μ.1 16 2 = _ from (xsh2 hS hok (show 3 < 6 by omega) z).1).trans (y.symm.trans (show μ.1 15 2 = _ from (xsh2 hS hok (show 2 < 6 by omega) f1).1).symm)
               · exact Or.inr (Or.inl (xsh1 hok (by omega) n2 z)))]
             exact ⟨rfl, hS, onlyX.rf⟩)
          | (have q : ¬ bR 15 μ := zB_eq0.mp h50
             have n1 : ¬ hHeld S 2 = 0 := fun z => (show ¬ bE 15 μ from zB_eq0.mp h31) (E1.mpr z)
             have n2 : ¬ hHeld S 3 = 0 := fun z => (show ¬ bE 16 μ from zB_eq0.mp h39) (E2.mpr z)
             rw [opSh_b (by omega) (by omega) n1 n2 (Or.inl (xsh1 hok (by omega) n1 (fun z => q (R1.mpr z))))]
             exact ⟨rfl, hS, onlyX.rf⟩)
          | (have q : bE 16 μ := zB_ne0.mp h39
             rw [opSh_a (by omega) (by omega) (Or.inr (E2.mp q))]
             exact ⟨rfl, hS, onlyX.rf⟩)
          | (have q : bE 15 μ := zB_ne0.mp h31
             rw [opSh_a (by omega) (by omega) (Or.inl (E1.mp q))]
             exact ⟨rfl, hS, onlyX.rf⟩)
      · refine zb X_shift_s53 rfl ?_
        refine zcallV X_shift_d60 k10_101 (by omega) (x_isRowOf_3 _ (by omega)) rfl rfl rfl (Nat.le_of_ble_eq_true rfl) ?_
        rintro _ μx ⟨rfl, hx⟩
        rw [hx]
        clear hx μx
        refine z_ne X_shift_d63 (tgt := 69) rfl (fun h63 => ?_) (fun h63 => ?_)
        · have f1 : hHeld S 2 = 2 := R1.mp (zB_ne0.mp h50)
          have f2 : hHeld S 3 = 2 := R2.mp (zB_ne0.mp h63).1
          obtain ⟨a1, a2, m, hm, em⟩ := xsh2 hS hok (show 2 < 6 by omega) f1
          obtain ⟨b1, b2, w, hw, ew⟩ := xsh2 hS hok (show 3 < 6 by omega) f2
          have hsrt : hSort S 2 = hSort S 3 := a1.symm.trans ((zB_ne0.mp h63).2.symm.trans b1)
          have P1 := bPn (i := i) (n := n) hm (a2.trans em)
          have P2 := bPn (i := j) (n := n) hw (b2.trans ew)
          refine zb X_shift_s69 rfl ?_
          refine zcallV X_shift_d74 k10_363 (by omega) (x_hasPlaces_2 _ _) rfl rfl rfl (Nat.le_of_ble_eq_true rfl) ?_
          rintro _ μx ⟨rfl, hx⟩
          rw [hx]
          clear hx μx
          refine z_eq X_shift_d77 (tgt := 92) rfl (fun h77 => ?_) (fun h77 => ?_)
          · refine zb X_shift_s92 rfl ?_
            refine z_ret X_shift_d94 rfl ?_
            first
              | (have f := fin_shift (s := 2) (p := 3) (a := x) (b := y) (N := N) hS (by omega) (by omega) (by omega)
                 rw [cN, cx, cy]
                 exact ⟨rfl, f.1, f.2⟩)
              | (have q : ¬ bP 16 j n μ := zB_eq0.mp h89
                 rw [opSh_c (by omega) (by omega) f1 f2 hsrt (fun z => q (P2.mpr (And.intro z.2.2.1 (And.intro z.1 (by rw [← ew]; exact z.2.2.2.2)))))]
                 exact ⟨rfl, hS, onlyX.rf⟩)
              | (have q : ¬ bP 15 i n μ := zB_eq0.mp h77
                 rw [opSh_c (by omega) (by omega) f1 f2 hsrt (fun z => q (P1.mpr (And.intro z.2.1 (And.intro z.1 (by rw [← em]; exact z.2.2.2.1)))))]
                 exact ⟨rfl, hS, onlyX.rf⟩)
              | (have q := zB_eq0.mp h63
                 have f1 : hHeld S 2 = 2 := R1.mp (zB_ne0.mp h50)
                 have n2 : ¬ hHeld S 3 = 0 := fun z => (show ¬ bE 16 μ from zB_eq0.mp h39) (E2.mpr z)
                 rw [opSh_b (by omega) (by omega) (by rw [f1]; decide) n2 (by
                   by_cases z : hHeld S 3 = 2
                   · refine Or.inr (Or.inr (fun y => q (And.intro (R2.mpr z) ?_)))
                     exact (show μ.1 16 2 = _ from (xsh2 hS hok (show 3 < 6 by omega) z).1).trans (y.symm.trans (show μ.1 15 2 = _ from (xsh2 hS hok (show 2 < 6 by omega) f1).1).symm)
                   · exact Or.inr (Or.inl (xsh1 hok (by omega) n2 z)))]
                 exact ⟨rfl, hS, onlyX.rf⟩)
              | (have q : ¬ bR 15 μ := zB_eq0.mp h50
                 have n1 : ¬ hHeld S 2 = 0 := fun z => (show ¬ bE 15 μ from zB_eq0.mp h31) (E1.mpr z)
                 have n2 : ¬ hHeld S 3 = 0 := fun z => (show ¬ bE 16 μ from zB_eq0.mp h39) (E2.mpr z)
                 rw [opSh_b (by omega) (by omega) n1 n2 (Or.inl (xsh1 hok (by omega) n1 (fun z => q (R1.mpr z))))]
                 exact ⟨rfl, hS, onlyX.rf⟩)
              | (have q : bE 16 μ := zB_ne0.mp h39
                 rw [opSh_a (by omega) (by omega) (Or.inr (E2.mp q))]
                 exact ⟨rfl, hS, onlyX.rf⟩)
              | (have q : bE 15 μ := zB_ne0.mp h31
                 rw [opSh_a (by omega) (by omega) (Or.inl (E1.mp q))]
                 exact ⟨rfl, hS, onlyX.rf⟩)
          · refine zb X_shift_s80 rfl ?_
            refine zcallV X_shift_d86 k10_363 (by omega) (x_hasPlaces_3 _ _) rfl rfl rfl (Nat.le_of_ble_eq_true rfl) ?_
            rintro _ μx ⟨rfl, hx⟩
            rw [hx]
            clear hx μx
            refine z_ne X_shift_d89 (tgt := 95) rfl (fun h89 => ?_) (fun h89 => ?_)
            · have g1 := P1.mp (zB_ne0.mp h77)
              have g2 := P2.mp (zB_ne0.mp h89)
              have hall : 0 ≤ n ∧ 0 ≤ i ∧ 0 ≤ j ∧ i ≤ hSize S 2 - n ∧ j ≤ hSize S 3 - n := by
                exact ⟨g1.2.1, g1.1, g2.1, by rw [em]; exact g1.2.2, by rw [ew]; exact g2.2.2⟩
              rw [opSh_d (by omega) (by omega) f1 f2 hsrt hall]
              clear hall
              obtain ⟨N, hN, rfl⟩ := nI_of (Int32.not_lt.mpr g1.2.1)
              obtain ⟨x, hx, rfl⟩ := nI_of (Int32.not_lt.mpr g1.1)
              obtain ⟨y, hy, rfl⟩ := nI_of (Int32.not_lt.mpr g2.1)
              have k1 := (le_sub hx hm hN).mp g1.2.2
              have k2 := (le_sub hy hw hN).mp g2.2.2
              have cN : (nI N).toNatClampNeg = N := nI_clamp hN
              have cx : (nI x).toNatClampNeg = x := nI_clamp hx
              have cy : (nI y).toNatClampNeg = y := nI_clamp hy
              refine zb X_shift_s95 rfl ?_
              refine zcpL X_shift_d110 k10_366 (by omega) (Nat.le_of_ble_eq_true rfl) rfl rfl (nI_pos (by omega)) (nI_pos (by omega)) (nI_pos (by omega)) (by rw [cN, cx]; omega) (by rw [cN, cy]; omega) ?_
              refine zb X_shift_s113 rfl ?_
              refine z_ret X_shift_d115 rfl ?_
              first
                | (have f := fin_shift (s := 2) (p := 3) (a := x) (b := y) (N := N) hS (by omega) (by omega) (by omega)
                   rw [cN, cx, cy]
                   exact ⟨rfl, f.1, f.2⟩)
                | (have q : ¬ bP 16 j n μ := zB_eq0.mp h89
                   rw [opSh_c (by omega) (by omega) f1 f2 hsrt (fun z => q (P2.mpr (And.intro z.2.2.1 (And.intro z.1 (by rw [← ew]; exact z.2.2.2.2)))))]
                   exact ⟨rfl, hS, onlyX.rf⟩)
                | (have q : ¬ bP 15 i n μ := zB_eq0.mp h77
                   rw [opSh_c (by omega) (by omega) f1 f2 hsrt (fun z => q (P1.mpr (And.intro z.2.1 (And.intro z.1 (by rw [← em]; exact z.2.2.2.1)))))]
                   exact ⟨rfl, hS, onlyX.rf⟩)
                | (have q := zB_eq0.mp h63
                   have f1 : hHeld S 2 = 2 := R1.mp (zB_ne0.mp h50)
                   have n2 : ¬ hHeld S 3 = 0 := fun z => (show ¬ bE 16 μ from zB_eq0.mp h39) (E2.mpr z)
                   rw [opSh_b (by omega) (by omega) (by rw [f1]; decide) n2 (by
                     by_cases z : hHeld S 3 = 2
                     · refine Or.inr (Or.inr (fun y => q (And.intro (R2.mpr z) ?_)))
                       exact (show μ.1 16 2 = _ from (xsh2 hS hok (show 3 < 6 by omega) z).1).trans (y.symm.trans (show μ.1 15 2 = _ from (xsh2 hS hok (show 2 < 6 by omega) f1).1).symm)
                     · exact Or.inr (Or.inl (xsh1 hok (by omega) n2 z)))]
                   exact ⟨rfl, hS, onlyX.rf⟩)
                | (have q : ¬ bR 15 μ := zB_eq0.mp h50
                   have n1 : ¬ hHeld S 2 = 0 := fun z => (show ¬ bE 15 μ from zB_eq0.mp h31) (E1.mpr z)
                   have n2 : ¬ hHeld S 3 = 0 := fun z => (show ¬ bE 16 μ from zB_eq0.mp h39) (E2.mpr z)
                   rw [opSh_b (by omega) (by omega) n1 n2 (Or.inl (xsh1 hok (by omega) n1 (fun z => q (R1.mpr z))))]
                   exact ⟨rfl, hS, onlyX.rf⟩)
                | (have q : bE 16 μ := zB_ne0.mp h39
                   rw [opSh_a (by omega) (by omega) (Or.inr (E2.mp q))]
                   exact ⟨rfl, hS, onlyX.rf⟩)
                | (have q : bE 15 μ := zB_ne0.mp h31
                   rw [opSh_a (by omega) (by omega) (Or.inl (E1.mp q))]
                   exact ⟨rfl, hS, onlyX.rf⟩)
            · refine zb X_shift_s92 rfl ?_
              refine z_ret X_shift_d94 rfl ?_
              first
                | (have f := fin_shift (s := 2) (p := 3) (a := x) (b := y) (N := N) hS (by omega) (by omega) (by omega)
                   rw [cN, cx, cy]
                   exact ⟨rfl, f.1, f.2⟩)
                | (have q : ¬ bP 16 j n μ := zB_eq0.mp h89
                   rw [opSh_c (by omega) (by omega) f1 f2 hsrt (fun z => q (P2.mpr (And.intro z.2.2.1 (And.intro z.1 (by rw [← ew]; exact z.2.2.2.2)))))]
                   exact ⟨rfl, hS, onlyX.rf⟩)
                | (have q : ¬ bP 15 i n μ := zB_eq0.mp h77
                   rw [opSh_c (by omega) (by omega) f1 f2 hsrt (fun z => q (P1.mpr (And.intro z.2.1 (And.intro z.1 (by rw [← em]; exact z.2.2.2.1)))))]
                   exact ⟨rfl, hS, onlyX.rf⟩)
                | (have q := zB_eq0.mp h63
                   have f1 : hHeld S 2 = 2 := R1.mp (zB_ne0.mp h50)
                   have n2 : ¬ hHeld S 3 = 0 := fun z => (show ¬ bE 16 μ from zB_eq0.mp h39) (E2.mpr z)
                   rw [opSh_b (by omega) (by omega) (by rw [f1]; decide) n2 (by
                     by_cases z : hHeld S 3 = 2
                     · refine Or.inr (Or.inr (fun y => q (And.intro (R2.mpr z) ?_)))
                       exact (show μ.1 16 2 = _ from (xsh2 hS hok (show 3 < 6 by omega) z).1).trans (y.symm.trans (show μ.1 15 2 = _ from (xsh2 hS hok (show 2 < 6 by omega) f1).1).symm)
                     · exact Or.inr (Or.inl (xsh1 hok (by omega) n2 z)))]
                   exact ⟨rfl, hS, onlyX.rf⟩)
                | (have q : ¬ bR 15 μ := zB_eq0.mp h50
                   have n1 : ¬ hHeld S 2 = 0 := fun z => (show ¬ bE 15 μ from zB_eq0.mp h31) (E1.mpr z)
                   have n2 : ¬ hHeld S 3 = 0 := fun z => (show ¬ bE 16 μ from zB_eq0.mp h39) (E2.mpr z)
                   rw [opSh_b (by omega) (by omega) n1 n2 (Or.inl (xsh1 hok (by omega) n1 (fun z => q (R1.mpr z))))]
                   exact ⟨rfl, hS, onlyX.rf⟩)
                | (have q : bE 16 μ := zB_ne0.mp h39
                   rw [opSh_a (by omega) (by omega) (Or.inr (E2.mp q))]
                   exact ⟨rfl, hS, onlyX.rf⟩)
                | (have q : bE 15 μ := zB_ne0.mp h31
                   rw [opSh_a (by omega) (by omega) (Or.inl (E1.mp q))]
                   exact ⟨rfl, hS, onlyX.rf⟩)
        · refine zb X_shift_s66 rfl ?_
          refine z_ret X_shift_d68 rfl ?_
          first
            | (have f := fin_shift (s := 2) (p := 3) (a := x) (b := y) (N := N) hS (by omega) (by omega) (by omega)
               rw [cN, cx, cy]
               exact ⟨rfl, f.1, f.2⟩)
            | (have q : ¬ bP 16 j n μ := zB_eq0.mp h89
               rw [opSh_c (by omega) (by omega) f1 f2 hsrt (fun z => q (P2.mpr (And.intro z.2.2.1 (And.intro z.1 (by rw [← ew]; exact z.2.2.2.2)))))]
               exact ⟨rfl, hS, onlyX.rf⟩)
            | (have q : ¬ bP 15 i n μ := zB_eq0.mp h77
               rw [opSh_c (by omega) (by omega) f1 f2 hsrt (fun z => q (P1.mpr (And.intro z.2.1 (And.intro z.1 (by rw [← em]; exact z.2.2.2.1)))))]
               exact ⟨rfl, hS, onlyX.rf⟩)
            | (have q := zB_eq0.mp h63
               have f1 : hHeld S 2 = 2 := R1.mp (zB_ne0.mp h50)
               have n2 : ¬ hHeld S 3 = 0 := fun z => (show ¬ bE 16 μ from zB_eq0.mp h39) (E2.mpr z)
               rw [opSh_b (by omega) (by omega) (by rw [f1]; decide) n2 (by
                 by_cases z : hHeld S 3 = 2
                 · refine Or.inr (Or.inr (fun y => q (And.intro (R2.mpr z) ?_)))
                   exact (show μ.1 16 2 = _ from (xsh2 hS hok (show 3 < 6 by omega) z).1).trans (y.symm.trans (show μ.1 15 2 = _ from (xsh2 hS hok (show 2 < 6 by omega) f1).1).symm)
                 · exact Or.inr (Or.inl (xsh1 hok (by omega) n2 z)))]
               exact ⟨rfl, hS, onlyX.rf⟩)
            | (have q : ¬ bR 15 μ := zB_eq0.mp h50
               have n1 : ¬ hHeld S 2 = 0 := fun z => (show ¬ bE 15 μ from zB_eq0.mp h31) (E1.mpr z)
               have n2 : ¬ hHeld S 3 = 0 := fun z => (show ¬ bE 16 μ from zB_eq0.mp h39) (E2.mpr z)
               rw [opSh_b (by omega) (by omega) n1 n2 (Or.inl (xsh1 hok (by omega) n1 (fun z => q (R1.mpr z))))]
               exact ⟨rfl, hS, onlyX.rf⟩)
            | (have q : bE 16 μ := zB_ne0.mp h39
               rw [opSh_a (by omega) (by omega) (Or.inr (E2.mp q))]
               exact ⟨rfl, hS, onlyX.rf⟩)
            | (have q : bE 15 μ := zB_ne0.mp h31
               rw [opSh_a (by omega) (by omega) (Or.inl (E1.mp q))]
               exact ⟨rfl, hS, onlyX.rf⟩)
    · refine zb X_shift_s42 rfl ?_
      refine z_ret X_shift_d44 rfl ?_
      first
        | (have f := fin_shift (s := 2) (p := 3) (a := x) (b := y) (N := N) hS (by omega) (by omega) (by omega)
           rw [cN, cx, cy]
           exact ⟨rfl, f.1, f.2⟩)
        | (have q : ¬ bP 16 j n μ := zB_eq0.mp h89
           rw [opSh_c (by omega) (by omega) f1 f2 hsrt (fun z => q (P2.mpr (And.intro z.2.2.1 (And.intro z.1 (by rw [← ew]; exact z.2.2.2.2)))))]
           exact ⟨rfl, hS, onlyX.rf⟩)
        | (have q : ¬ bP 15 i n μ := zB_eq0.mp h77
           rw [opSh_c (by omega) (by omega) f1 f2 hsrt (fun z => q (P1.mpr (And.intro z.2.1 (And.intro z.1 (by rw [← em]; exact z.2.2.2.1)))))]
           exact ⟨rfl, hS, onlyX.rf⟩)
        | (have q := zB_eq0.mp h63
           have f1 : hHeld S 2 = 2 := R1.mp (zB_ne0.mp h50)
           have n2 : ¬ hHeld S 3 = 0 := fun z => (show ¬ bE 16 μ from zB_eq0.mp h39) (E2.mpr z)
           rw [opSh_b (by omega) (by omega) (by rw [f1]; decide) n2 (by
             by_cases z : hHeld S 3 = 2
             · refine Or.inr (Or.inr (fun y => q (And.intro (R2.mpr z) ?_)))
               exact (show μ.1 16 2 = _ from (xsh2 hS hok (show 3 < 6 by omega) z).1).trans (y.symm.trans (show μ.1 15 2 = _ from (xsh2 hS hok (show 2 < 6 by omega) f1).1).symm)
             · exact Or.inr (Or.inl (xsh1 hok (by omega) n2 z)))]
           exact ⟨rfl, hS, onlyX.rf⟩)
        | (have q : ¬ bR 15 μ := zB_eq0.mp h50
           have n1 : ¬ hHeld S 2 = 0 := fun z => (show ¬ bE 15 μ from zB_eq0.mp h31) (E1.mpr z)
           have n2 : ¬ hHeld S 3 = 0 := fun z => (show ¬ bE 16 μ from zB_eq0.mp h39) (E2.mpr z)
           rw [opSh_b (by omega) (by omega) n1 n2 (Or.inl (xsh1 hok (by omega) n1 (fun z => q (R1.mpr z))))]
           exact ⟨rfl, hS, onlyX.rf⟩)
        | (have q : bE 16 μ := zB_ne0.mp h39
           rw [opSh_a (by omega) (by omega) (Or.inr (E2.mp q))]
           exact ⟨rfl, hS, onlyX.rf⟩)
        | (have q : bE 15 μ := zB_ne0.mp h31
           rw [opSh_a (by omega) (by omega) (Or.inl (E1.mp q))]
           exact ⟨rfl, hS, onlyX.rf⟩)

set_option maxRecDepth 100000 in
set_option maxHeartbeats 4000000 in
theorem xs_shift_2_4 {g : zG} {d : Nat} {S : zS} {μ : zMem} {i j n : Int32} (hd : 2 ≤ d) (hS : xS S μ) (hok : okH S) : zM g d X_shift [.ref 1, .int (nI 2), .int i, .int (nI 4), .int j, .int n] μ (pO xS onlyX (opShift S (nI 2) i (nI 4) j n) μ) := by
  refine zM_of (by decide +kernel) rfl rfl (Nat.le_of_ble_eq_true rfl) rfl ?_
  obtain ⟨ho, h2, hT, hC, hD, hI, hA, hH⟩ := hS
  have hS : xS S μ := ⟨ho, h2, hT, hC, hD, hI, hA, hH⟩
  have hb := ho.b
  have hv := ho.v
  have hB6 := ho.b6
  have hV12 := ho.v12
  have hz : zq sX μ μ := zq.rf
  have E1 := xshE (s := 2) hS hok (by omega)
  have E2 := xshE (s := 4) hS hok (by omega)
  have R1 := xshR (s := 2) hS hok (by omega)
  have R2 := xshR (s := 4) hS hok (by omega)
  refine zb X_shift_s0 rfl ?_
  refine zcallV X_shift_d2 k10_93 (by omega) (x_shelf_2 (by omega)) rfl rfl rfl (Nat.le_of_ble_eq_true rfl) ?_
  rintro _ μx ⟨rfl, hx⟩
  rw [hx]
  clear hx μx
  refine zb X_shift_s5 rfl ?_
  refine zcallV X_shift_d9 k10_93 (by omega) (x_shelf_4 (by omega)) rfl rfl rfl (Nat.le_of_ble_eq_true rfl) ?_
  rintro _ μx ⟨rfl, hx⟩
  rw [hx]
  clear hx μx
  refine zb X_shift_s12 rfl ?_
  refine z_null X_shift_d16 ?_
  refine zb X_shift_s19 rfl ?_
  refine z_nonnull X_shift_d21 (tgt := 26) rfl ?_
  refine zb X_shift_s26 rfl ?_
  refine zcallV X_shift_d28 k10_97 (by omega) (x_isEmpty_2) rfl rfl rfl (Nat.le_of_ble_eq_true rfl) ?_
  rintro _ μx ⟨rfl, hx⟩
  rw [hx]
  clear hx μx
  refine z_ne X_shift_d31 (tgt := 42) rfl (fun h31 => ?_) (fun h31 => ?_)
  · refine zb X_shift_s42 rfl ?_
    refine z_ret X_shift_d44 rfl ?_
    first
      | (have f := fin_shift (s := 2) (p := 4) (a := x) (b := y) (N := N) hS (by omega) (by omega) (by omega)
         rw [cN, cx, cy]
         exact ⟨rfl, f.1, f.2⟩)
      | (have q : ¬ bP 17 j n μ := zB_eq0.mp h89
         rw [opSh_c (by omega) (by omega) f1 f2 hsrt (fun z => q (P2.mpr (And.intro z.2.2.1 (And.intro z.1 (by rw [← ew]; exact z.2.2.2.2)))))]
         exact ⟨rfl, hS, onlyX.rf⟩)
      | (have q : ¬ bP 15 i n μ := zB_eq0.mp h77
         rw [opSh_c (by omega) (by omega) f1 f2 hsrt (fun z => q (P1.mpr (And.intro z.2.1 (And.intro z.1 (by rw [← em]; exact z.2.2.2.1)))))]
         exact ⟨rfl, hS, onlyX.rf⟩)
      | (have q := zB_eq0.mp h63
         have f1 : hHeld S 2 = 2 := R1.mp (zB_ne0.mp h50)
         have n2 : ¬ hHeld S 4 = 0 := fun z => (show ¬ bE 17 μ from zB_eq0.mp h39) (E2.mpr z)
         rw [opSh_b (by omega) (by omega) (by rw [f1]; decide) n2 (by
           by_cases z : hHeld S 4 = 2
           · refine Or.inr (Or.inr (fun y => q (And.intro (R2.mpr z) ?_)))
             exact (show μ.1 17 2 = _ from (xsh2 hS hok (show 4 < 6 by omega) z).1).trans (y.symm.trans (show μ.1 15 2 = _ from (xsh2 hS hok (show 2 < 6 by omega) f1).1).symm)
           · exact Or.inr (Or.inl (xsh1 hok (by omega) n2 z)))]
         exact ⟨rfl, hS, onlyX.rf⟩)
      | (have q : ¬ bR 15 μ := zB_eq0.mp h50
         have n1 : ¬ hHeld S 2 = 0 := fun z => (show ¬ bE 15 μ from zB_eq0.mp h31) (E1.mpr z)
         have n2 : ¬ hHeld S 4 = 0 := fun z => (show ¬ bE 17 μ from zB_eq0.mp h39) (E2.mpr z)
         rw [opSh_b (by omega) (by omega) n1 n2 (Or.inl (xsh1 hok (by omega) n1 (fun z => q (R1.mpr z))))]
         exact ⟨rfl, hS, onlyX.rf⟩)
      | (have q : bE 17 μ := zB_ne0.mp h39
         rw [opSh_a (by omega) (by omega) (Or.inr (E2.mp q))]
         exact ⟨rfl, hS, onlyX.rf⟩)
      | (have q : bE 15 μ := zB_ne0.mp h31
         rw [opSh_a (by omega) (by omega) (Or.inl (E1.mp q))]
         exact ⟨rfl, hS, onlyX.rf⟩)
  · refine zb X_shift_s34 rfl ?_
    refine zcallV X_shift_d36 k10_97 (by omega) (x_isEmpty_4) rfl rfl rfl (Nat.le_of_ble_eq_true rfl) ?_
    rintro _ μx ⟨rfl, hx⟩
    rw [hx]
    clear hx μx
    refine z_eq X_shift_d39 (tgt := 45) rfl (fun h39 => ?_) (fun h39 => ?_)
    · refine zb X_shift_s45 rfl ?_
      refine zcallV X_shift_d47 k10_357 (by omega) (x_isRow_2) rfl rfl rfl (Nat.le_of_ble_eq_true rfl) ?_
      rintro _ μx ⟨rfl, hx⟩
      rw [hx]
      clear hx μx
      refine z_eq X_shift_d50 (tgt := 66) rfl (fun h50 => ?_) (fun h50 => ?_)
      · refine zb X_shift_s66 rfl ?_
        refine z_ret X_shift_d68 rfl ?_
        first
          | (have f := fin_shift (s := 2) (p := 4) (a := x) (b := y) (N := N) hS (by omega) (by omega) (by omega)
             rw [cN, cx, cy]
             exact ⟨rfl, f.1, f.2⟩)
          | (have q : ¬ bP 17 j n μ := zB_eq0.mp h89
             rw [opSh_c (by omega) (by omega) f1 f2 hsrt (fun z => q (P2.mpr (And.intro z.2.2.1 (And.intro z.1 (by rw [← ew]; exact z.2.2.2.2)))))]
             exact ⟨rfl, hS, onlyX.rf⟩)
          | (have q : ¬ bP 15 i n μ := zB_eq0.mp h77
             rw [opSh_c (by omega) (by omega) f1 f2 hsrt (fun z => q (P1.mpr (And.intro z.2.1 (And.intro z.1 (by rw [← em]; exact z.2.2.2.1)))))]
             exact ⟨rfl, hS, onlyX.rf⟩)
          | (have q := zB_eq0.mp h63
             have f1 : hHeld S 2 = 2 := R1.mp (zB_ne0.mp h50)
             have n2 : ¬ hHeld S 4 = 0 := fun z => (show ¬ bE 17 μ from zB_eq0.mp h39) (E2.mpr z)
             rw [opSh_b (by omega) (by omega) (by rw [f1]; decide) n2 (by
               by_cases z : hHeld S 4 = 2
               · refine Or.inr (Or.inr (fun y => q (And.intro (R2.mpr z) ?_)))
                 exact (show μ.1 17 2 = _ from (xsh2 hS hok (show 4 < 6 by omega) z).1).trans (y.symm.trans (show μ.1 15 2 = _ from (xsh2 hS hok (show 2 < 6 by omega) f1).1).symm)
               · exact Or.inr (Or.inl (xsh1 hok (by omega) n2 z)))]
             exact ⟨rfl, hS, onlyX.rf⟩)
          | (have q : ¬ bR 15 μ := zB_eq0.mp h50
             have n1 : ¬ hHeld S 2 = 0 := fun z => (show ¬ bE 15 μ from zB_eq0.mp h31) (E1.mpr z)
             have n2 : ¬ hHeld S 4 = 0 := fun z => (show ¬ bE 17 μ from zB_eq0.mp h39) (E2.mpr z)
             rw [opSh_b (by omega) (by omega) n1 n2 (Or.inl (xsh1 hok (by omega) n1 (fun z => q (R1.mpr z))))]
             exact ⟨rfl, hS, onlyX.rf⟩)
          | (have q : bE 17 μ := zB_ne0.mp h39
             rw [opSh_a (by omega) (by omega) (Or.inr (E2.mp q))]
             exact ⟨rfl, hS, onlyX.rf⟩)
          | (have q : bE 15 μ := zB_ne0.mp h31
             rw [opSh_a (by omega) (by omega) (Or.inl (E1.mp q))]
             exact ⟨rfl, hS, onlyX.rf⟩)
      · refine zb X_shift_s53 rfl ?_
        refine zcallV X_shift_d60 k10_101 (by omega) (x_isRowOf_4 _ (by omega)) rfl rfl rfl (Nat.le_of_ble_eq_true rfl) ?_
        rintro _ μx ⟨rfl, hx⟩
        rw [hx]
        clear hx μx
        refine z_ne X_shift_d63 (tgt := 69) rfl (fun h63 => ?_) (fun h63 => ?_)
        · have f1 : hHeld S 2 = 2 := R1.mp (zB_ne0.mp h50)
          have f2 : hHeld S 4 = 2 := R2.mp (zB_ne0.mp h63).1
          obtain ⟨a1, a2, m, hm, em⟩ := xsh2 hS hok (show 2 < 6 by omega) f1
          obtain ⟨b1, b2, w, hw, ew⟩ := xsh2 hS hok (show 4 < 6 by omega) f2
          have hsrt : hSort S 2 = hSort S 4 := a1.symm.trans ((zB_ne0.mp h63).2.symm.trans b1)
          have P1 := bPn (i := i) (n := n) hm (a2.trans em)
          have P2 := bPn (i := j) (n := n) hw (b2.trans ew)
          refine zb X_shift_s69 rfl ?_
          refine zcallV X_shift_d74 k10_363 (by omega) (x_hasPlaces_2 _ _) rfl rfl rfl (Nat.le_of_ble_eq_true rfl) ?_
          rintro _ μx ⟨rfl, hx⟩
          rw [hx]
          clear hx μx
          refine z_eq X_shift_d77 (tgt := 92) rfl (fun h77 => ?_) (fun h77 => ?_)
          · refine zb X_shift_s92 rfl ?_
            refine z_ret X_shift_d94 rfl ?_
            first
              | (have f := fin_shift (s := 2) (p := 4) (a := x) (b := y) (N := N) hS (by omega) (by omega) (by omega)
                 rw [cN, cx, cy]
                 exact ⟨rfl, f.1, f.2⟩)
              | (have q : ¬ bP 17 j n μ := zB_eq0.mp h89
                 rw [opSh_c (by omega) (by omega) f1 f2 hsrt (fun z => q (P2.mpr (And.intro z.2.2.1 (And.intro z.1 (by rw [← ew]; exact z.2.2.2.2)))))]
                 exact ⟨rfl, hS, onlyX.rf⟩)
              | (have q : ¬ bP 15 i n μ := zB_eq0.mp h77
                 rw [opSh_c (by omega) (by omega) f1 f2 hsrt (fun z => q (P1.mpr (And.intro z.2.1 (And.intro z.1 (by rw [← em]; exact z.2.2.2.1)))))]
                 exact ⟨rfl, hS, onlyX.rf⟩)
              | (have q := zB_eq0.mp h63
                 have f1 : hHeld S 2 = 2 := R1.mp (zB_ne0.mp h50)
                 have n2 : ¬ hHeld S 4 = 0 := fun z => (show ¬ bE 17 μ from zB_eq0.mp h39) (E2.mpr z)
                 rw [opSh_b (by omega) (by omega) (by rw [f1]; decide) n2 (by
                   by_cases z : hHeld S 4 = 2
                   · refine Or.inr (Or.inr (fun y => q (And.intro (R2.mpr z) ?_)))
                     exact (show μ.1 17 2 = _ from (xsh2 hS hok (show 4 < 6 by omega) z).1).trans (y.symm.trans (show μ.1 15 2 = _ from (xsh2 hS hok (show 2 < 6 by omega) f1).1).symm)
                   · exact Or.inr (Or.inl (xsh1 hok (by omega) n2 z)))]
                 exact ⟨rfl, hS, onlyX.rf⟩)
              | (have q : ¬ bR 15 μ := zB_eq0.mp h50
                 have n1 : ¬ hHeld S 2 = 0 := fun z => (show ¬ bE 15 μ from zB_eq0.mp h31) (E1.mpr z)
                 have n2 : ¬ hHeld S 4 = 0 := fun z => (show ¬ bE 17 μ from zB_eq0.mp h39) (E2.mpr z)
                 rw [opSh_b (by omega) (by omega) n1 n2 (Or.inl (xsh1 hok (by omega) n1 (fun z => q (R1.mpr z))))]
                 exact ⟨rfl, hS, onlyX.rf⟩)
              | (have q : bE 17 μ := zB_ne0.mp h39
                 rw [opSh_a (by omega) (by omega) (Or.inr (E2.mp q))]
                 exact ⟨rfl, hS, onlyX.rf⟩)
              | (have q : bE 15 μ := zB_ne0.mp h31
                 rw [opSh_a (by omega) (by omega) (Or.inl (E1.mp q))]
                 exact ⟨rfl, hS, onlyX.rf⟩)
          · refine zb X_shift_s80 rfl ?_
            refine zcallV X_shift_d86 k10_363 (by omega) (x_hasPlaces_4 _ _) rfl rfl rfl (Nat.le_of_ble_eq_true rfl) ?_
            rintro _ μx ⟨rfl, hx⟩
            rw [hx]
            clear hx μx
            refine z_ne X_shift_d89 (tgt := 95) rfl (fun h89 => ?_) (fun h89 => ?_)
            · have g1 := P1.mp (zB_ne0.mp h77)
              have g2 := P2.mp (zB_ne0.mp h89)
              have hall : 0 ≤ n ∧ 0 ≤ i ∧ 0 ≤ j ∧ i ≤ hSize S 2 - n ∧ j ≤ hSize S 4 - n := by
                exact ⟨g1.2.1, g1.1, g2.1, by rw [em]; exact g1.2.2, by rw [ew]; exact g2.2.2⟩
              rw [opSh_d (by omega) (by omega) f1 f2 hsrt hall]
              clear hall
              obtain ⟨N, hN, rfl⟩ := nI_of (Int32.not_lt.mpr g1.2.1)
              obtain ⟨x, hx, rfl⟩ := nI_of (Int32.not_lt.mpr g1.1)
              obtain ⟨y, hy, rfl⟩ := nI_of (Int32.not_lt.mpr g2.1)
              have k1 := (le_sub hx hm hN).mp g1.2.2
              have k2 := (le_sub hy hw hN).mp g2.2.2
              have cN : (nI N).toNatClampNeg = N := nI_clamp hN
              have cx : (nI x).toNatClampNeg = x := nI_clamp hx
              have cy : (nI y).toNatClampNeg = y := nI_clamp hy
              refine zb X_shift_s95 rfl ?_
              refine zcpL X_shift_d110 k10_366 (by omega) (Nat.le_of_ble_eq_true rfl) rfl rfl (nI_pos (by omega)) (nI_pos (by omega)) (nI_pos (by omega)) (by rw [cN, cx]; omega) (by rw [cN, cy]; omega) ?_
              refine zb X_shift_s113 rfl ?_
              refine z_ret X_shift_d115 rfl ?_
              first
                | (have f := fin_shift (s := 2) (p := 4) (a := x) (b := y) (N := N) hS (by omega) (by omega) (by omega)
                   rw [cN, cx, cy]
                   exact ⟨rfl, f.1, f.2⟩)
                | (have q : ¬ bP 17 j n μ := zB_eq0.mp h89
                   rw [opSh_c (by omega) (by omega) f1 f2 hsrt (fun z => q (P2.mpr (And.intro z.2.2.1 (And.intro z.1 (by rw [← ew]; exact z.2.2.2.2)))))]
                   exact ⟨rfl, hS, onlyX.rf⟩)
                | (have q : ¬ bP 15 i n μ := zB_eq0.mp h77
                   rw [opSh_c (by omega) (by omega) f1 f2 hsrt (fun z => q (P1.mpr (And.intro z.2.1 (And.intro z.1 (by rw [← em]; exact z.2.2.2.1)))))]
                   exact ⟨rfl, hS, onlyX.rf⟩)
                | (have q := zB_eq0.mp h63
                   have f1 : hHeld S 2 = 2 := R1.mp (zB_ne0.mp h50)
                   have n2 : ¬ hHeld S 4 = 0 := fun z => (show ¬ bE 17 μ from zB_eq0.mp h39) (E2.mpr z)
                   rw [opSh_b (by omega) (by omega) (by rw [f1]; decide) n2 (by
                     by_cases z : hHeld S 4 = 2
                     · refine Or.inr (Or.inr (fun y => q (And.intro (R2.mpr z) ?_)))
                       exact (show μ.1 17 2 = _ from (xsh2 hS hok (show 4 < 6 by omega) z).1).trans (y.symm.trans (show μ.1 15 2 = _ from (xsh2 hS hok (show 2 < 6 by omega) f1).1).symm)
                     · exact Or.inr (Or.inl (xsh1 hok (by omega) n2 z)))]
                   exact ⟨rfl, hS, onlyX.rf⟩)
                | (have q : ¬ bR 15 μ := zB_eq0.mp h50
                   have n1 : ¬ hHeld S 2 = 0 := fun z => (show ¬ bE 15 μ from zB_eq0.mp h31) (E1.mpr z)
                   have n2 : ¬ hHeld S 4 = 0 := fun z => (show ¬ bE 17 μ from zB_eq0.mp h39) (E2.mpr z)
                   rw [opSh_b (by omega) (by omega) n1 n2 (Or.inl (xsh1 hok (by omega) n1 (fun z => q (R1.mpr z))))]
                   exact ⟨rfl, hS, onlyX.rf⟩)
                | (have q : bE 17 μ := zB_ne0.mp h39
                   rw [opSh_a (by omega) (by omega) (Or.inr (E2.mp q))]
                   exact ⟨rfl, hS, onlyX.rf⟩)
                | (have q : bE 15 μ := zB_ne0.mp h31
                   rw [opSh_a (by omega) (by omega) (Or.inl (E1.mp q))]
                   exact ⟨rfl, hS, onlyX.rf⟩)
            · refine zb X_shift_s92 rfl ?_
              refine z_ret X_shift_d94 rfl ?_
              first
                | (have f := fin_shift (s := 2) (p := 4) (a := x) (b := y) (N := N) hS (by omega) (by omega) (by omega)
                   rw [cN, cx, cy]
                   exact ⟨rfl, f.1, f.2⟩)
                | (have q : ¬ bP 17 j n μ := zB_eq0.mp h89
                   rw [opSh_c (by omega) (by omega) f1 f2 hsrt (fun z => q (P2.mpr (And.intro z.2.2.1 (And.intro z.1 (by rw [← ew]; exact z.2.2.2.2)))))]
                   exact ⟨rfl, hS, onlyX.rf⟩)
                | (have q : ¬ bP 15 i n μ := zB_eq0.mp h77
                   rw [opSh_c (by omega) (by omega) f1 f2 hsrt (fun z => q (P1.mpr (And.intro z.2.1 (And.intro z.1 (by rw [← em]; exact z.2.2.2.1)))))]
                   exact ⟨rfl, hS, onlyX.rf⟩)
                | (have q := zB_eq0.mp h63
                   have f1 : hHeld S 2 = 2 := R1.mp (zB_ne0.mp h50)
                   have n2 : ¬ hHeld S 4 = 0 := fun z => (show ¬ bE 17 μ from zB_eq0.mp h39) (E2.mpr z)
                   rw [opSh_b (by omega) (by omega) (by rw [f1]; decide) n2 (by
                     by_cases z : hHeld S 4 = 2
                     · refine Or.inr (Or.inr (fun y => q (And.intro (R2.mpr z) ?_)))
                       exact (show μ.1 17 2 = _ from (xsh2 hS hok (show 4 < 6 by omega) z).1).trans (y.symm.trans (show μ.1 15 2 = _ from (xsh2 hS hok (show 2 < 6 by omega) f1).1).symm)
                     · exact Or.inr (Or.inl (xsh1 hok (by omega) n2 z)))]
                   exact ⟨rfl, hS, onlyX.rf⟩)
                | (have q : ¬ bR 15 μ := zB_eq0.mp h50
                   have n1 : ¬ hHeld S 2 = 0 := fun z => (show ¬ bE 15 μ from zB_eq0.mp h31) (E1.mpr z)
                   have n2 : ¬ hHeld S 4 = 0 := fun z => (show ¬ bE 17 μ from zB_eq0.mp h39) (E2.mpr z)
                   rw [opSh_b (by omega) (by omega) n1 n2 (Or.inl (xsh1 hok (by omega) n1 (fun z => q (R1.mpr z))))]
                   exact ⟨rfl, hS, onlyX.rf⟩)
                | (have q : bE 17 μ := zB_ne0.mp h39
                   rw [opSh_a (by omega) (by omega) (Or.inr (E2.mp q))]
                   exact ⟨rfl, hS, onlyX.rf⟩)
                | (have q : bE 15 μ := zB_ne0.mp h31
                   rw [opSh_a (by omega) (by omega) (Or.inl (E1.mp q))]
                   exact ⟨rfl, hS, onlyX.rf⟩)
        · refine zb X_shift_s66 rfl ?_
          refine z_ret X_shift_d68 rfl ?_
          first
            | (have f := fin_shift (s := 2) (p := 4) (a := x) (b := y) (N := N) hS (by omega) (by omega) (by omega)
               rw [cN, cx, cy]
               exact ⟨rfl, f.1, f.2⟩)
            | (have q : ¬ bP 17 j n μ := zB_eq0.mp h89
               rw [opSh_c (by omega) (by omega) f1 f2 hsrt (fun z => q (P2.mpr (And.intro z.2.2.1 (And.intro z.1 (by rw [← ew]; exact z.2.2.2.2)))))]
               exact ⟨rfl, hS, onlyX.rf⟩)
            | (have q : ¬ bP 15 i n μ := zB_eq0.mp h77
               rw [opSh_c (by omega) (by omega) f1 f2 hsrt (fun z => q (P1.mpr (And.intro z.2.1 (And.intro z.1 (by rw [← em]; exact z.2.2.2.1)))))]
               exact ⟨rfl, hS, onlyX.rf⟩)
            | (have q := zB_eq0.mp h63
               have f1 : hHeld S 2 = 2 := R1.mp (zB_ne0.mp h50)
               have n2 : ¬ hHeld S 4 = 0 := fun z => (show ¬ bE 17 μ from zB_eq0.mp h39) (E2.mpr z)
               rw [opSh_b (by omega) (by omega) (by rw [f1]; decide) n2 (by
                 by_cases z : hHeld S 4 = 2
                 · refine Or.inr (Or.inr (fun y => q (And.intro (R2.mpr z) ?_)))
                   exact (show μ.1 17 2 = _ from (xsh2 hS hok (show 4 < 6 by omega) z).1).trans (y.symm.trans (show μ.1 15 2 = _ from (xsh2 hS hok (show 2 < 6 by omega) f1).1).symm)
                 · exact Or.inr (Or.inl (xsh1 hok (by omega) n2 z)))]
               exact ⟨rfl, hS, onlyX.rf⟩)
            | (have q : ¬ bR 15 μ := zB_eq0.mp h50
               have n1 : ¬ hHeld S 2 = 0 := fun z => (show ¬ bE 15 μ from zB_eq0.mp h31) (E1.mpr z)
               have n2 : ¬ hHeld S 4 = 0 := fun z => (show ¬ bE 17 μ from zB_eq0.mp h39) (E2.mpr z)
               rw [opSh_b (by omega) (by omega) n1 n2 (Or.inl (xsh1 hok (by omega) n1 (fun z => q (R1.mpr z))))]
               exact ⟨rfl, hS, onlyX.rf⟩)
            | (have q : bE 17 μ := zB_ne0.mp h39
               rw [opSh_a (by omega) (by omega) (Or.inr (E2.mp q))]
               exact ⟨rfl, hS, onlyX.rf⟩)
            | (have q : bE 15 μ := zB_ne0.mp h31
               rw [opSh_a (by omega) (by omega) (Or.inl (E1.mp q))]
               exact ⟨rfl, hS, onlyX.rf⟩)
    · refine zb X_shift_s42 rfl ?_
      refine z_ret X_shift_d44 rfl ?_
      first
        | (have f := fin_shift (s := 2) (p := 4) (a := x) (b := y) (N := N) hS (by omega) (by omega) (by omega)
           rw [cN, cx, cy]
           exact ⟨rfl, f.1, f.2⟩)
        | (have q : ¬ bP 17 j n μ := zB_eq0.mp h89
           rw [opSh_c (by omega) (by omega) f1 f2 hsrt (fun z => q (P2.mpr (And.intro z.2.2.1 (And.intro z.1 (by rw [← ew]; exact z.2.2.2.2)))))]
           exact ⟨rfl, hS, onlyX.rf⟩)
        | (have q : ¬ bP 15 i n μ := zB_eq0.mp h77
           rw [opSh_c (by omega) (by omega) f1 f2 hsrt (fun z => q (P1.mpr (And.intro z.2.1 (And.intro z.1 (by rw [← em]; exact z.2.2.2.1)))))]
           exact ⟨rfl, hS, onlyX.rf⟩)
        | (have q := zB_eq0.mp h63
           have f1 : hHeld S 2 = 2 := R1.mp (zB_ne0.mp h50)
           have n2 : ¬ hHeld S 4 = 0 := fun z => (show ¬ bE 17 μ from zB_eq0.mp h39) (E2.mpr z)
           rw [opSh_b (by omega) (by omega) (by rw [f1]; decide) n2 (by
             by_cases z : hHeld S 4 = 2
             · refine Or.inr (Or.inr (fun y => q (And.intro (R2.mpr z) ?_)))
               exact (show μ.1 17 2 = _ from (xsh2 hS hok (show 4 < 6 by omega) z).1).trans (y.symm.trans (show μ.1 15 2 = _ from (xsh2 hS hok (show 2 < 6 by omega) f1).1).symm)
             · exact Or.inr (Or.inl (xsh1 hok (by omega) n2 z)))]
           exact ⟨rfl, hS, onlyX.rf⟩)
        | (have q : ¬ bR 15 μ := zB_eq0.mp h50
           have n1 : ¬ hHeld S 2 = 0 := fun z => (show ¬ bE 15 μ from zB_eq0.mp h31) (E1.mpr z)
           have n2 : ¬ hHeld S 4 = 0 := fun z => (show ¬ bE 17 μ from zB_eq0.mp h39) (E2.mpr z)
           rw [opSh_b (by omega) (by omega) n1 n2 (Or.inl (xsh1 hok (by omega) n1 (fun z => q (R1.mpr z))))]
           exact ⟨rfl, hS, onlyX.rf⟩)
        | (have q : bE 17 μ := zB_ne0.mp h39
           rw [opSh_a (by omega) (by omega) (Or.inr (E2.mp q))]
           exact ⟨rfl, hS, onlyX.rf⟩)
        | (have q : bE 15 μ := zB_ne0.mp h31
           rw [opSh_a (by omega) (by omega) (Or.inl (E1.mp q))]
           exact ⟨rfl, hS, onlyX.rf⟩)

set_option maxRecDepth 100000 in
set_option maxHeartbeats 4000000 in
theorem xs_shift_2_5 {g : zG} {d : Nat} {S : zS} {μ : zMem} {i j n : Int32} (hd : 2 ≤ d) (hS : xS S μ) (hok : okH S) : zM g d X_shift [.ref 1, .int (nI 2), .int i, .int (nI 5), .int j, .int n] μ (pO xS onlyX (opShift S (nI 2) i (nI 5) j n) μ) := by
  refine zM_of (by decide +kernel) rfl rfl (Nat.le_of_ble_eq_true rfl) rfl ?_
  obtain ⟨ho, h2, hT, hC, hD, hI, hA, hH⟩ := hS
  have hS : xS S μ := ⟨ho, h2, hT, hC, hD, hI, hA, hH⟩
  have hb := ho.b
  have hv := ho.v
  have hB6 := ho.b6
  have hV12 := ho.v12
  have hz : zq sX μ μ := zq.rf
  have E1 := xshE (s := 2) hS hok (by omega)
  have E2 := xshE (s := 5) hS hok (by omega)
  have R1 := xshR (s := 2) hS hok (by omega)
  have R2 := xshR (s := 5) hS hok (by omega)
  refine zb X_shift_s0 rfl ?_
  refine zcallV X_shift_d2 k10_93 (by omega) (x_shelf_2 (by omega)) rfl rfl rfl (Nat.le_of_ble_eq_true rfl) ?_
  rintro _ μx ⟨rfl, hx⟩
  rw [hx]
  clear hx μx
  refine zb X_shift_s5 rfl ?_
  refine zcallV X_shift_d9 k10_93 (by omega) (x_shelf_5 (by omega)) rfl rfl rfl (Nat.le_of_ble_eq_true rfl) ?_
  rintro _ μx ⟨rfl, hx⟩
  rw [hx]
  clear hx μx
  refine zb X_shift_s12 rfl ?_
  refine z_null X_shift_d16 ?_
  refine zb X_shift_s19 rfl ?_
  refine z_nonnull X_shift_d21 (tgt := 26) rfl ?_
  refine zb X_shift_s26 rfl ?_
  refine zcallV X_shift_d28 k10_97 (by omega) (x_isEmpty_2) rfl rfl rfl (Nat.le_of_ble_eq_true rfl) ?_
  rintro _ μx ⟨rfl, hx⟩
  rw [hx]
  clear hx μx
  refine z_ne X_shift_d31 (tgt := 42) rfl (fun h31 => ?_) (fun h31 => ?_)
  · refine zb X_shift_s42 rfl ?_
    refine z_ret X_shift_d44 rfl ?_
    first
      | (have f := fin_shift (s := 2) (p := 5) (a := x) (b := y) (N := N) hS (by omega) (by omega) (by omega)
         rw [cN, cx, cy]
         exact ⟨rfl, f.1, f.2⟩)
      | (have q : ¬ bP 18 j n μ := zB_eq0.mp h89
         rw [opSh_c (by omega) (by omega) f1 f2 hsrt (fun z => q (P2.mpr (And.intro z.2.2.1 (And.intro z.1 (by rw [← ew]; exact z.2.2.2.2)))))]
         exact ⟨rfl, hS, onlyX.rf⟩)
      | (have q : ¬ bP 15 i n μ := zB_eq0.mp h77
         rw [opSh_c (by omega) (by omega) f1 f2 hsrt (fun z => q (P1.mpr (And.intro z.2.1 (And.intro z.1 (by rw [← em]; exact z.2.2.2.1)))))]
         exact ⟨rfl, hS, onlyX.rf⟩)
      | (have q := zB_eq0.mp h63
         have f1 : hHeld S 2 = 2 := R1.mp (zB_ne0.mp h50)
         have n2 : ¬ hHeld S 5 = 0 := fun z => (show ¬ bE 18 μ from zB_eq0.mp h39) (E2.mpr z)
         rw [opSh_b (by omega) (by omega) (by rw [f1]; decide) n2 (by
           by_cases z : hHeld S 5 = 2
           · refine Or.inr (Or.inr (fun y => q (And.intro (R2.mpr z) ?_)))
             exact (show μ.1 18 2 = _ from (xsh2 hS hok (show 5 < 6 by omega) z).1).trans (y.symm.trans (show μ.1 15 2 = _ from (xsh2 hS hok (show 2 < 6 by omega) f1).1).symm)
           · exact Or.inr (Or.inl (xsh1 hok (by omega) n2 z)))]
         exact ⟨rfl, hS, onlyX.rf⟩)
      | (have q : ¬ bR 15 μ := zB_eq0.mp h50
         have n1 : ¬ hHeld S 2 = 0 := fun z => (show ¬ bE 15 μ from zB_eq0.mp h31) (E1.mpr z)
         have n2 : ¬ hHeld S 5 = 0 := fun z => (show ¬ bE 18 μ from zB_eq0.mp h39) (E2.mpr z)
         rw [opSh_b (by omega) (by omega) n1 n2 (Or.inl (xsh1 hok (by omega) n1 (fun z => q (R1.mpr z))))]
         exact ⟨rfl, hS, onlyX.rf⟩)
      | (have q : bE 18 μ := zB_ne0.mp h39
         rw [opSh_a (by omega) (by omega) (Or.inr (E2.mp q))]
         exact ⟨rfl, hS, onlyX.rf⟩)
      | (have q : bE 15 μ := zB_ne0.mp h31
         rw [opSh_a (by omega) (by omega) (Or.inl (E1.mp q))]
         exact ⟨rfl, hS, onlyX.rf⟩)
  · refine zb X_shift_s34 rfl ?_
    refine zcallV X_shift_d36 k10_97 (by omega) (x_isEmpty_5) rfl rfl rfl (Nat.le_of_ble_eq_true rfl) ?_
    rintro _ μx ⟨rfl, hx⟩
    rw [hx]
    clear hx μx
    refine z_eq X_shift_d39 (tgt := 45) rfl (fun h39 => ?_) (fun h39 => ?_)
    · refine zb X_shift_s45 rfl ?_
      refine zcallV X_shift_d47 k10_357 (by omega) (x_isRow_2) rfl rfl rfl (Nat.le_of_ble_eq_true rfl) ?_
      rintro _ μx ⟨rfl, hx⟩
      rw [hx]
      clear hx μx
      refine z_eq X_shift_d50 (tgt := 66) rfl (fun h50 => ?_) (fun h50 => ?_)
      · refine zb X_shift_s66 rfl ?_
        refine z_ret X_shift_d68 rfl ?_
        first
          | (have f := fin_shift (s := 2) (p := 5) (a := x) (b := y) (N := N) hS (by omega) (by omega) (by omega)
             rw [cN, cx, cy]
             exact ⟨rfl, f.1, f.2⟩)
          | (have q : ¬ bP 18 j n μ := zB_eq0.mp h89
             rw [opSh_c (by omega) (by omega) f1 f2 hsrt (fun z => q (P2.mpr (And.intro z.2.2.1 (And.intro z.1 (by rw [← ew]; exact z.2.2.2.2)))))]
             exact ⟨rfl, hS, onlyX.rf⟩)
          | (have q : ¬ bP 15 i n μ := zB_eq0.mp h77
             rw [opSh_c (by omega) (by omega) f1 f2 hsrt (fun z => q (P1.mpr (And.intro z.2.1 (And.intro z.1 (by rw [← em]; exact z.2.2.2.1)))))]
             exact ⟨rfl, hS, onlyX.rf⟩)
          | (have q := zB_eq0.mp h63
             have f1 : hHeld S 2 = 2 := R1.mp (zB_ne0.mp h50)
             have n2 : ¬ hHeld S 5 = 0 := fun z => (show ¬ bE 18 μ from zB_eq0.mp h39) (E2.mpr z)
             rw [opSh_b (by omega) (by omega) (by rw [f1]; decide) n2 (by
               by_cases z : hHeld S 5 = 2
               · refine Or.inr (Or.inr (fun y => q (And.intro (R2.mpr z) ?_)))
                 exact (show μ.1 18 2 = _ from (xsh2 hS hok (show 5 < 6 by omega) z).1).trans (y.symm.trans (show μ.1 15 2 = _ from (xsh2 hS hok (show 2 < 6 by omega) f1).1).symm)
               · exact Or.inr (Or.inl (xsh1 hok (by omega) n2 z)))]
             exact ⟨rfl, hS, onlyX.rf⟩)
          | (have q : ¬ bR 15 μ := zB_eq0.mp h50
             have n1 : ¬ hHeld S 2 = 0 := fun z => (show ¬ bE 15 μ from zB_eq0.mp h31) (E1.mpr z)
             have n2 : ¬ hHeld S 5 = 0 := fun z => (show ¬ bE 18 μ from zB_eq0.mp h39) (E2.mpr z)
             rw [opSh_b (by omega) (by omega) n1 n2 (Or.inl (xsh1 hok (by omega) n1 (fun z => q (R1.mpr z))))]
             exact ⟨rfl, hS, onlyX.rf⟩)
          | (have q : bE 18 μ := zB_ne0.mp h39
             rw [opSh_a (by omega) (by omega) (Or.inr (E2.mp q))]
             exact ⟨rfl, hS, onlyX.rf⟩)
          | (have q : bE 15 μ := zB_ne0.mp h31
             rw [opSh_a (by omega) (by omega) (Or.inl (E1.mp q))]
             exact ⟨rfl, hS, onlyX.rf⟩)
      · refine zb X_shift_s53 rfl ?_
        refine zcallV X_shift_d60 k10_101 (by omega) (x_isRowOf_5 _ (by omega)) rfl rfl rfl (Nat.le_of_ble_eq_true rfl) ?_
        rintro _ μx ⟨rfl, hx⟩
        rw [hx]
        clear hx μx
        refine z_ne X_shift_d63 (tgt := 69) rfl (fun h63 => ?_) (fun h63 => ?_)
        · have f1 : hHeld S 2 = 2 := R1.mp (zB_ne0.mp h50)
          have f2 : hHeld S 5 = 2 := R2.mp (zB_ne0.mp h63).1
          obtain ⟨a1, a2, m, hm, em⟩ := xsh2 hS hok (show 2 < 6 by omega) f1
          obtain ⟨b1, b2, w, hw, ew⟩ := xsh2 hS hok (show 5 < 6 by omega) f2
          have hsrt : hSort S 2 = hSort S 5 := a1.symm.trans ((zB_ne0.mp h63).2.symm.trans b1)
          have P1 := bPn (i := i) (n := n) hm (a2.trans em)
          have P2 := bPn (i := j) (n := n) hw (b2.trans ew)
          refine zb X_shift_s69 rfl ?_
          refine zcallV X_shift_d74 k10_363 (by omega) (x_hasPlaces_2 _ _) rfl rfl rfl (Nat.le_of_ble_eq_true rfl) ?_
          rintro _ μx ⟨rfl, hx⟩
          rw [hx]
          clear hx μx
          refine z_eq X_shift_d77 (tgt := 92) rfl (fun h77 => ?_) (fun h77 => ?_)
          · refine zb X_shift_s92 rfl ?_
            refine z_ret X_shift_d94 rfl ?_
            first
              | (have f := fin_shift (s := 2) (p := 5) (a := x) (b := y) (N := N) hS (by omega) (by omega) (by omega)
                 rw [cN, cx, cy]
                 exact ⟨rfl, f.1, f.2⟩)
              | (have q : ¬ bP 18 j n μ := zB_eq0.mp h89
                 rw [opSh_c (by omega) (by omega) f1 f2 hsrt (fun z => q (P2.mpr (And.intro z.2.2.1 (And.intro z.1 (by rw [← ew]; exact z.2.2.2.2)))))]
                 exact ⟨rfl, hS, onlyX.rf⟩)
              | (have q : ¬ bP 15 i n μ := zB_eq0.mp h77
                 rw [opSh_c (by omega) (by omega) f1 f2 hsrt (fun z => q (P1.mpr (And.intro z.2.1 (And.intro z.1 (by rw [← em]; exact z.2.2.2.1)))))]
                 exact ⟨rfl, hS, onlyX.rf⟩)
              | (have q := zB_eq0.mp h63
                 have f1 : hHeld S 2 = 2 := R1.mp (zB_ne0.mp h50)
                 have n2 : ¬ hHeld S 5 = 0 := fun z => (show ¬ bE 18 μ from zB_eq0.mp h39) (E2.mpr z)
                 rw [opSh_b (by omega) (by omega) (by rw [f1]; decide) n2 (by
                   by_cases z : hHeld S 5 = 2
                   · refine Or.inr (Or.inr (fun y => q (And.intro (R2.mpr z) ?_)))
                     exact (show μ.1 18 2 = _ from (xsh2 hS hok (show 5 < 6 by omega) z).1).trans (y.symm.trans (show μ.1 15 2 = _ from (xsh2 hS hok (show 2 < 6 by omega) f1).1).symm)
                   · exact Or.inr (Or.inl (xsh1 hok (by omega) n2 z)))]
                 exact ⟨rfl, hS, onlyX.rf⟩)
              | (have q : ¬ bR 15 μ := zB_eq0.mp h50
                 have n1 : ¬ hHeld S 2 = 0 := fun z => (show ¬ bE 15 μ from zB_eq0.mp h31) (E1.mpr z)
                 have n2 : ¬ hHeld S 5 = 0 := fun z => (show ¬ bE 18 μ from zB_eq0.mp h39) (E2.mpr z)
                 rw [opSh_b (by omega) (by omega) n1 n2 (Or.inl (xsh1 hok (by omega) n1 (fun z => q (R1.mpr z))))]
                 exact ⟨rfl, hS, onlyX.rf⟩)
              | (have q : bE 18 μ := zB_ne0.mp h39
                 rw [opSh_a (by omega) (by omega) (Or.inr (E2.mp q))]
                 exact ⟨rfl, hS, onlyX.rf⟩)
              | (have q : bE 15 μ := zB_ne0.mp h31
                 rw [opSh_a (by omega) (by omega) (Or.inl (E1.mp q))]
                 exact ⟨rfl, hS, onlyX.rf⟩)
          · refine zb X_shift_s80 rfl ?_
            refine zcallV X_shift_d86 k10_363 (by omega) (x_hasPlaces_5 _ _) rfl rfl rfl (Nat.le_of_ble_eq_true rfl) ?_
            rintro _ μx ⟨rfl, hx⟩
            rw [hx]
            clear hx μx
            refine z_ne X_shift_d89 (tgt := 95) rfl (fun h89 => ?_) (fun h89 => ?_)
            · have g1 := P1.mp (zB_ne0.mp h77)
              have g2 := P2.mp (zB_ne0.mp h89)
              have hall : 0 ≤ n ∧ 0 ≤ i ∧ 0 ≤ j ∧ i ≤ hSize S 2 - n ∧ j ≤ hSize S 5 - n := by
                exact ⟨g1.2.1, g1.1, g2.1, by rw [em]; exact g1.2.2, by rw [ew]; exact g2.2.2⟩
              rw [opSh_d (by omega) (by omega) f1 f2 hsrt hall]
              clear hall
              obtain ⟨N, hN, rfl⟩ := nI_of (Int32.not_lt.mpr g1.2.1)
              obtain ⟨x, hx, rfl⟩ := nI_of (Int32.not_lt.mpr g1.1)
              obtain ⟨y, hy, rfl⟩ := nI_of (Int32.not_lt.mpr g2.1)
              have k1 := (le_sub hx hm hN).mp g1.2.2
              have k2 := (le_sub hy hw hN).mp g2.2.2
              have cN : (nI N).toNatClampNeg = N := nI_clamp hN
              have cx : (nI x).toNatClampNeg = x := nI_clamp hx
              have cy : (nI y).toNatClampNeg = y := nI_clamp hy
              refine zb X_shift_s95 rfl ?_
              refine zcpL X_shift_d110 k10_366 (by omega) (Nat.le_of_ble_eq_true rfl) rfl rfl (nI_pos (by omega)) (nI_pos (by omega)) (nI_pos (by omega)) (by rw [cN, cx]; omega) (by rw [cN, cy]; omega) ?_
              refine zb X_shift_s113 rfl ?_
              refine z_ret X_shift_d115 rfl ?_
              first
                | (have f := fin_shift (s := 2) (p := 5) (a := x) (b := y) (N := N) hS (by omega) (by omega) (by omega)
                   rw [cN, cx, cy]
                   exact ⟨rfl, f.1, f.2⟩)
                | (have q : ¬ bP 18 j n μ := zB_eq0.mp h89
                   rw [opSh_c (by omega) (by omega) f1 f2 hsrt (fun z => q (P2.mpr (And.intro z.2.2.1 (And.intro z.1 (by rw [← ew]; exact z.2.2.2.2)))))]
                   exact ⟨rfl, hS, onlyX.rf⟩)
                | (have q : ¬ bP 15 i n μ := zB_eq0.mp h77
                   rw [opSh_c (by omega) (by omega) f1 f2 hsrt (fun z => q (P1.mpr (And.intro z.2.1 (And.intro z.1 (by rw [← em]; exact z.2.2.2.1)))))]
                   exact ⟨rfl, hS, onlyX.rf⟩)
                | (have q := zB_eq0.mp h63
                   have f1 : hHeld S 2 = 2 := R1.mp (zB_ne0.mp h50)
                   have n2 : ¬ hHeld S 5 = 0 := fun z => (show ¬ bE 18 μ from zB_eq0.mp h39) (E2.mpr z)
                   rw [opSh_b (by omega) (by omega) (by rw [f1]; decide) n2 (by
                     by_cases z : hHeld S 5 = 2
                     · refine Or.inr (Or.inr (fun y => q (And.intro (R2.mpr z) ?_)))
                       exact (show μ.1 18 2 = _ from (xsh2 hS hok (show 5 < 6 by omega) z).1).trans (y.symm.trans (show μ.1 15 2 = _ from (xsh2 hS hok (show 2 < 6 by omega) f1).1).symm)
                     · exact Or.inr (Or.inl (xsh1 hok (by omega) n2 z)))]
                   exact ⟨rfl, hS, onlyX.rf⟩)
                | (have q : ¬ bR 15 μ := zB_eq0.mp h50
                   have n1 : ¬ hHeld S 2 = 0 := fun z => (show ¬ bE 15 μ from zB_eq0.mp h31) (E1.mpr z)
                   have n2 : ¬ hHeld S 5 = 0 := fun z => (show ¬ bE 18 μ from zB_eq0.mp h39) (E2.mpr z)
                   rw [opSh_b (by omega) (by omega) n1 n2 (Or.inl (xsh1 hok (by omega) n1 (fun z => q (R1.mpr z))))]
                   exact ⟨rfl, hS, onlyX.rf⟩)
                | (have q : bE 18 μ := zB_ne0.mp h39
                   rw [opSh_a (by omega) (by omega) (Or.inr (E2.mp q))]
                   exact ⟨rfl, hS, onlyX.rf⟩)
                | (have q : bE 15 μ := zB_ne0.mp h31
                   rw [opSh_a (by omega) (by omega) (Or.inl (E1.mp q))]
                   exact ⟨rfl, hS, onlyX.rf⟩)
            · refine zb X_shift_s92 rfl ?_
              refine z_ret X_shift_d94 rfl ?_
              first
                | (have f := fin_shift (s := 2) (p := 5) (a := x) (b := y) (N := N) hS (by omega) (by omega) (by omega)
                   rw [cN, cx, cy]
                   exact ⟨rfl, f.1, f.2⟩)
                | (have q : ¬ bP 18 j n μ := zB_eq0.mp h89
                   rw [opSh_c (by omega) (by omega) f1 f2 hsrt (fun z => q (P2.mpr (And.intro z.2.2.1 (And.intro z.1 (by rw [← ew]; exact z.2.2.2.2)))))]
                   exact ⟨rfl, hS, onlyX.rf⟩)
                | (have q : ¬ bP 15 i n μ := zB_eq0.mp h77
                   rw [opSh_c (by omega) (by omega) f1 f2 hsrt (fun z => q (P1.mpr (And.intro z.2.1 (And.intro z.1 (by rw [← em]; exact z.2.2.2.1)))))]
                   exact ⟨rfl, hS, onlyX.rf⟩)
                | (have q := zB_eq0.mp h63
                   have f1 : hHeld S 2 = 2 := R1.mp (zB_ne0.mp h50)
                   have n2 : ¬ hHeld S 5 = 0 := fun z => (show ¬ bE 18 μ from zB_eq0.mp h39) (E2.mpr z)
                   rw [opSh_b (by omega) (by omega) (by rw [f1]; decide) n2 (by
                     by_cases z : hHeld S 5 = 2
                     · refine Or.inr (Or.inr (fun y => q (And.intro (R2.mpr z) ?_)))
                       exact (show μ.1 18 2 = _ from (xsh2 hS hok (show 5 < 6 by omega) z).1).trans (y.symm.trans (show μ.1 15 2 = _ from (xsh2 hS hok (show 2 < 6 by omega) f1).1).symm)
                     · exact Or.inr (Or.inl (xsh1 hok (by omega) n2 z)))]
                   exact ⟨rfl, hS, onlyX.rf⟩)
                | (have q : ¬ bR 15 μ := zB_eq0.mp h50
                   have n1 : ¬ hHeld S 2 = 0 := fun z => (show ¬ bE 15 μ from zB_eq0.mp h31) (E1.mpr z)
                   have n2 : ¬ hHeld S 5 = 0 := fun z => (show ¬ bE 18 μ from zB_eq0.mp h39) (E2.mpr z)
                   rw [opSh_b (by omega) (by omega) n1 n2 (Or.inl (xsh1 hok (by omega) n1 (fun z => q (R1.mpr z))))]
                   exact ⟨rfl, hS, onlyX.rf⟩)
                | (have q : bE 18 μ := zB_ne0.mp h39
                   rw [opSh_a (by omega) (by omega) (Or.inr (E2.mp q))]
                   exact ⟨rfl, hS, onlyX.rf⟩)
                | (have q : bE 15 μ := zB_ne0.mp h31
                   rw [opSh_a (by omega) (by omega) (Or.inl (E1.mp q))]
                   exact ⟨rfl, hS, onlyX.rf⟩)
        · refine zb X_shift_s66 rfl ?_
          refine z_ret X_shift_d68 rfl ?_
          first
            | (have f := fin_shift (s := 2) (p := 5) (a := x) (b := y) (N := N) hS (by omega) (by omega) (by omega)
               rw [cN, cx, cy]
               exact ⟨rfl, f.1, f.2⟩)
            | (have q : ¬ bP 18 j n μ := zB_eq0.mp h89
               rw [opSh_c (by omega) (by omega) f1 f2 hsrt (fun z => q (P2.mpr (And.intro z.2.2.1 (And.intro z.1 (by rw [← ew]; exact z.2.2.2.2)))))]
               exact ⟨rfl, hS, onlyX.rf⟩)
            | (have q : ¬ bP 15 i n μ := zB_eq0.mp h77
               rw [opSh_c (by omega) (by omega) f1 f2 hsrt (fun z => q (P1.mpr (And.intro z.2.1 (And.intro z.1 (by rw [← em]; exact z.2.2.2.1)))))]
               exact ⟨rfl, hS, onlyX.rf⟩)
            | (have q := zB_eq0.mp h63
               have f1 : hHeld S 2 = 2 := R1.mp (zB_ne0.mp h50)
               have n2 : ¬ hHeld S 5 = 0 := fun z => (show ¬ bE 18 μ from zB_eq0.mp h39) (E2.mpr z)
               rw [opSh_b (by omega) (by omega) (by rw [f1]; decide) n2 (by
                 by_cases z : hHeld S 5 = 2
                 · refine Or.inr (Or.inr (fun y => q (And.intro (R2.mpr z) ?_)))
                   exact (show μ.1 18 2 = _ from (xsh2 hS hok (show 5 < 6 by omega) z).1).trans (y.symm.trans (show μ.1 15 2 = _ from (xsh2 hS hok (show 2 < 6 by omega) f1).1).symm)
                 · exact Or.inr (Or.inl (xsh1 hok (by omega) n2 z)))]
               exact ⟨rfl, hS, onlyX.rf⟩)
            | (have q : ¬ bR 15 μ := zB_eq0.mp h50
               have n1 : ¬ hHeld S 2 = 0 := fun z => (show ¬ bE 15 μ from zB_eq0.mp h31) (E1.mpr z)
               have n2 : ¬ hHeld S 5 = 0 := fun z => (show ¬ bE 18 μ from zB_eq0.mp h39) (E2.mpr z)
               rw [opSh_b (by omega) (by omega) n1 n2 (Or.inl (xsh1 hok (by omega) n1 (fun z => q (R1.mpr z))))]
               exact ⟨rfl, hS, onlyX.rf⟩)
            | (have q : bE 18 μ := zB_ne0.mp h39
               rw [opSh_a (by omega) (by omega) (Or.inr (E2.mp q))]
               exact ⟨rfl, hS, onlyX.rf⟩)
            | (have q : bE 15 μ := zB_ne0.mp h31
               rw [opSh_a (by omega) (by omega) (Or.inl (E1.mp q))]
               exact ⟨rfl, hS, onlyX.rf⟩)
    · refine zb X_shift_s42 rfl ?_
      refine z_ret X_shift_d44 rfl ?_
      first
        | (have f := fin_shift (s := 2) (p := 5) (a := x) (b := y) (N := N) hS (by omega) (by omega) (by omega)
           rw [cN, cx, cy]
           exact ⟨rfl, f.1, f.2⟩)
        | (have q : ¬ bP 18 j n μ := zB_eq0.mp h89
           rw [opSh_c (by omega) (by omega) f1 f2 hsrt (fun z => q (P2.mpr (And.intro z.2.2.1 (And.intro z.1 (by rw [← ew]; exact z.2.2.2.2)))))]
           exact ⟨rfl, hS, onlyX.rf⟩)
        | (have q : ¬ bP 15 i n μ := zB_eq0.mp h77
           rw [opSh_c (by omega) (by omega) f1 f2 hsrt (fun z => q (P1.mpr (And.intro z.2.1 (And.intro z.1 (by rw [← em]; exact z.2.2.2.1)))))]
           exact ⟨rfl, hS, onlyX.rf⟩)
        | (have q := zB_eq0.mp h63
           have f1 : hHeld S 2 = 2 := R1.mp (zB_ne0.mp h50)
           have n2 : ¬ hHeld S 5 = 0 := fun z => (show ¬ bE 18 μ from zB_eq0.mp h39) (E2.mpr z)
           rw [opSh_b (by omega) (by omega) (by rw [f1]; decide) n2 (by
             by_cases z : hHeld S 5 = 2
             · refine Or.inr (Or.inr (fun y => q (And.intro (R2.mpr z) ?_)))
               exact (show μ.1 18 2 = _ from (xsh2 hS hok (show 5 < 6 by omega) z).1).trans (y.symm.trans (show μ.1 15 2 = _ from (xsh2 hS hok (show 2 < 6 by omega) f1).1).symm)
             · exact Or.inr (Or.inl (xsh1 hok (by omega) n2 z)))]
           exact ⟨rfl, hS, onlyX.rf⟩)
        | (have q : ¬ bR 15 μ := zB_eq0.mp h50
           have n1 : ¬ hHeld S 2 = 0 := fun z => (show ¬ bE 15 μ from zB_eq0.mp h31) (E1.mpr z)
           have n2 : ¬ hHeld S 5 = 0 := fun z => (show ¬ bE 18 μ from zB_eq0.mp h39) (E2.mpr z)
           rw [opSh_b (by omega) (by omega) n1 n2 (Or.inl (xsh1 hok (by omega) n1 (fun z => q (R1.mpr z))))]
           exact ⟨rfl, hS, onlyX.rf⟩)
        | (have q : bE 18 μ := zB_ne0.mp h39
           rw [opSh_a (by omega) (by omega) (Or.inr (E2.mp q))]
           exact ⟨rfl, hS, onlyX.rf⟩)
        | (have q : bE 15 μ := zB_ne0.mp h31
           rw [opSh_a (by omega) (by omega) (Or.inl (E1.mp q))]
           exact ⟨rfl, hS, onlyX.rf⟩)

set_option maxRecDepth 100000 in
set_option maxHeartbeats 4000000 in
theorem xs_shift_3_0 {g : zG} {d : Nat} {S : zS} {μ : zMem} {i j n : Int32} (hd : 2 ≤ d) (hS : xS S μ) (hok : okH S) : zM g d X_shift [.ref 1, .int (nI 3), .int i, .int (nI 0), .int j, .int n] μ (pO xS onlyX (opShift S (nI 3) i (nI 0) j n) μ) := by
  refine zM_of (by decide +kernel) rfl rfl (Nat.le_of_ble_eq_true rfl) rfl ?_
  obtain ⟨ho, h2, hT, hC, hD, hI, hA, hH⟩ := hS
  have hS : xS S μ := ⟨ho, h2, hT, hC, hD, hI, hA, hH⟩
  have hb := ho.b
  have hv := ho.v
  have hB6 := ho.b6
  have hV12 := ho.v12
  have hz : zq sX μ μ := zq.rf
  have E1 := xshE (s := 3) hS hok (by omega)
  have E2 := xshE (s := 0) hS hok (by omega)
  have R1 := xshR (s := 3) hS hok (by omega)
  have R2 := xshR (s := 0) hS hok (by omega)
  refine zb X_shift_s0 rfl ?_
  refine zcallV X_shift_d2 k10_93 (by omega) (x_shelf_3 (by omega)) rfl rfl rfl (Nat.le_of_ble_eq_true rfl) ?_
  rintro _ μx ⟨rfl, hx⟩
  rw [hx]
  clear hx μx
  refine zb X_shift_s5 rfl ?_
  refine zcallV X_shift_d9 k10_93 (by omega) (x_shelf_0 (by omega)) rfl rfl rfl (Nat.le_of_ble_eq_true rfl) ?_
  rintro _ μx ⟨rfl, hx⟩
  rw [hx]
  clear hx μx
  refine zb X_shift_s12 rfl ?_
  refine z_null X_shift_d16 ?_
  refine zb X_shift_s19 rfl ?_
  refine z_nonnull X_shift_d21 (tgt := 26) rfl ?_
  refine zb X_shift_s26 rfl ?_
  refine zcallV X_shift_d28 k10_97 (by omega) (x_isEmpty_3) rfl rfl rfl (Nat.le_of_ble_eq_true rfl) ?_
  rintro _ μx ⟨rfl, hx⟩
  rw [hx]
  clear hx μx
  refine z_ne X_shift_d31 (tgt := 42) rfl (fun h31 => ?_) (fun h31 => ?_)
  · refine zb X_shift_s42 rfl ?_
    refine z_ret X_shift_d44 rfl ?_
    first
      | (have f := fin_shift (s := 3) (p := 0) (a := x) (b := y) (N := N) hS (by omega) (by omega) (by omega)
         rw [cN, cx, cy]
         exact ⟨rfl, f.1, f.2⟩)
      | (have q : ¬ bP 13 j n μ := zB_eq0.mp h89
         rw [opSh_c (by omega) (by omega) f1 f2 hsrt (fun z => q (P2.mpr (And.intro z.2.2.1 (And.intro z.1 (by rw [← ew]; exact z.2.2.2.2)))))]
         exact ⟨rfl, hS, onlyX.rf⟩)
      | (have q : ¬ bP 16 i n μ := zB_eq0.mp h77
         rw [opSh_c (by omega) (by omega) f1 f2 hsrt (fun z => q (P1.mpr (And.intro z.2.1 (And.intro z.1 (by rw [← em]; exact z.2.2.2.1)))))]
         exact ⟨rfl, hS, onlyX.rf⟩)
      | (have q := zB_eq0.mp h63
         have f1 : hHeld S 3 = 2 := R1.mp (zB_ne0.mp h50)
         have n2 : ¬ hHeld S 0 = 0 := fun z => (show ¬ bE 13 μ from zB_eq0.mp h39) (E2.mpr z)
         rw [opSh_b (by omega) (by omega) (by rw [f1]; decide) n2 (by
           by_cases z : hHeld S 0 = 2
           · refine Or.inr (Or.inr (fun y => q (And.intro (R2.mpr z) ?_)))
             exact (show μ.1 13 2 = _ from (xsh2 hS hok (show 0 < 6 by omega) z).1).trans (y.symm.trans (show μ.1 16 2 = _ from (xsh2 hS hok (show 3 < 6 by omega) f1).1).symm)
           · exact Or.inr (Or.inl (xsh1 hok (by omega) n2 z)))]
         exact ⟨rfl, hS, onlyX.rf⟩)
      | (have q : ¬ bR 16 μ := zB_eq0.mp h50
         have n1 : ¬ hHeld S 3 = 0 := fun z => (show ¬ bE 16 μ from zB_eq0.mp h31) (E1.mpr z)
         have n2 : ¬ hHeld S 0 = 0 := fun z => (show ¬ bE 13 μ from zB_eq0.mp h39) (E2.mpr z)
         rw [opSh_b (by omega) (by omega) n1 n2 (Or.inl (xsh1 hok (by omega) n1 (fun z => q (R1.mpr z))))]
         exact ⟨rfl, hS, onlyX.rf⟩)
      | (have q : bE 13 μ := zB_ne0.mp h39
         rw [opSh_a (by omega) (by omega) (Or.inr (E2.mp q))]
         exact ⟨rfl, hS, onlyX.rf⟩)
      | (have q : bE 16 μ := zB_ne0.mp h31
         rw [opSh_a (by omega) (by omega) (Or.inl (E1.mp q))]
         exact ⟨rfl, hS, onlyX.rf⟩)
  · refine zb X_shift_s34 rfl ?_
    refine zcallV X_shift_d36 k10_97 (by omega) (x_isEmpty_0) rfl rfl rfl (Nat.le_of_ble_eq_true rfl) ?_
    rintro _ μx ⟨rfl, hx⟩
    rw [hx]
    clear hx μx
    refine z_eq X_shift_d39 (tgt := 45) rfl (fun h39 => ?_) (fun h39 => ?_)
    · refine zb X_shift_s45 rfl ?_
      refine zcallV X_shift_d47 k10_357 (by omega) (x_isRow_3) rfl rfl rfl (Nat.le_of_ble_eq_true rfl) ?_
      rintro _ μx ⟨rfl, hx⟩
      rw [hx]
      clear hx μx
      refine z_eq X_shift_d50 (tgt := 66) rfl (fun h50 => ?_) (fun h50 => ?_)
      · refine zb X_shift_s66 rfl ?_
        refine z_ret X_shift_d68 rfl ?_
        first
          | (have f := fin_shift (s := 3) (p := 0) (a := x) (b := y) (N := N) hS (by omega) (by omega) (by omega)
             rw [cN, cx, cy]
             exact ⟨rfl, f.1, f.2⟩)
          | (have q : ¬ bP 13 j n μ := zB_eq0.mp h89
             rw [opSh_c (by omega) (by omega) f1 f2 hsrt (fun z => q (P2.mpr (And.intro z.2.2.1 (And.intro z.1 (by rw [← ew]; exact z.2.2.2.2)))))]
             exact ⟨rfl, hS, onlyX.rf⟩)
          | (have q : ¬ bP 16 i n μ := zB_eq0.mp h77
             rw [opSh_c (by omega) (by omega) f1 f2 hsrt (fun z => q (P1.mpr (And.intro z.2.1 (And.intro z.1 (by rw [← em]; exact z.2.2.2.1)))))]
             exact ⟨rfl, hS, onlyX.rf⟩)
          | (have q := zB_eq0.mp h63
             have f1 : hHeld S 3 = 2 := R1.mp (zB_ne0.mp h50)
             have n2 : ¬ hHeld S 0 = 0 := fun z => (show ¬ bE 13 μ from zB_eq0.mp h39) (E2.mpr z)
             rw [opSh_b (by omega) (by omega) (by rw [f1]; decide) n2 (by
               by_cases z : hHeld S 0 = 2
               · refine Or.inr (Or.inr (fun y => q (And.intro (R2.mpr z) ?_)))
                 exact (show μ.1 13 2 = _ from (xsh2 hS hok (show 0 < 6 by omega) z).1).trans (y.symm.trans (show μ.1 16 2 = _ from (xsh2 hS hok (show 3 < 6 by omega) f1).1).symm)
               · exact Or.inr (Or.inl (xsh1 hok (by omega) n2 z)))]
             exact ⟨rfl, hS, onlyX.rf⟩)
          | (have q : ¬ bR 16 μ := zB_eq0.mp h50
             have n1 : ¬ hHeld S 3 = 0 := fun z => (show ¬ bE 16 μ from zB_eq0.mp h31) (E1.mpr z)
             have n2 : ¬ hHeld S 0 = 0 := fun z => (show ¬ bE 13 μ from zB_eq0.mp h39) (E2.mpr z)
             rw [opSh_b (by omega) (by omega) n1 n2 (Or.inl (xsh1 hok (by omega) n1 (fun z => q (R1.mpr z))))]
             exact ⟨rfl, hS, onlyX.rf⟩)
          | (have q : bE 13 μ := zB_ne0.mp h39
             rw [opSh_a (by omega) (by omega) (Or.inr (E2.mp q))]
             exact ⟨rfl, hS, onlyX.rf⟩)
          | (have q : bE 16 μ := zB_ne0.mp h31
             rw [opSh_a (by omega) (by omega) (Or.inl (E1.mp q))]
             exact ⟨rfl, hS, onlyX.rf⟩)
      · refine zb X_shift_s53 rfl ?_
        refine zcallV X_shift_d60 k10_101 (by omega) (x_isRowOf_0 _ (by omega)) rfl rfl rfl (Nat.le_of_ble_eq_true rfl) ?_
        rintro _ μx ⟨rfl, hx⟩
        rw [hx]
        clear hx μx
        refine z_ne X_shift_d63 (tgt := 69) rfl (fun h63 => ?_) (fun h63 => ?_)
        · have f1 : hHeld S 3 = 2 := R1.mp (zB_ne0.mp h50)
          have f2 : hHeld S 0 = 2 := R2.mp (zB_ne0.mp h63).1
          obtain ⟨a1, a2, m, hm, em⟩ := xsh2 hS hok (show 3 < 6 by omega) f1
          obtain ⟨b1, b2, w, hw, ew⟩ := xsh2 hS hok (show 0 < 6 by omega) f2
          have hsrt : hSort S 3 = hSort S 0 := a1.symm.trans ((zB_ne0.mp h63).2.symm.trans b1)
          have P1 := bPn (i := i) (n := n) hm (a2.trans em)
          have P2 := bPn (i := j) (n := n) hw (b2.trans ew)
          refine zb X_shift_s69 rfl ?_
          refine zcallV X_shift_d74 k10_363 (by omega) (x_hasPlaces_3 _ _) rfl rfl rfl (Nat.le_of_ble_eq_true rfl) ?_
          rintro _ μx ⟨rfl, hx⟩
          rw [hx]
          clear hx μx
          refine z_eq X_shift_d77 (tgt := 92) rfl (fun h77 => ?_) (fun h77 => ?_)
          · refine zb X_shift_s92 rfl ?_
            refine z_ret X_shift_d94 rfl ?_
            first
              | (have f := fin_shift (s := 3) (p := 0) (a := x) (b := y) (N := N) hS (by omega) (by omega) (by omega)
                 rw [cN, cx, cy]
                 exact ⟨rfl, f.1, f.2⟩)
              | (have q : ¬ bP 13 j n μ := zB_eq0.mp h89
                 rw [opSh_c (by omega) (by omega) f1 f2 hsrt (fun z => q (P2.mpr (And.intro z.2.2.1 (And.intro z.1 (by rw [← ew]; exact z.2.2.2.2)))))]
                 exact ⟨rfl, hS, onlyX.rf⟩)
              | (have q : ¬ bP 16 i n μ := zB_eq0.mp h77
                 rw [opSh_c (by omega) (by omega) f1 f2 hsrt (fun z => q (P1.mpr (And.intro z.2.1 (And.intro z.1 (by rw [← em]; exact z.2.2.2.1)))))]
                 exact ⟨rfl, hS, onlyX.rf⟩)
              | (have q := zB_eq0.mp h63
                 have f1 : hHeld S 3 = 2 := R1.mp (zB_ne0.mp h50)
                 have n2 : ¬ hHeld S 0 = 0 := fun z => (show ¬ bE 13 μ from zB_eq0.mp h39) (E2.mpr z)
                 rw [opSh_b (by omega) (by omega) (by rw [f1]; decide) n2 (by
                   by_cases z : hHeld S 0 = 2
                   · refine Or.inr (Or.inr (fun y => q (And.intro (R2.mpr z) ?_)))
                     exact (show μ.1 13 2 = _ from (xsh2 hS hok (show 0 < 6 by omega) z).1).trans (y.symm.trans (show μ.1 16 2 = _ from (xsh2 hS hok (show 3 < 6 by omega) f1).1).symm)
                   · exact Or.inr (Or.inl (xsh1 hok (by omega) n2 z)))]
                 exact ⟨rfl, hS, onlyX.rf⟩)
              | (have q : ¬ bR 16 μ := zB_eq0.mp h50
                 have n1 : ¬ hHeld S 3 = 0 := fun z => (show ¬ bE 16 μ from zB_eq0.mp h31) (E1.mpr z)
                 have n2 : ¬ hHeld S 0 = 0 := fun z => (show ¬ bE 13 μ from zB_eq0.mp h39) (E2.mpr z)
                 rw [opSh_b (by omega) (by omega) n1 n2 (Or.inl (xsh1 hok (by omega) n1 (fun z => q (R1.mpr z))))]
                 exact ⟨rfl, hS, onlyX.rf⟩)
              | (have q : bE 13 μ := zB_ne0.mp h39
                 rw [opSh_a (by omega) (by omega) (Or.inr (E2.mp q))]
                 exact ⟨rfl, hS, onlyX.rf⟩)
              | (have q : bE 16 μ := zB_ne0.mp h31
                 rw [opSh_a (by omega) (by omega) (Or.inl (E1.mp q))]
                 exact ⟨rfl, hS, onlyX.rf⟩)
          · refine zb X_shift_s80 rfl ?_
            refine zcallV X_shift_d86 k10_363 (by omega) (x_hasPlaces_0 _ _) rfl rfl rfl (Nat.le_of_ble_eq_true rfl) ?_
            rintro _ μx ⟨rfl, hx⟩
            rw [hx]
            clear hx μx
            refine z_ne X_shift_d89 (tgt := 95) rfl (fun h89 => ?_) (fun h89 => ?_)
            · have g1 := P1.mp (zB_ne0.mp h77)
              have g2 := P2.mp (zB_ne0.mp h89)
              have hall : 0 ≤ n ∧ 0 ≤ i ∧ 0 ≤ j ∧ i ≤ hSize S 3 - n ∧ j ≤ hSize S 0 - n := by
                exact ⟨g1.2.1, g1.1, g2.1, by rw [em]; exact g1.2.2, by rw [ew]; exact g2.2.2⟩
              rw [opSh_d (by omega) (by omega) f1 f2 hsrt hall]
              clear hall
              obtain ⟨N, hN, rfl⟩ := nI_of (Int32.not_lt.mpr g1.2.1)
              obtain ⟨x, hx, rfl⟩ := nI_of (Int32.not_lt.mpr g1.1)
              obtain ⟨y, hy, rfl⟩ := nI_of (Int32.not_lt.mpr g2.1)
              have k1 := (le_sub hx hm hN).mp g1.2.2
              have k2 := (le_sub hy hw hN).mp g2.2.2
              have cN : (nI N).toNatClampNeg = N := nI_clamp hN
              have cx : (nI x).toNatClampNeg = x := nI_clamp hx
              have cy : (nI y).toNatClampNeg = y := nI_clamp hy
              refine zb X_shift_s95 rfl ?_
              refine zcpL X_shift_d110 k10_366 (by omega) (Nat.le_of_ble_eq_true rfl) rfl rfl (nI_pos (by omega)) (nI_pos (by omega)) (nI_pos (by omega)) (by rw [cN, cx]; omega) (by rw [cN, cy]; omega) ?_
              refine zb X_shift_s113 rfl ?_
              refine z_ret X_shift_d115 rfl ?_
              first
                | (have f := fin_shift (s := 3) (p := 0) (a := x) (b := y) (N := N) hS (by omega) (by omega) (by omega)
                   rw [cN, cx, cy]
                   exact ⟨rfl, f.1, f.2⟩)
                | (have q : ¬ bP 13 j n μ := zB_eq0.mp h89
                   rw [opSh_c (by omega) (by omega) f1 f2 hsrt (fun z => q (P2.mpr (And.intro z.2.2.1 (And.intro z.1 (by rw [← ew]; exact z.2.2.2.2)))))]
                   exact ⟨rfl, hS, onlyX.rf⟩)
                | (have q : ¬ bP 16 i n μ := zB_eq0.mp h77
                   rw [opSh_c (by omega) (by omega) f1 f2 hsrt (fun z => q (P1.mpr (And.intro z.2.1 (And.intro z.1 (by rw [← em]; exact z.2.2.2.1)))))]
                   exact ⟨rfl, hS, onlyX.rf⟩)
                | (have q := zB_eq0.mp h63
                   have f1 : hHeld S 3 = 2 := R1.mp (zB_ne0.mp h50)
                   have n2 : ¬ hHeld S 0 = 0 := fun z => (show ¬ bE 13 μ from zB_eq0.mp h39) (E2.mpr z)
                   rw [opSh_b (by omega) (by omega) (by rw [f1]; decide) n2 (by
                     by_cases z : hHeld S 0 = 2
                     · refine Or.inr (Or.inr (fun y => q (And.intro (R2.mpr z) ?_)))
                       exact (show μ.1 13 2 = _ from (xsh2 hS hok (show 0 < 6 by omega) z).1).trans (y.symm.trans (show μ.1 16 2 = _ from (xsh2 hS hok (show 3 < 6 by omega) f1).1).symm)
                     · exact Or.inr (Or.inl (xsh1 hok (by omega) n2 z)))]
                   exact ⟨rfl, hS, onlyX.rf⟩)
                | (have q : ¬ bR 16 μ := zB_eq0.mp h50
                   have n1 : ¬ hHeld S 3 = 0 := fun z => (show ¬ bE 16 μ from zB_eq0.mp h31) (E1.mpr z)
                   have n2 : ¬ hHeld S 0 = 0 := fun z => (show ¬ bE 13 μ from zB_eq0.mp h39) (E2.mpr z)
                   rw [opSh_b (by omega) (by omega) n1 n2 (Or.inl (xsh1 hok (by omega) n1 (fun z => q (R1.mpr z))))]
                   exact ⟨rfl, hS, onlyX.rf⟩)
                | (have q : bE 13 μ := zB_ne0.mp h39
                   rw [opSh_a (by omega) (by omega) (Or.inr (E2.mp q))]
                   exact ⟨rfl, hS, onlyX.rf⟩)
                | (have q : bE 16 μ := zB_ne0.mp h31
                   rw [opSh_a (by omega) (by omega) (Or.inl (E1.mp q))]
                   exact ⟨rfl, hS, onlyX.rf⟩)
            · refine zb X_shift_s92 rfl ?_
              refine z_ret X_shift_d94 rfl ?_
              first
                | (have f := fin_shift (s := 3) (p := 0) (a := x) (b := y) (N := N) hS (by omega) (by omega) (by omega)
                   rw [cN, cx, cy]
                   exact ⟨rfl, f.1, f.2⟩)
                | (have q : ¬ bP 13 j n μ := zB_eq0.mp h89
                   rw [opSh_c (by omega) (by omega) f1 f2 hsrt (fun z => q (P2.mpr (And.intro z.2.2.1 (And.intro z.1 (by rw [← ew]; exact z.2.2.2.2)))))]
                   exact ⟨rfl, hS, onlyX.rf⟩)
                | (have q : ¬ bP 16 i n μ := zB_eq0.mp h77
                   rw [opSh_c (by omega) (by omega) f1 f2 hsrt (fun z => q (P1.mpr (And.intro z.2.1 (And.intro z.1 (by rw [← em]; exact z.2.2.2.1)))))]
                   exact ⟨rfl, hS, onlyX.rf⟩)
                | (have q := zB_eq0.mp h63
                   have f1 : hHeld S 3 = 2 := R1.mp (zB_ne0.mp h50)
                   have n2 : ¬ hHeld S 0 = 0 := fun z => (show ¬ bE 13 μ from zB_eq0.mp h39) (E2.mpr z)
                   rw [opSh_b (by omega) (by omega) (by rw [f1]; decide) n2 (by
                     by_cases z : hHeld S 0 = 2
                     · refine Or.inr (Or.inr (fun y => q (And.intro (R2.mpr z) ?_)))
                       exact (show μ.1 13 2 = _ from (xsh2 hS hok (show 0 < 6 by omega) z).1).trans (y.symm.trans (show μ.1 16 2 = _ from (xsh2 hS hok (show 3 < 6 by omega) f1).1).symm)
                     · exact Or.inr (Or.inl (xsh1 hok (by omega) n2 z)))]
                   exact ⟨rfl, hS, onlyX.rf⟩)
                | (have q : ¬ bR 16 μ := zB_eq0.mp h50
                   have n1 : ¬ hHeld S 3 = 0 := fun z => (show ¬ bE 16 μ from zB_eq0.mp h31) (E1.mpr z)
                   have n2 : ¬ hHeld S 0 = 0 := fun z => (show ¬ bE 13 μ from zB_eq0.mp h39) (E2.mpr z)
                   rw [opSh_b (by omega) (by omega) n1 n2 (Or.inl (xsh1 hok (by omega) n1 (fun z => q (R1.mpr z))))]
                   exact ⟨rfl, hS, onlyX.rf⟩)
                | (have q : bE 13 μ := zB_ne0.mp h39
                   rw [opSh_a (by omega) (by omega) (Or.inr (E2.mp q))]
                   exact ⟨rfl, hS, onlyX.rf⟩)
                | (have q : bE 16 μ := zB_ne0.mp h31
                   rw [opSh_a (by omega) (by omega) (Or.inl (E1.mp q))]
                   exact ⟨rfl, hS, onlyX.rf⟩)
        · refine zb X_shift_s66 rfl ?_
          refine z_ret X_shift_d68 rfl ?_
          first
            | (have f := fin_shift (s := 3) (p := 0) (a := x) (b := y) (N := N) hS (by omega) (by omega) (by omega)
               rw [cN, cx, cy]
               exact ⟨rfl, f.1, f.2⟩)
            | (have q : ¬ bP 13 j n μ := zB_eq0.mp h89
               rw [opSh_c (by omega) (by omega) f1 f2 hsrt (fun z => q (P2.mpr (And.intro z.2.2.1 (And.intro z.1 (by rw [← ew]; exact z.2.2.2.2)))))]
               exact ⟨rfl, hS, onlyX.rf⟩)
            | (have q : ¬ bP 16 i n μ := zB_eq0.mp h77
               rw [opSh_c (by omega) (by omega) f1 f2 hsrt (fun z => q (P1.mpr (And.intro z.2.1 (And.intro z.1 (by rw [← em]; exact z.2.2.2.1)))))]
               exact ⟨rfl, hS, onlyX.rf⟩)
            | (have q := zB_eq0.mp h63
               have f1 : hHeld S 3 = 2 := R1.mp (zB_ne0.mp h50)
               have n2 : ¬ hHeld S 0 = 0 := fun z => (show ¬ bE 13 μ from zB_eq0.mp h39) (E2.mpr z)
               rw [opSh_b (by omega) (by omega) (by rw [f1]; decide) n2 (by
                 by_cases z : hHeld S 0 = 2
                 · refine Or.inr (Or.inr (fun y => q (And.intro (R2.mpr z) ?_)))
                   exact (show μ.1 13 2 = _ from (xsh2 hS hok (show 0 < 6 by omega) z).1).trans (y.symm.trans (show μ.1 16 2 = _ from (xsh2 hS hok (show 3 < 6 by omega) f1).1).symm)
                 · exact Or.inr (Or.inl (xsh1 hok (by omega) n2 z)))]
               exact ⟨rfl, hS, onlyX.rf⟩)
            | (have q : ¬ bR 16 μ := zB_eq0.mp h50
               have n1 : ¬ hHeld S 3 = 0 := fun z => (show ¬ bE 16 μ from zB_eq0.mp h31) (E1.mpr z)
               have n2 : ¬ hHeld S 0 = 0 := fun z => (show ¬ bE 13 μ from zB_eq0.mp h39) (E2.mpr z)
               rw [opSh_b (by omega) (by omega) n1 n2 (Or.inl (xsh1 hok (by omega) n1 (fun z => q (R1.mpr z))))]
               exact ⟨rfl, hS, onlyX.rf⟩)
            | (have q : bE 13 μ := zB_ne0.mp h39
               rw [opSh_a (by omega) (by omega) (Or.inr (E2.mp q))]
               exact ⟨rfl, hS, onlyX.rf⟩)
            | (have q : bE 16 μ := zB_ne0.mp h31
               rw [opSh_a (by omega) (by omega) (Or.inl (E1.mp q))]
               exact ⟨rfl, hS, onlyX.rf⟩)
    · refine zb X_shift_s42 rfl ?_
      refine z_ret X_shift_d44 rfl ?_
      first
        | (have f := fin_shift (s := 3) (p := 0) (a := x) (b := y) (N := N) hS (by omega) (by omega) (by omega)
           rw [cN, cx, cy]
           exact ⟨rfl, f.1, f.2⟩)
        | (have q : ¬ bP 13 j n μ := zB_eq0.mp h89
           rw [opSh_c (by omega) (by omega) f1 f2 hsrt (fun z => q (P2.mpr (And.intro z.2.2.1 (And.intro z.1 (by rw [← ew]; exact z.2.2.2.2)))))]
           exact ⟨rfl, hS, onlyX.rf⟩)
        | (have q : ¬ bP 16 i n μ := zB_eq0.mp h77
           rw [opSh_c (by omega) (by omega) f1 f2 hsrt (fun z => q (P1.mpr (And.intro z.2.1 (And.intro z.1 (by rw [← em]; exact z.2.2.2.1)))))]
           exact ⟨rfl, hS, onlyX.rf⟩)
        | (have q := zB_eq0.mp h63
           have f1 : hHeld S 3 = 2 := R1.mp (zB_ne0.mp h50)
           have n2 : ¬ hHeld S 0 = 0 := fun z => (show ¬ bE 13 μ from zB_eq0.mp h39) (E2.mpr z)
           rw [opSh_b (by omega) (by omega) (by rw [f1]; decide) n2 (by
             by_cases z : hHeld S 0 = 2
             · refine Or.inr (Or.inr (fun y => q (And.intro (R2.mpr z) ?_)))
               exact (show μ.1 13 2 = _ from (xsh2 hS hok (show 0 < 6 by omega) z).1).trans (y.symm.trans (show μ.1 16 2 = _ from (xsh2 hS hok (show 3 < 6 by omega) f1).1).symm)
             · exact Or.inr (Or.inl (xsh1 hok (by omega) n2 z)))]
           exact ⟨rfl, hS, onlyX.rf⟩)
        | (have q : ¬ bR 16 μ := zB_eq0.mp h50
           have n1 : ¬ hHeld S 3 = 0 := fun z => (show ¬ bE 16 μ from zB_eq0.mp h31) (E1.mpr z)
           have n2 : ¬ hHeld S 0 = 0 := fun z => (show ¬ bE 13 μ from zB_eq0.mp h39) (E2.mpr z)
           rw [opSh_b (by omega) (by omega) n1 n2 (Or.inl (xsh1 hok (by omega) n1 (fun z => q (R1.mpr z))))]
           exact ⟨rfl, hS, onlyX.rf⟩)
        | (have q : bE 13 μ := zB_ne0.mp h39
           rw [opSh_a (by omega) (by omega) (Or.inr (E2.mp q))]
           exact ⟨rfl, hS, onlyX.rf⟩)
        | (have q : bE 16 μ := zB_ne0.mp h31
           rw [opSh_a (by omega) (by omega) (Or.inl (E1.mp q))]
           exact ⟨rfl, hS, onlyX.rf⟩)

set_option maxRecDepth 100000 in
set_option maxHeartbeats 4000000 in
theorem xs_shift_3_1 {g : zG} {d : Nat} {S : zS} {μ : zMem} {i j n : Int32} (hd : 2 ≤ d) (hS : xS S μ) (hok : okH S) : zM g d X_shift [.ref 1, .int (nI 3), .int i, .int (nI 1), .int j, .int n] μ (pO xS onlyX (opShift S (nI 3) i (nI 1) j n) μ) := by
  refine zM_of (by decide +kernel) rfl rfl (Nat.le_of_ble_eq_true rfl) rfl ?_
  obtain ⟨ho, h2, hT, hC, hD, hI, hA, hH⟩ := hS
  have hS : xS S μ := ⟨ho, h2, hT, hC, hD, hI, hA, hH⟩
  have hb := ho.b
  have hv := ho.v
  have hB6 := ho.b6
  have hV12 := ho.v12
  have hz : zq sX μ μ := zq.rf
  have E1 := xshE (s := 3) hS hok (by omega)
  have E2 := xshE (s := 1) hS hok (by omega)
  have R1 := xshR (s := 3) hS hok (by omega)
  have R2 := xshR (s := 1) hS hok (by omega)
  refine zb X_shift_s0 rfl ?_
  refine zcallV X_shift_d2 k10_93 (by omega) (x_shelf_3 (by omega)) rfl rfl rfl (Nat.le_of_ble_eq_true rfl) ?_
  rintro _ μx ⟨rfl, hx⟩
  rw [hx]
  clear hx μx
  refine zb X_shift_s5 rfl ?_
  refine zcallV X_shift_d9 k10_93 (by omega) (x_shelf_1 (by omega)) rfl rfl rfl (Nat.le_of_ble_eq_true rfl) ?_
  rintro _ μx ⟨rfl, hx⟩
  rw [hx]
  clear hx μx
  refine zb X_shift_s12 rfl ?_
  refine z_null X_shift_d16 ?_
  refine zb X_shift_s19 rfl ?_
  refine z_nonnull X_shift_d21 (tgt := 26) rfl ?_
  refine zb X_shift_s26 rfl ?_
  refine zcallV X_shift_d28 k10_97 (by omega) (x_isEmpty_3) rfl rfl rfl (Nat.le_of_ble_eq_true rfl) ?_
  rintro _ μx ⟨rfl, hx⟩
  rw [hx]
  clear hx μx
  refine z_ne X_shift_d31 (tgt := 42) rfl (fun h31 => ?_) (fun h31 => ?_)
  · refine zb X_shift_s42 rfl ?_
    refine z_ret X_shift_d44 rfl ?_
    first
      | (have f := fin_shift (s := 3) (p := 1) (a := x) (b := y) (N := N) hS (by omega) (by omega) (by omega)
         rw [cN, cx, cy]
         exact ⟨rfl, f.1, f.2⟩)
      | (have q : ¬ bP 14 j n μ := zB_eq0.mp h89
         rw [opSh_c (by omega) (by omega) f1 f2 hsrt (fun z => q (P2.mpr (And.intro z.2.2.1 (And.intro z.1 (by rw [← ew]; exact z.2.2.2.2)))))]
         exact ⟨rfl, hS, onlyX.rf⟩)
      | (have q : ¬ bP 16 i n μ := zB_eq0.mp h77
         rw [opSh_c (by omega) (by omega) f1 f2 hsrt (fun z => q (P1.mpr (And.intro z.2.1 (And.intro z.1 (by rw [← em]; exact z.2.2.2.1)))))]
         exact ⟨rfl, hS, onlyX.rf⟩)
      | (have q := zB_eq0.mp h63
         have f1 : hHeld S 3 = 2 := R1.mp (zB_ne0.mp h50)
         have n2 : ¬ hHeld S 1 = 0 := fun z => (show ¬ bE 14 μ from zB_eq0.mp h39) (E2.mpr z)
         rw [opSh_b (by omega) (by omega) (by rw [f1]; decide) n2 (by
           by_cases z : hHeld S 1 = 2
           · refine Or.inr (Or.inr (fun y => q (And.intro (R2.mpr z) ?_)))
             exact (show μ.1 14 2 = _ from (xsh2 hS hok (show 1 < 6 by omega) z).1).trans (y.symm.trans (show μ.1 16 2 = _ from (xsh2 hS hok (show 3 < 6 by omega) f1).1).symm)
           · exact Or.inr (Or.inl (xsh1 hok (by omega) n2 z)))]
         exact ⟨rfl, hS, onlyX.rf⟩)
      | (have q : ¬ bR 16 μ := zB_eq0.mp h50
         have n1 : ¬ hHeld S 3 = 0 := fun z => (show ¬ bE 16 μ from zB_eq0.mp h31) (E1.mpr z)
         have n2 : ¬ hHeld S 1 = 0 := fun z => (show ¬ bE 14 μ from zB_eq0.mp h39) (E2.mpr z)
         rw [opSh_b (by omega) (by omega) n1 n2 (Or.inl (xsh1 hok (by omega) n1 (fun z => q (R1.mpr z))))]
         exact ⟨rfl, hS, onlyX.rf⟩)
      | (have q : bE 14 μ := zB_ne0.mp h39
         rw [opSh_a (by omega) (by omega) (Or.inr (E2.mp q))]
         exact ⟨rfl, hS, onlyX.rf⟩)
      | (have q : bE 16 μ := zB_ne0.mp h31
         rw [opSh_a (by omega) (by omega) (Or.inl (E1.mp q))]
         exact ⟨rfl, hS, onlyX.rf⟩)
  · refine zb X_shift_s34 rfl ?_
    refine zcallV X_shift_d36 k10_97 (by omega) (x_isEmpty_1) rfl rfl rfl (Nat.le_of_ble_eq_true rfl) ?_
    rintro _ μx ⟨rfl, hx⟩
    rw [hx]
    clear hx μx
    refine z_eq X_shift_d39 (tgt := 45) rfl (fun h39 => ?_) (fun h39 => ?_)
    · refine zb X_shift_s45 rfl ?_
      refine zcallV X_shift_d47 k10_357 (by omega) (x_isRow_3) rfl rfl rfl (Nat.le_of_ble_eq_true rfl) ?_
      rintro _ μx ⟨rfl, hx⟩
      rw [hx]
      clear hx μx
      refine z_eq X_shift_d50 (tgt := 66) rfl (fun h50 => ?_) (fun h50 => ?_)
      · refine zb X_shift_s66 rfl ?_
        refine z_ret X_shift_d68 rfl ?_
        first
          | (have f := fin_shift (s := 3) (p := 1) (a := x) (b := y) (N := N) hS (by omega) (by omega) (by omega)
             rw [cN, cx, cy]
             exact ⟨rfl, f.1, f.2⟩)
          | (have q : ¬ bP 14 j n μ := zB_eq0.mp h89
             rw [opSh_c (by omega) (by omega) f1 f2 hsrt (fun z => q (P2.mpr (And.intro z.2.2.1 (And.intro z.1 (by rw [← ew]; exact z.2.2.2.2)))))]
             exact ⟨rfl, hS, onlyX.rf⟩)
          | (have q : ¬ bP 16 i n μ := zB_eq0.mp h77
             rw [opSh_c (by omega) (by omega) f1 f2 hsrt (fun z => q (P1.mpr (And.intro z.2.1 (And.intro z.1 (by rw [← em]; exact z.2.2.2.1)))))]
             exact ⟨rfl, hS, onlyX.rf⟩)
          | (have q := zB_eq0.mp h63
             have f1 : hHeld S 3 = 2 := R1.mp (zB_ne0.mp h50)
             have n2 : ¬ hHeld S 1 = 0 := fun z => (show ¬ bE 14 μ from zB_eq0.mp h39) (E2.mpr z)
             rw [opSh_b (by omega) (by omega) (by rw [f1]; decide) n2 (by
               by_cases z : hHeld S 1 = 2
               · refine Or.inr (Or.inr (fun y => q (And.intro (R2.mpr z) ?_)))
                 exact (show μ.1 14 2 = _ from (xsh2 hS hok (show 1 < 6 by omega) z).1).trans (y.symm.trans (show μ.1 16 2 = _ from (xsh2 hS hok (show 3 < 6 by omega) f1).1).symm)
               · exact Or.inr (Or.inl (xsh1 hok (by omega) n2 z)))]
             exact ⟨rfl, hS, onlyX.rf⟩)
          | (have q : ¬ bR 16 μ := zB_eq0.mp h50
             have n1 : ¬ hHeld S 3 = 0 := fun z => (show ¬ bE 16 μ from zB_eq0.mp h31) (E1.mpr z)
             have n2 : ¬ hHeld S 1 = 0 := fun z => (show ¬ bE 14 μ from zB_eq0.mp h39) (E2.mpr z)
             rw [opSh_b (by omega) (by omega) n1 n2 (Or.inl (xsh1 hok (by omega) n1 (fun z => q (R1.mpr z))))]
             exact ⟨rfl, hS, onlyX.rf⟩)
          | (have q : bE 14 μ := zB_ne0.mp h39
             rw [opSh_a (by omega) (by omega) (Or.inr (E2.mp q))]
             exact ⟨rfl, hS, onlyX.rf⟩)
          | (have q : bE 16 μ := zB_ne0.mp h31
             rw [opSh_a (by omega) (by omega) (Or.inl (E1.mp q))]
             exact ⟨rfl, hS, onlyX.rf⟩)
      · refine zb X_shift_s53 rfl ?_
        refine zcallV X_shift_d60 k10_101 (by omega) (x_isRowOf_1 _ (by omega)) rfl rfl rfl (Nat.le_of_ble_eq_true rfl) ?_
        rintro _ μx ⟨rfl, hx⟩
        rw [hx]
        clear hx μx
        refine z_ne X_shift_d63 (tgt := 69) rfl (fun h63 => ?_) (fun h63 => ?_)
        · have f1 : hHeld S 3 = 2 := R1.mp (zB_ne0.mp h50)
          have f2 : hHeld S 1 = 2 := R2.mp (zB_ne0.mp h63).1
          obtain ⟨a1, a2, m, hm, em⟩ := xsh2 hS hok (show 3 < 6 by omega) f1
          obtain ⟨b1, b2, w, hw, ew⟩ := xsh2 hS hok (show 1 < 6 by omega) f2
          have hsrt : hSort S 3 = hSort S 1 := a1.symm.trans ((zB_ne0.mp h63).2.symm.trans b1)
          have P1 := bPn (i := i) (n := n) hm (a2.trans em)
          have P2 := bPn (i := j) (n := n) hw (b2.trans ew)
          refine zb X_shift_s69 rfl ?_
          refine zcallV X_shift_d74 k10_363 (by omega) (x_hasPlaces_3 _ _) rfl rfl rfl (Nat.le_of_ble_eq_true rfl) ?_
          rintro _ μx ⟨rfl, hx⟩
          rw [hx]
          clear hx μx
          refine z_eq X_shift_d77 (tgt := 92) rfl (fun h77 => ?_) (fun h77 => ?_)
          · refine zb X_shift_s92 rfl ?_
            refine z_ret X_shift_d94 rfl ?_
            first
              | (have f := fin_shift (s := 3) (p := 1) (a := x) (b := y) (N := N) hS (by omega) (by omega) (by omega)
                 rw [cN, cx, cy]
                 exact ⟨rfl, f.1, f.2⟩)
              | (have q : ¬ bP 14 j n μ := zB_eq0.mp h89
                 rw [opSh_c (by omega) (by omega) f1 f2 hsrt (fun z => q (P2.mpr (And.intro z.2.2.1 (And.intro z.1 (by rw [← ew]; exact z.2.2.2.2)))))]
                 exact ⟨rfl, hS, onlyX.rf⟩)
              | (have q : ¬ bP 16 i n μ := zB_eq0.mp h77
                 rw [opSh_c (by omega) (by omega) f1 f2 hsrt (fun z => q (P1.mpr (And.intro z.2.1 (And.intro z.1 (by rw [← em]; exact z.2.2.2.1)))))]
                 exact ⟨rfl, hS, onlyX.rf⟩)
              | (have q := zB_eq0.mp h63
                 have f1 : hHeld S 3 = 2 := R1.mp (zB_ne0.mp h50)
                 have n2 : ¬ hHeld S 1 = 0 := fun z => (show ¬ bE 14 μ from zB_eq0.mp h39) (E2.mpr z)
                 rw [opSh_b (by omega) (by omega) (by rw [f1]; decide) n2 (by
                   by_cases z : hHeld S 1 = 2
                   · refine Or.inr (Or.inr (fun y => q (And.intro (R2.mpr z) ?_)))
                     exact (show μ.1 14 2 = _ from (xsh2 hS hok (show 1 < 6 by omega) z).1).trans (y.symm.trans (show μ.1 16 2 = _ from (xsh2 hS hok (show 3 < 6 by omega) f1).1).symm)
                   · exact Or.inr (Or.inl (xsh1 hok (by omega) n2 z)))]
                 exact ⟨rfl, hS, onlyX.rf⟩)
              | (have q : ¬ bR 16 μ := zB_eq0.mp h50
                 have n1 : ¬ hHeld S 3 = 0 := fun z => (show ¬ bE 16 μ from zB_eq0.mp h31) (E1.mpr z)
                 have n2 : ¬ hHeld S 1 = 0 := fun z => (show ¬ bE 14 μ from zB_eq0.mp h39) (E2.mpr z)
                 rw [opSh_b (by omega) (by omega) n1 n2 (Or.inl (xsh1 hok (by omega) n1 (fun z => q (R1.mpr z))))]
                 exact ⟨rfl, hS, onlyX.rf⟩)
              | (have q : bE 14 μ := zB_ne0.mp h39
                 rw [opSh_a (by omega) (by omega) (Or.inr (E2.mp q))]
                 exact ⟨rfl, hS, onlyX.rf⟩)
              | (have q : bE 16 μ := zB_ne0.mp h31
                 rw [opSh_a (by omega) (by omega) (Or.inl (E1.mp q))]
                 exact ⟨rfl, hS, onlyX.rf⟩)
          · refine zb X_shift_s80 rfl ?_
            refine zcallV X_shift_d86 k10_363 (by omega) (x_hasPlaces_1 _ _) rfl rfl rfl (Nat.le_of_ble_eq_true rfl) ?_
            rintro _ μx ⟨rfl, hx⟩
            rw [hx]
            clear hx μx
            refine z_ne X_shift_d89 (tgt := 95) rfl (fun h89 => ?_) (fun h89 => ?_)
            · have g1 := P1.mp (zB_ne0.mp h77)
              have g2 := P2.mp (zB_ne0.mp h89)
              have hall : 0 ≤ n ∧ 0 ≤ i ∧ 0 ≤ j ∧ i ≤ hSize S 3 - n ∧ j ≤ hSize S 1 - n := by
                exact ⟨g1.2.1, g1.1, g2.1, by rw [em]; exact g1.2.2, by rw [ew]; exact g2.2.2⟩
              rw [opSh_d (by omega) (by omega) f1 f2 hsrt hall]
              clear hall
              obtain ⟨N, hN, rfl⟩ := nI_of (Int32.not_lt.mpr g1.2.1)
              obtain ⟨x, hx, rfl⟩ := nI_of (Int32.not_lt.mpr g1.1)
              obtain ⟨y, hy, rfl⟩ := nI_of (Int32.not_lt.mpr g2.1)
              have k1 := (le_sub hx hm hN).mp g1.2.2
              have k2 := (le_sub hy hw hN).mp g2.2.2
              have cN : (nI N).toNatClampNeg = N := nI_clamp hN
              have cx : (nI x).toNatClampNeg = x := nI_clamp hx
              have cy : (nI y).toNatClampNeg = y := nI_clamp hy
              refine zb X_shift_s95 rfl ?_
              refine zcpL X_shift_d110 k10_366 (by omega) (Nat.le_of_ble_eq_true rfl) rfl rfl (nI_pos (by omega)) (nI_pos (by omega)) (nI_pos (by omega)) (by rw [cN, cx]; omega) (by rw [cN, cy]; omega) ?_
              refine zb X_shift_s113 rfl ?_
              refine z_ret X_shift_d115 rfl ?_
              first
                | (have f := fin_shift (s := 3) (p := 1) (a := x) (b := y) (N := N) hS (by omega) (by omega) (by omega)
                   rw [cN, cx, cy]
                   exact ⟨rfl, f.1, f.2⟩)
                | (have q : ¬ bP 14 j n μ := zB_eq0.mp h89
                   rw [opSh_c (by omega) (by omega) f1 f2 hsrt (fun z => q (P2.mpr (And.intro z.2.2.1 (And.intro z.1 (by rw [← ew]; exact z.2.2.2.2)))))]
                   exact ⟨rfl, hS, onlyX.rf⟩)
                | (have q : ¬ bP 16 i n μ := zB_eq0.mp h77
                   rw [opSh_c (by omega) (by omega) f1 f2 hsrt (fun z => q (P1.mpr (And.intro z.2.1 (And.intro z.1 (by rw [← em]; exact z.2.2.2.1)))))]
                   exact ⟨rfl, hS, onlyX.rf⟩)
                | (have q := zB_eq0.mp h63
                   have f1 : hHeld S 3 = 2 := R1.mp (zB_ne0.mp h50)
                   have n2 : ¬ hHeld S 1 = 0 := fun z => (show ¬ bE 14 μ from zB_eq0.mp h39) (E2.mpr z)
                   rw [opSh_b (by omega) (by omega) (by rw [f1]; decide) n2 (by
                     by_cases z : hHeld S 1 = 2
                     · refine Or.inr (Or.inr (fun y => q (And.intro (R2.mpr z) ?_)))
                       exact (show μ.1 14 2 = _ from (xsh2 hS hok (show 1 < 6 by omega) z).1).trans (y.symm.trans (show μ.1 16 2 = _ from (xsh2 hS hok (show 3 < 6 by omega) f1).1).symm)
                     · exact Or.inr (Or.inl (xsh1 hok (by omega) n2 z)))]
                   exact ⟨rfl, hS, onlyX.rf⟩)
                | (have q : ¬ bR 16 μ := zB_eq0.mp h50
                   have n1 : ¬ hHeld S 3 = 0 := fun z => (show ¬ bE 16 μ from zB_eq0.mp h31) (E1.mpr z)
                   have n2 : ¬ hHeld S 1 = 0 := fun z => (show ¬ bE 14 μ from zB_eq0.mp h39) (E2.mpr z)
                   rw [opSh_b (by omega) (by omega) n1 n2 (Or.inl (xsh1 hok (by omega) n1 (fun z => q (R1.mpr z))))]
                   exact ⟨rfl, hS, onlyX.rf⟩)
                | (have q : bE 14 μ := zB_ne0.mp h39
                   rw [opSh_a (by omega) (by omega) (Or.inr (E2.mp q))]
                   exact ⟨rfl, hS, onlyX.rf⟩)
                | (have q : bE 16 μ := zB_ne0.mp h31
                   rw [opSh_a (by omega) (by omega) (Or.inl (E1.mp q))]
                   exact ⟨rfl, hS, onlyX.rf⟩)
            · refine zb X_shift_s92 rfl ?_
              refine z_ret X_shift_d94 rfl ?_
              first
                | (have f := fin_shift (s := 3) (p := 1) (a := x) (b := y) (N := N) hS (by omega) (by omega) (by omega)
                   rw [cN, cx, cy]
                   exact ⟨rfl, f.1, f.2⟩)
                | (have q : ¬ bP 14 j n μ := zB_eq0.mp h89
                   rw [opSh_c (by omega) (by omega) f1 f2 hsrt (fun z => q (P2.mpr (And.intro z.2.2.1 (And.intro z.1 (by rw [← ew]; exact z.2.2.2.2)))))]
                   exact ⟨rfl, hS, onlyX.rf⟩)
                | (have q : ¬ bP 16 i n μ := zB_eq0.mp h77
                   rw [opSh_c (by omega) (by omega) f1 f2 hsrt (fun z => q (P1.mpr (And.intro z.2.1 (And.intro z.1 (by rw [← em]; exact z.2.2.2.1)))))]
                   exact ⟨rfl, hS, onlyX.rf⟩)
                | (have q := zB_eq0.mp h63
                   have f1 : hHeld S 3 = 2 := R1.mp (zB_ne0.mp h50)
                   have n2 : ¬ hHeld S 1 = 0 := fun z => (show ¬ bE 14 μ from zB_eq0.mp h39) (E2.mpr z)
                   rw [opSh_b (by omega) (by omega) (by rw [f1]; decide) n2 (by
                     by_cases z : hHeld S 1 = 2
                     · refine Or.inr (Or.inr (fun y => q (And.intro (R2.mpr z) ?_)))
                       exact (show μ.1 14 2 = _ from (xsh2 hS hok (show 1 < 6 by omega) z).1).trans (y.symm.trans (show μ.1 16 2 = _ from (xsh2 hS hok (show 3 < 6 by omega) f1).1).symm)
                     · exact Or.inr (Or.inl (xsh1 hok (by omega) n2 z)))]
                   exact ⟨rfl, hS, onlyX.rf⟩)
                | (have q : ¬ bR 16 μ := zB_eq0.mp h50
                   have n1 : ¬ hHeld S 3 = 0 := fun z => (show ¬ bE 16 μ from zB_eq0.mp h31) (E1.mpr z)
                   have n2 : ¬ hHeld S 1 = 0 := fun z => (show ¬ bE 14 μ from zB_eq0.mp h39) (E2.mpr z)
                   rw [opSh_b (by omega) (by omega) n1 n2 (Or.inl (xsh1 hok (by omega) n1 (fun z => q (R1.mpr z))))]
                   exact ⟨rfl, hS, onlyX.rf⟩)
                | (have q : bE 14 μ := zB_ne0.mp h39
                   rw [opSh_a (by omega) (by omega) (Or.inr (E2.mp q))]
                   exact ⟨rfl, hS, onlyX.rf⟩)
                | (have q : bE 16 μ := zB_ne0.mp h31
                   rw [opSh_a (by omega) (by omega) (Or.inl (E1.mp q))]
                   exact ⟨rfl, hS, onlyX.rf⟩)
        · refine zb X_shift_s66 rfl ?_
          refine z_ret X_shift_d68 rfl ?_
          first
            | (have f := fin_shift (s := 3) (p := 1) (a := x) (b := y) (N := N) hS (by omega) (by omega) (by omega)
               rw [cN, cx, cy]
               exact ⟨rfl, f.1, f.2⟩)
            | (have q : ¬ bP 14 j n μ := zB_eq0.mp h89
               rw [opSh_c (by omega) (by omega) f1 f2 hsrt (fun z => q (P2.mpr (And.intro z.2.2.1 (And.intro z.1 (by rw [← ew]; exact z.2.2.2.2)))))]
               exact ⟨rfl, hS, onlyX.rf⟩)
            | (have q : ¬ bP 16 i n μ := zB_eq0.mp h77
               rw [opSh_c (by omega) (by omega) f1 f2 hsrt (fun z => q (P1.mpr (And.intro z.2.1 (And.intro z.1 (by rw [← em]; exact z.2.2.2.1)))))]
               exact ⟨rfl, hS, onlyX.rf⟩)
            | (have q := zB_eq0.mp h63
               have f1 : hHeld S 3 = 2 := R1.mp (zB_ne0.mp h50)
               have n2 : ¬ hHeld S 1 = 0 := fun z => (show ¬ bE 14 μ from zB_eq0.mp h39) (E2.mpr z)
               rw [opSh_b (by omega) (by omega) (by rw [f1]; decide) n2 (by
                 by_cases z : hHeld S 1 = 2
                 · refine Or.inr (Or.inr (fun y => q (And.intro (R2.mpr z) ?_)))
                   exact (show μ.1 14 2 = _ from (xsh2 hS hok (show 1 < 6 by omega) z).1).trans (y.symm.trans (show μ.1 16 2 = _ from (xsh2 hS hok (show 3 < 6 by omega) f1).1).symm)
                 · exact Or.inr (Or.inl (xsh1 hok (by omega) n2 z)))]
               exact ⟨rfl, hS, onlyX.rf⟩)
            | (have q : ¬ bR 16 μ := zB_eq0.mp h50
               have n1 : ¬ hHeld S 3 = 0 := fun z => (show ¬ bE 16 μ from zB_eq0.mp h31) (E1.mpr z)
               have n2 : ¬ hHeld S 1 = 0 := fun z => (show ¬ bE 14 μ from zB_eq0.mp h39) (E2.mpr z)
               rw [opSh_b (by omega) (by omega) n1 n2 (Or.inl (xsh1 hok (by omega) n1 (fun z => q (R1.mpr z))))]
               exact ⟨rfl, hS, onlyX.rf⟩)
            | (have q : bE 14 μ := zB_ne0.mp h39
               rw [opSh_a (by omega) (by omega) (Or.inr (E2.mp q))]
               exact ⟨rfl, hS, onlyX.rf⟩)
            | (have q : bE 16 μ := zB_ne0.mp h31
               rw [opSh_a (by omega) (by omega) (Or.inl (E1.mp q))]
               exact ⟨rfl, hS, onlyX.rf⟩)
    · refine zb X_shift_s42 rfl ?_
      refine z_ret X_shift_d44 rfl ?_
      first
        | (have f := fin_shift (s := 3) (p := 1) (a := x) (b := y) (N := N) hS (by omega) (by omega) (by omega)
           rw [cN, cx, cy]
           exact ⟨rfl, f.1, f.2⟩)
        | (have q : ¬ bP 14 j n μ := zB_eq0.mp h89
           rw [opSh_c (by omega) (by omega) f1 f2 hsrt (fun z => q (P2.mpr (And.intro z.2.2.1 (And.intro z.1 (by rw [← ew]; exact z.2.2.2.2)))))]
           exact ⟨rfl, hS, onlyX.rf⟩)
        | (have q : ¬ bP 16 i n μ := zB_eq0.mp h77
           rw [opSh_c (by omega) (by omega) f1 f2 hsrt (fun z => q (P1.mpr (And.intro z.2.1 (And.intro z.1 (by rw [← em]; exact z.2.2.2.1)))))]
           exact ⟨rfl, hS, onlyX.rf⟩)
        | (have q := zB_eq0.mp h63
           have f1 : hHeld S 3 = 2 := R1.mp (zB_ne0.mp h50)
           have n2 : ¬ hHeld S 1 = 0 := fun z => (show ¬ bE 14 μ from zB_eq0.mp h39) (E2.mpr z)
           rw [opSh_b (by omega) (by omega) (by rw [f1]; decide) n2 (by
             by_cases z : hHeld S 1 = 2
             · refine Or.inr (Or.inr (fun y => q (And.intro (R2.mpr z) ?_)))
               exact (show μ.1 14 2 = _ from (xsh2 hS hok (show 1 < 6 by omega) z).1).trans (y.symm.trans (show μ.1 16 2 = _ from (xsh2 hS hok (show 3 < 6 by omega) f1).1).symm)
             · exact Or.inr (Or.inl (xsh1 hok (by omega) n2 z)))]
           exact ⟨rfl, hS, onlyX.rf⟩)
        | (have q : ¬ bR 16 μ := zB_eq0.mp h50
           have n1 : ¬ hHeld S 3 = 0 := fun z => (show ¬ bE 16 μ from zB_eq0.mp h31) (E1.mpr z)
           have n2 : ¬ hHeld S 1 = 0 := fun z => (show ¬ bE 14 μ from zB_eq0.mp h39) (E2.mpr z)
           rw [opSh_b (by omega) (by omega) n1 n2 (Or.inl (xsh1 hok (by omega) n1 (fun z => q (R1.mpr z))))]
           exact ⟨rfl, hS, onlyX.rf⟩)
        | (have q : bE 14 μ := zB_ne0.mp h39
           rw [opSh_a (by omega) (by omega) (Or.inr (E2.mp q))]
           exact ⟨rfl, hS, onlyX.rf⟩)
        | (have q : bE 16 μ := zB_ne0.mp h31
           rw [opSh_a (by omega) (by omega) (Or.inl (E1.mp q))]
           exact ⟨rfl, hS, onlyX.rf⟩)

set_option maxRecDepth 100000 in
set_option maxHeartbeats 4000000 in
theorem xs_shift_3_2 {g : zG} {d : Nat} {S : zS} {μ : zMem} {i j n : Int32} (hd : 2 ≤ d) (hS : xS S μ) (hok : okH S) : zM g d X_shift [.ref 1, .int (nI 3), .int i, .int (nI 2), .int j, .int n] μ (pO xS onlyX (opShift S (nI 3) i (nI 2) j n) μ) := by
  refine zM_of (by decide +kernel) rfl rfl (Nat.le_of_ble_eq_true rfl) rfl ?_
  obtain ⟨ho, h2, hT, hC, hD, hI, hA, hH⟩ := hS
  have hS : xS S μ := ⟨ho, h2, hT, hC, hD, hI, hA, hH⟩
  have hb := ho.b
  have hv := ho.v
  have hB6 := ho.b6
  have hV12 := ho.v12
  have hz : zq sX μ μ := zq.rf
  have E1 := xshE (s := 3) hS hok (by omega)
  have E2 := xshE (s := 2) hS hok (by omega)
  have R1 := xshR (s := 3) hS hok (by omega)
  have R2 := xshR (s := 2) hS hok (by omega)
  refine zb X_shift_s0 rfl ?_
  refine zcallV X_shift_d2 k10_93 (by omega) (x_shelf_3 (by omega)) rfl rfl rfl (Nat.le_of_ble_eq_true rfl) ?_
  rintro _ μx ⟨rfl, hx⟩
  rw [hx]
  clear hx μx
  refine zb X_shift_s5 rfl ?_
  refine zcallV X_shift_d9 k10_93 (by omega) (x_shelf_2 (by omega)) rfl rfl rfl (Nat.le_of_ble_eq_true rfl) ?_
  rintro _ μx ⟨rfl, hx⟩
  rw [hx]
  clear hx μx
  refine zb X_shift_s12 rfl ?_
  refine z_null X_shift_d16 ?_
  refine zb X_shift_s19 rfl ?_
  refine z_nonnull X_shift_d21 (tgt := 26) rfl ?_
  refine zb X_shift_s26 rfl ?_
  refine zcallV X_shift_d28 k10_97 (by omega) (x_isEmpty_3) rfl rfl rfl (Nat.le_of_ble_eq_true rfl) ?_
  rintro _ μx ⟨rfl, hx⟩
  rw [hx]
  clear hx μx
  refine z_ne X_shift_d31 (tgt := 42) rfl (fun h31 => ?_) (fun h31 => ?_)
  · refine zb X_shift_s42 rfl ?_
    refine z_ret X_shift_d44 rfl ?_
    first
      | (have f := fin_shift (s := 3) (p := 2) (a := x) (b := y) (N := N) hS (by omega) (by omega) (by omega)
         rw [cN, cx, cy]
         exact ⟨rfl, f.1, f.2⟩)
      | (have q : ¬ bP 15 j n μ := zB_eq0.mp h89
         rw [opSh_c (by omega) (by omega) f1 f2 hsrt (fun z => q (P2.mpr (And.intro z.2.2.1 (And.intro z.1 (by rw [← ew]; exact z.2.2.2.2)))))]
         exact ⟨rfl, hS, onlyX.rf⟩)
      | (have q : ¬ bP 16 i n μ := zB_eq0.mp h77
         rw [opSh_c (by omega) (by omega) f1 f2 hsrt (fun z => q (P1.mpr (And.intro z.2.1 (And.intro z.1 (by rw [← em]; exact z.2.2.2.1)))))]
         exact ⟨rfl, hS, onlyX.rf⟩)
      | (have q := zB_eq0.mp h63
         have f1 : hHeld S 3 = 2 := R1.mp (zB_ne0.mp h50)
         have n2 : ¬ hHeld S 2 = 0 := fun z => (show ¬ bE 15 μ from zB_eq0.mp h39) (E2.mpr z)
         rw [opSh_b (by omega) (by omega) (by rw [f1]; decide) n2 (by
           by_cases z : hHeld S 2 = 2
           · refine Or.inr (Or.inr (fun y => q (And.intro (R2.mpr z) ?_)))
             exact (show μ.1 15 2 = _ from (xsh2 hS hok (show 2 < 6 by omega) z).1).trans (y.symm.trans (show μ.1 16 2 = _ from (xsh2 hS hok (show 3 < 6 by omega) f1).1).symm)
           · exact Or.inr (Or.inl (xsh1 hok (by omega) n2 z)))]
         exact ⟨rfl, hS, onlyX.rf⟩)
      | (have q : ¬ bR 16 μ := zB_eq0.mp h50
         have n1 : ¬ hHeld S 3 = 0 := fun z => (show ¬ bE 16 μ from zB_eq0.mp h31) (E1.mpr z)
         have n2 : ¬ hHeld S 2 = 0 := fun z => (show ¬ bE 15 μ from zB_eq0.mp h39) (E2.mpr z)
         rw [opSh_b (by omega) (by omega) n1 n2 (Or.inl (xsh1 hok (by omega) n1 (fun z => q (R1.mpr z))))]
         exact ⟨rfl, hS, onlyX.rf⟩)
      | (have q : bE 15 μ := zB_ne0.mp h39
         rw [opSh_a (by omega) (by omega) (Or.inr (E2.mp q))]
         exact ⟨rfl, hS, onlyX.rf⟩)
      | (have q : bE 16 μ := zB_ne0.mp h31
         rw [opSh_a (by omega) (by omega) (Or.inl (E1.mp q))]
         exact ⟨rfl, hS, onlyX.rf⟩)
  · refine zb X_shift_s34 rfl ?_
    refine zcallV X_shift_d36 k10_97 (by omega) (x_isEmpty_2) rfl rfl rfl (Nat.le_of_ble_eq_true rfl) ?_
    rintro _ μx ⟨rfl, hx⟩
    rw [hx]
    clear hx μx
    refine z_eq X_shift_d39 (tgt := 45) rfl (fun h39 => ?_) (fun h39 => ?_)
    · refine zb X_shift_s45 rfl ?_
      refine zcallV X_shift_d47 k10_357 (by omega) (x_isRow_3) rfl rfl rfl (Nat.le_of_ble_eq_true rfl) ?_
      rintro _ μx ⟨rfl, hx⟩
      rw [hx]
      clear hx μx
      refine z_eq X_shift_d50 (tgt := 66) rfl (fun h50 => ?_) (fun h50 => ?_)
      · refine zb X_shift_s66 rfl ?_
        refine z_ret X_shift_d68 rfl ?_
        first
          | (have f := fin_shift (s := 3) (p := 2) (a := x) (b := y) (N := N) hS (by omega) (by omega) (by omega)
             rw [cN, cx, cy]
             exact ⟨rfl, f.1, f.2⟩)
          | (have q : ¬ bP 15 j n μ := zB_eq0.mp h89
             rw [opSh_c (by omega) (by omega) f1 f2 hsrt (fun z => q (P2.mpr (And.intro z.2.2.1 (And.intro z.1 (by rw [← ew]; exact z.2.2.2.2)))))]
             exact ⟨rfl, hS, onlyX.rf⟩)
          | (have q : ¬ bP 16 i n μ := zB_eq0.mp h77
             rw [opSh_c (by omega) (by omega) f1 f2 hsrt (fun z => q (P1.mpr (And.intro z.2.1 (And.intro z.1 (by rw [← em]; exact z.2.2.2.1)))))]
             exact ⟨rfl, hS, onlyX.rf⟩)
          | (have q := zB_eq0.mp h63
             have f1 : hHeld S 3 = 2 := R1.mp (zB_ne0.mp h50)
             have n2 : ¬ hHeld S 2 = 0 := fun z => (show ¬ bE 15 μ from zB_eq0.mp h39) (E2.mpr z)
             rw [opSh_b (by omega) (by omega) (by rw [f1]; decide) n2 (by
               by_cases z : hHeld S 2 = 2
               · refine Or.inr (Or.inr (fun y => q (And.intro (R2.mpr z) ?_)))
                 exact (show μ.1 15 2 = _ from (xsh2 hS hok (show 2 < 6 by omega) z).1).trans (y.symm.trans (show μ.1 16 2 = _ from (xsh2 hS hok (show 3 < 6 by omega) f1).1).symm)
               · exact Or.inr (Or.inl (xsh1 hok (by omega) n2 z)))]
             exact ⟨rfl, hS, onlyX.rf⟩)
          | (have q : ¬ bR 16 μ := zB_eq0.mp h50
             have n1 : ¬ hHeld S 3 = 0 := fun z => (show ¬ bE 16 μ from zB_eq0.mp h31) (E1.mpr z)
             have n2 : ¬ hHeld S 2 = 0 := fun z => (show ¬ bE 15 μ from zB_eq0.mp h39) (E2.mpr z)
             rw [opSh_b (by omega) (by omega) n1 n2 (Or.inl (xsh1 hok (by omega) n1 (fun z => q (R1.mpr z))))]
             exact ⟨rfl, hS, onlyX.rf⟩)
          | (have q : bE 15 μ := zB_ne0.mp h39
             rw [opSh_a (by omega) (by omega) (Or.inr (E2.mp q))]
             exact ⟨rfl, hS, onlyX.rf⟩)
          | (have q : bE 16 μ := zB_ne0.mp h31
             rw [opSh_a (by omega) (by omega) (Or.inl (E1.mp q))]
             exact ⟨rfl, hS, onlyX.rf⟩)
      · refine zb X_shift_s53 rfl ?_
        refine zcallV X_shift_d60 k10_101 (by omega) (x_isRowOf_2 _ (by omega)) rfl rfl rfl (Nat.le_of_ble_eq_true rfl) ?_
        rintro _ μx ⟨rfl, hx⟩
        rw [hx]
        clear hx μx
        refine z_ne X_shift_d63 (tgt := 69) rfl (fun h63 => ?_) (fun h63 => ?_)
        · have f1 : hHeld S 3 = 2 := R1.mp (zB_ne0.mp h50)
          have f2 : hHeld S 2 = 2 := R2.mp (zB_ne0.mp h63).1
          obtain ⟨a1, a2, m, hm, em⟩ := xsh2 hS hok (show 3 < 6 by omega) f1
          obtain ⟨b1, b2, w, hw, ew⟩ := xsh2 hS hok (show 2 < 6 by omega) f2
          have hsrt : hSort S 3 = hSort S 2 := a1.symm.trans ((zB_ne0.mp h63).2.symm.trans b1)
          have P1 := bPn (i := i) (n := n) hm (a2.trans em)
          have P2 := bPn (i := j) (n := n) hw (b2.trans ew)
          refine zb X_shift_s69 rfl ?_
          refine zcallV X_shift_d74 k10_363 (by omega) (x_hasPlaces_3 _ _) rfl rfl rfl (Nat.le_of_ble_eq_true rfl) ?_
          rintro _ μx ⟨rfl, hx⟩
          rw [hx]
          clear hx μx
          refine z_eq X_shift_d77 (tgt := 92) rfl (fun h77 => ?_) (fun h77 => ?_)
          · refine zb X_shift_s92 rfl ?_
            refine z_ret X_shift_d94 rfl ?_
            first
              | (have f := fin_shift (s := 3) (p := 2) (a := x) (b := y) (N := N) hS (by omega) (by omega) (by omega)
                 rw [cN, cx, cy]
                 exact ⟨rfl, f.1, f.2⟩)
              | (have q : ¬ bP 15 j n μ := zB_eq0.mp h89
                 rw [opSh_c (by omega) (by omega) f1 f2 hsrt (fun z => q (P2.mpr (And.intro z.2.2.1 (And.intro z.1 (by rw [← ew]; exact z.2.2.2.2)))))]
                 exact ⟨rfl, hS, onlyX.rf⟩)
              | (have q : ¬ bP 16 i n μ := zB_eq0.mp h77
                 rw [opSh_c (by omega) (by omega) f1 f2 hsrt (fun z => q (P1.mpr (And.intro z.2.1 (And.intro z.1 (by rw [← em]; exact z.2.2.2.1)))))]
                 exact ⟨rfl, hS, onlyX.rf⟩)
              | (have q := zB_eq0.mp h63
                 have f1 : hHeld S 3 = 2 := R1.mp (zB_ne0.mp h50)
                 have n2 : ¬ hHeld S 2 = 0 := fun z => (show ¬ bE 15 μ from zB_eq0.mp h39) (E2.mpr z)
                 rw [opSh_b (by omega) (by omega) (by rw [f1]; decide) n2 (by
                   by_cases z : hHeld S 2 = 2
                   · refine Or.inr (Or.inr (fun y => q (And.intro (R2.mpr z) ?_)))
                     exact (show μ.1 15 2 = _ from (xsh2 hS hok (show 2 < 6 by omega) z).1).trans (y.symm.trans (show μ.1 16 2 = _ from (xsh2 hS hok (show 3 < 6 by omega) f1).1).symm)
                   · exact Or.inr (Or.inl (xsh1 hok (by omega) n2 z)))]
                 exact ⟨rfl, hS, onlyX.rf⟩)
              | (have q : ¬ bR 16 μ := zB_eq0.mp h50
                 have n1 : ¬ hHeld S 3 = 0 := fun z => (show ¬ bE 16 μ from zB_eq0.mp h31) (E1.mpr z)
                 have n2 : ¬ hHeld S 2 = 0 := fun z => (show ¬ bE 15 μ from zB_eq0.mp h39) (E2.mpr z)
                 rw [opSh_b (by omega) (by omega) n1 n2 (Or.inl (xsh1 hok (by omega) n1 (fun z => q (R1.mpr z))))]
                 exact ⟨rfl, hS, onlyX.rf⟩)
              | (have q : bE 15 μ := zB_ne0.mp h39
                 rw [opSh_a (by omega) (by omega) (Or.inr (E2.mp q))]
                 exact ⟨rfl, hS, onlyX.rf⟩)
              | (have q : bE 16 μ := zB_ne0.mp h31
                 rw [opSh_a (by omega) (by omega) (Or.inl (E1.mp q))]
                 exact ⟨rfl, hS, onlyX.rf⟩)
          · refine zb X_shift_s80 rfl ?_
            refine zcallV X_shift_d86 k10_363 (by omega) (x_hasPlaces_2 _ _) rfl rfl rfl (Nat.le_of_ble_eq_true rfl) ?_
            rintro _ μx ⟨rfl, hx⟩
            rw [hx]
            clear hx μx
            refine z_ne X_shift_d89 (tgt := 95) rfl (fun h89 => ?_) (fun h89 => ?_)
            · have g1 := P1.mp (zB_ne0.mp h77)
              have g2 := P2.mp (zB_ne0.mp h89)
              have hall : 0 ≤ n ∧ 0 ≤ i ∧ 0 ≤ j ∧ i ≤ hSize S 3 - n ∧ j ≤ hSize S 2 - n := by
                exact ⟨g1.2.1, g1.1, g2.1, by rw [em]; exact g1.2.2, by rw [ew]; exact g2.2.2⟩
              rw [opSh_d (by omega) (by omega) f1 f2 hsrt hall]
              clear hall
              obtain ⟨N, hN, rfl⟩ := nI_of (Int32.not_lt.mpr g1.2.1)
              obtain ⟨x, hx, rfl⟩ := nI_of (Int32.not_lt.mpr g1.1)
              obtain ⟨y, hy, rfl⟩ := nI_of (Int32.not_lt.mpr g2.1)
              have k1 := (le_sub hx hm hN).mp g1.2.2
              have k2 := (le_sub hy hw hN).mp g2.2.2
              have cN : (nI N).toNatClampNeg = N := nI_clamp hN
              have cx : (nI x).toNatClampNeg = x := nI_clamp hx
              have cy : (nI y).toNatClampNeg = y := nI_clamp hy
              refine zb X_shift_s95 rfl ?_
              refine zcpL X_shift_d110 k10_366 (by omega) (Nat.le_of_ble_eq_true rfl) rfl rfl (nI_pos (by omega)) (nI_pos (by omega)) (nI_pos (by omega)) (by rw [cN, cx]; omega) (by rw [cN, cy]; omega) ?_
              refine zb X_shift_s113 rfl ?_
              refine z_ret X_shift_d115 rfl ?_
              first
                | (have f := fin_shift (s := 3) (p := 2) (a := x) (b := y) (N := N) hS (by omega) (by omega) (by omega)
                   rw [cN, cx, cy]
                   exact ⟨rfl, f.1, f.2⟩)
                | (have q : ¬ bP 15 j n μ := zB_eq0.mp h89
                   rw [opSh_c (by omega) (by omega) f1 f2 hsrt (fun z => q (P2.mpr (And.intro z.2.2.1 (And.intro z.1 (by rw [← ew]; exact z.2.2.2.2)))))]
                   exact ⟨rfl, hS, onlyX.rf⟩)
                | (have q : ¬ bP 16 i n μ := zB_eq0.mp h77
                   rw [opSh_c (by omega) (by omega) f1 f2 hsrt (fun z => q (P1.mpr (And.intro z.2.1 (And.intro z.1 (by rw [← em]; exact z.2.2.2.1)))))]
                   exact ⟨rfl, hS, onlyX.rf⟩)
                | (have q := zB_eq0.mp h63
                   have f1 : hHeld S 3 = 2 := R1.mp (zB_ne0.mp h50)
                   have n2 : ¬ hHeld S 2 = 0 := fun z => (show ¬ bE 15 μ from zB_eq0.mp h39) (E2.mpr z)
                   rw [opSh_b (by omega) (by omega) (by rw [f1]; decide) n2 (by
                     by_cases z : hHeld S 2 = 2
                     · refine Or.inr (Or.inr (fun y => q (And.intro (R2.mpr z) ?_)))
                       exact (show μ.1 15 2 = _ from (xsh2 hS hok (show 2 < 6 by omega) z).1).trans (y.symm.trans (show μ.1 16 2 = _ from (xsh2 hS hok (show 3 < 6 by omega) f1).1).symm)
                     · exact Or.inr (Or.inl (xsh1 hok (by omega) n2 z)))]
                   exact ⟨rfl, hS, onlyX.rf⟩)
                | (have q : ¬ bR 16 μ := zB_eq0.mp h50
                   have n1 : ¬ hHeld S 3 = 0 := fun z => (show ¬ bE 16 μ from zB_eq0.mp h31) (E1.mpr z)
                   have n2 : ¬ hHeld S 2 = 0 := fun z => (show ¬ bE 15 μ from zB_eq0.mp h39) (E2.mpr z)
                   rw [opSh_b (by omega) (by omega) n1 n2 (Or.inl (xsh1 hok (by omega) n1 (fun z => q (R1.mpr z))))]
                   exact ⟨rfl, hS, onlyX.rf⟩)
                | (have q : bE 15 μ := zB_ne0.mp h39
                   rw [opSh_a (by omega) (by omega) (Or.inr (E2.mp q))]
                   exact ⟨rfl, hS, onlyX.rf⟩)
                | (have q : bE 16 μ := zB_ne0.mp h31
                   rw [opSh_a (by omega) (by omega) (Or.inl (E1.mp q))]
                   exact ⟨rfl, hS, onlyX.rf⟩)
            · refine zb X_shift_s92 rfl ?_
              refine z_ret X_shift_d94 rfl ?_
              first
                | (have f := fin_shift (s := 3) (p := 2) (a := x) (b := y) (N := N) hS (by omega) (by omega) (by omega)
                   rw [cN, cx, cy]
                   exact ⟨rfl, f.1, f.2⟩)
                | (have q : ¬ bP 15 j n μ := zB_eq0.mp h89
                   rw [opSh_c (by omega) (by omega) f1 f2 hsrt (fun z => q (P2.mpr (And.intro z.2.2.1 (And.intro z.1 (by rw [← ew]; exact z.2.2.2.2)))))]
                   exact ⟨rfl, hS, onlyX.rf⟩)
                | (have q : ¬ bP 16 i n μ := zB_eq0.mp h77
                   rw [opSh_c (by omega) (by omega) f1 f2 hsrt (fun z => q (P1.mpr (And.intro z.2.1 (And.intro z.1 (by rw [← em]; exact z.2.2.2.1)))))]
                   exact ⟨rfl, hS, onlyX.rf⟩)
                | (have q := zB_eq0.mp h63
                   have f1 : hHeld S 3 = 2 := R1.mp (zB_ne0.mp h50)
                   have n2 : ¬ hHeld S 2 = 0 := fun z => (show ¬ bE 15 μ from zB_eq0.mp h39) (E2.mpr z)
                   rw [opSh_b (by omega) (by omega) (by rw [f1]; decide) n2 (by
                     by_cases z : hHeld S 2 = 2
                     · refine Or.inr (Or.inr (fun y => q (And.intro (R2.mpr z) ?_)))
                       exact (show μ.1 15 2 = _ from (xsh2 hS hok (show 2 < 6 by omega) z).1).trans (y.symm.trans (show μ.1 16 2 = _ from (xsh2 hS hok (show 3 < 6 by omega) f1).1).symm)
                     · exact Or.inr (Or.inl (xsh1 hok (by omega) n2 z)))]
                   exact ⟨rfl, hS, onlyX.rf⟩)
                | (have q : ¬ bR 16 μ := zB_eq0.mp h50
                   have n1 : ¬ hHeld S 3 = 0 := fun z => (show ¬ bE 16 μ from zB_eq0.mp h31) (E1.mpr z)
                   have n2 : ¬ hHeld S 2 = 0 := fun z => (show ¬ bE 15 μ from zB_eq0.mp h39) (E2.mpr z)
                   rw [opSh_b (by omega) (by omega) n1 n2 (Or.inl (xsh1 hok (by omega) n1 (fun z => q (R1.mpr z))))]
                   exact ⟨rfl, hS, onlyX.rf⟩)
                | (have q : bE 15 μ := zB_ne0.mp h39
                   rw [opSh_a (by omega) (by omega) (Or.inr (E2.mp q))]
                   exact ⟨rfl, hS, onlyX.rf⟩)
                | (have q : bE 16 μ := zB_ne0.mp h31
                   rw [opSh_a (by omega) (by omega) (Or.inl (E1.mp q))]
                   exact ⟨rfl, hS, onlyX.rf⟩)
        · refine zb X_shift_s66 rfl ?_
          refine z_ret X_shift_d68 rfl ?_
          first
            | (have f := fin_shift (s := 3) (p := 2) (a := x) (b := y) (N := N) hS (by omega) (by omega) (by omega)
               rw [cN, cx, cy]
               exact ⟨rfl, f.1, f.2⟩)
            | (have q : ¬ bP 15 j n μ := zB_eq0.mp h89
               rw [opSh_c (by omega) (by omega) f1 f2 hsrt (fun z => q (P2.mpr (And.intro z.2.2.1 (And.intro z.1 (by rw [← ew]; exact z.2.2.2.2)))))]
               exact ⟨rfl, hS, onlyX.rf⟩)
            | (have q : ¬ bP 16 i n μ := zB_eq0.mp h77
               rw [opSh_c (by omega) (by omega) f1 f2 hsrt (fun z => q (P1.mpr (And.intro z.2.1 (And.intro z.1 (by rw [← em]; exact z.2.2.2.1)))))]
               exact ⟨rfl, hS, onlyX.rf⟩)
            | (have q := zB_eq0.mp h63
               have f1 : hHeld S 3 = 2 := R1.mp (zB_ne0.mp h50)
               have n2 : ¬ hHeld S 2 = 0 := fun z => (show ¬ bE 15 μ from zB_eq0.mp h39) (E2.mpr z)
               rw [opSh_b (by omega) (by omega) (by rw [f1]; decide) n2 (by
                 by_cases z : hHeld S 2 = 2
                 · refine Or.inr (Or.inr (fun y => q (And.intro (R2.mpr z) ?_)))
                   exact (show μ.1 15 2 = _ from (xsh2 hS hok (show 2 < 6 by omega) z).1).trans (y.symm.trans (show μ.1 16 2 = _ from (xsh2 hS hok (show 3 < 6 by omega) f1).1).symm)
                 · exact Or.inr (Or.inl (xsh1 hok (by omega) n2 z)))]
               exact ⟨rfl, hS, onlyX.rf⟩)
            | (have q : ¬ bR 16 μ := zB_eq0.mp h50
               have n1 : ¬ hHeld S 3 = 0 := fun z => (show ¬ bE 16 μ from zB_eq0.mp h31) (E1.mpr z)
               have n2 : ¬ hHeld S 2 = 0 := fun z => (show ¬ bE 15 μ from zB_eq0.mp h39) (E2.mpr z)
               rw [opSh_b (by omega) (by omega) n1 n2 (Or.inl (xsh1 hok (by omega) n1 (fun z => q (R1.mpr z))))]
               exact ⟨rfl, hS, onlyX.rf⟩)
            | (have q : bE 15 μ := zB_ne0.mp h39
               rw [opSh_a (by omega) (by omega) (Or.inr (E2.mp q))]
               exact ⟨rfl, hS, onlyX.rf⟩)
            | (have q : bE 16 μ := zB_ne0.mp h31
               rw [opSh_a (by omega) (by omega) (Or.inl (E1.mp q))]
               exact ⟨rfl, hS, onlyX.rf⟩)
    · refine zb X_shift_s42 rfl ?_
      refine z_ret X_shift_d44 rfl ?_
      first
        | (have f := fin_shift (s := 3) (p := 2) (a := x) (b := y) (N := N) hS (by omega) (by omega) (by omega)
           rw [cN, cx, cy]
           exact ⟨rfl, f.1, f.2⟩)
        | (have q : ¬ bP 15 j n μ := zB_eq0.mp h89
           rw [opSh_c (by omega) (by omega) f1 f2 hsrt (fun z => q (P2.mpr (And.intro z.2.2.1 (And.intro z.1 (by rw [← ew]; exact z.2.2.2.2)))))]
           exact ⟨rfl, hS, onlyX.rf⟩)
        | (have q : ¬ bP 16 i n μ := zB_eq0.mp h77
           rw [opSh_c (by omega) (by omega) f1 f2 hsrt (fun z => q (P1.mpr (And.intro z.2.1 (And.intro z.1 (by rw [← em]; exact z.2.2.2.1)))))]
           exact ⟨rfl, hS, onlyX.rf⟩)
        | (have q := zB_eq0.mp h63
           have f1 : hHeld S 3 = 2 := R1.mp (zB_ne0.mp h50)
           have n2 : ¬ hHeld S 2 = 0 := fun z => (show ¬ bE 15 μ from zB_eq0.mp h39) (E2.mpr z)
           rw [opSh_b (by omega) (by omega) (by rw [f1]; decide) n2 (by
             by_cases z : hHeld S 2 = 2
             · refine Or.inr (Or.inr (fun y => q (And.intro (R2.mpr z) ?_)))
               exact (show μ.1 15 2 = _ from (xsh2 hS hok (show 2 < 6 by omega) z).1).trans (y.symm.trans (show μ.1 16 2 = _ from (xsh2 hS hok (show 3 < 6 by omega) f1).1).symm)
             · exact Or.inr (Or.inl (xsh1 hok (by omega) n2 z)))]
           exact ⟨rfl, hS, onlyX.rf⟩)
        | (have q : ¬ bR 16 μ := zB_eq0.mp h50
           have n1 : ¬ hHeld S 3 = 0 := fun z => (show ¬ bE 16 μ from zB_eq0.mp h31) (E1.mpr z)
           have n2 : ¬ hHeld S 2 = 0 := fun z => (show ¬ bE 15 μ from zB_eq0.mp h39) (E2.mpr z)
           rw [opSh_b (by omega) (by omega) n1 n2 (Or.inl (xsh1 hok (by omega) n1 (fun z => q (R1.mpr z))))]
           exact ⟨rfl, hS, onlyX.rf⟩)
        | (have q : bE 15 μ := zB_ne0.mp h39
           rw [opSh_a (by omega) (by omega) (Or.inr (E2.mp q))]
           exact ⟨rfl, hS, onlyX.rf⟩)
        | (have q : bE 16 μ := zB_ne0.mp h31
           rw [opSh_a (by omega) (by omega) (Or.inl (E1.mp q))]
           exact ⟨rfl, hS, onlyX.rf⟩)

set_option maxRecDepth 100000 in
set_option maxHeartbeats 4000000 in
theorem xs_shift_3_3 {g : zG} {d : Nat} {S : zS} {μ : zMem} {i j n : Int32} (hd : 2 ≤ d) (hS : xS S μ) (hok : okH S) : zM g d X_shift [.ref 1, .int (nI 3), .int i, .int (nI 3), .int j, .int n] μ (pO xS onlyX (opShift S (nI 3) i (nI 3) j n) μ) := by
  refine zM_of (by decide +kernel) rfl rfl (Nat.le_of_ble_eq_true rfl) rfl ?_
  obtain ⟨ho, h2, hT, hC, hD, hI, hA, hH⟩ := hS
  have hS : xS S μ := ⟨ho, h2, hT, hC, hD, hI, hA, hH⟩
  have hb := ho.b
  have hv := ho.v
  have hB6 := ho.b6
  have hV12 := ho.v12
  have hz : zq sX μ μ := zq.rf
  have E1 := xshE (s := 3) hS hok (by omega)
  have E2 := xshE (s := 3) hS hok (by omega)
  have R1 := xshR (s := 3) hS hok (by omega)
  have R2 := xshR (s := 3) hS hok (by omega)
  refine zb X_shift_s0 rfl ?_
  refine zcallV X_shift_d2 k10_93 (by omega) (x_shelf_3 (by omega)) rfl rfl rfl (Nat.le_of_ble_eq_true rfl) ?_
  rintro _ μx ⟨rfl, hx⟩
  rw [hx]
  clear hx μx
  refine zb X_shift_s5 rfl ?_
  refine zcallV X_shift_d9 k10_93 (by omega) (x_shelf_3 (by omega)) rfl rfl rfl (Nat.le_of_ble_eq_true rfl) ?_
  rintro _ μx ⟨rfl, hx⟩
  rw [hx]
  clear hx μx
  refine zb X_shift_s12 rfl ?_
  refine z_null X_shift_d16 ?_
  refine zb X_shift_s19 rfl ?_
  refine z_nonnull X_shift_d21 (tgt := 26) rfl ?_
  refine zb X_shift_s26 rfl ?_
  refine zcallV X_shift_d28 k10_97 (by omega) (x_isEmpty_3) rfl rfl rfl (Nat.le_of_ble_eq_true rfl) ?_
  rintro _ μx ⟨rfl, hx⟩
  rw [hx]
  clear hx μx
  refine z_ne X_shift_d31 (tgt := 42) rfl (fun h31 => ?_) (fun h31 => ?_)
  · refine zb X_shift_s42 rfl ?_
    refine z_ret X_shift_d44 rfl ?_
    first
      | (have f := fin_shift (s := 3) (p := 3) (a := x) (b := y) (N := N) hS (by omega) (by omega) (by omega)
         rw [cN, cx, cy]
         exact ⟨rfl, f.1, f.2⟩)
      | (have q : ¬ bP 16 j n μ := zB_eq0.mp h89
         rw [opSh_c (by omega) (by omega) f1 f2 hsrt (fun z => q (P2.mpr (And.intro z.2.2.1 (And.intro z.1 (by rw [← ew]; exact z.2.2.2.2)))))]
         exact ⟨rfl, hS, onlyX.rf⟩)
      | (have q : ¬ bP 16 i n μ := zB_eq0.mp h77
         rw [opSh_c (by omega) (by omega) f1 f2 hsrt (fun z => q (P1.mpr (And.intro z.2.1 (And.intro z.1 (by rw [← em]; exact z.2.2.2.1)))))]
         exact ⟨rfl, hS, onlyX.rf⟩)
      | (have q := zB_eq0.mp h63
         have f1 : hHeld S 3 = 2 := R1.mp (zB_ne0.mp h50)
         have n2 : ¬ hHeld S 3 = 0 := fun z => (show ¬ bE 16 μ from zB_eq0.mp h39) (E2.mpr z)
         rw [opSh_b (by omega) (by omega) (by rw [f1]; decide) n2 (by
           by_cases z : hHeld S 3 = 2
           · refine Or.inr (Or.inr (fun y => q (And.intro (R2.mpr z) ?_)))
             exact (show μ.1 16 2 = _ from (xsh2 hS hok (show 3 < 6 by omega) z).1).trans (y.symm.trans (show μ.1 16 2 = _ from (xsh2 hS hok (show 3 < 6 by omega) f1).1).symm)
           · exact Or.inr (Or.inl (xsh1 hok (by omega) n2 z)))]
         exact ⟨rfl, hS, onlyX.rf⟩)
      | (have q : ¬ bR 16 μ := zB_eq0.mp h50
         have n1 : ¬ hHeld S 3 = 0 := fun z => (show ¬ bE 16 μ from zB_eq0.mp h31) (E1.mpr z)
         have n2 : ¬ hHeld S 3 = 0 := fun z => (show ¬ bE 16 μ from zB_eq0.mp h39) (E2.mpr z)
         rw [opSh_b (by omega) (by omega) n1 n2 (Or.inl (xsh1 hok (by omega) n1 (fun z => q (R1.mpr z))))]
         exact ⟨rfl, hS, onlyX.rf⟩)
      | (have q : bE 16 μ := zB_ne0.mp h39
         rw [opSh_a (by omega) (by omega) (Or.inr (E2.mp q))]
         exact ⟨rfl, hS, onlyX.rf⟩)
      | (have q : bE 16 μ := zB_ne0.mp h31
         rw [opSh_a (by omega) (by omega) (Or.inl (E1.mp q))]
         exact ⟨rfl, hS, onlyX.rf⟩)
  · refine zb X_shift_s34 rfl ?_
    refine zcallV X_shift_d36 k10_97 (by omega) (x_isEmpty_3) rfl rfl rfl (Nat.le_of_ble_eq_true rfl) ?_
    rintro _ μx ⟨rfl, hx⟩
    rw [hx]
    clear hx μx
    refine z_eq X_shift_d39 (tgt := 45) rfl (fun h39 => ?_) (fun h39 => ?_)
    · refine zb X_shift_s45 rfl ?_
      refine zcallV X_shift_d47 k10_357 (by omega) (x_isRow_3) rfl rfl rfl (Nat.le_of_ble_eq_true rfl) ?_
      rintro _ μx ⟨rfl, hx⟩
      rw [hx]
      clear hx μx
      refine z_eq X_shift_d50 (tgt := 66) rfl (fun h50 => ?_) (fun h50 => ?_)
      · refine zb X_shift_s66 rfl ?_
        refine z_ret X_shift_d68 rfl ?_
        first
          | (have f := fin_shift (s := 3) (p := 3) (a := x) (b := y) (N := N) hS (by omega) (by omega) (by omega)
             rw [cN, cx, cy]
             exact ⟨rfl, f.1, f.2⟩)
          | (have q : ¬ bP 16 j n μ := zB_eq0.mp h89
             rw [opSh_c (by omega) (by omega) f1 f2 hsrt (fun z => q (P2.mpr (And.intro z.2.2.1 (And.intro z.1 (by rw [← ew]; exact z.2.2.2.2)))))]
             exact ⟨rfl, hS, onlyX.rf⟩)
          | (have q : ¬ bP 16 i n μ := zB_eq0.mp h77
             rw [opSh_c (by omega) (by omega) f1 f2 hsrt (fun z => q (P1.mpr (And.intro z.2.1 (And.intro z.1 (by rw [← em]; exact z.2.2.2.1)))))]
             exact ⟨rfl, hS, onlyX.rf⟩)
          | (have q := zB_eq0.mp h63
             have f1 : hHeld S 3 = 2 := R1.mp (zB_ne0.mp h50)
             have n2 : ¬ hHeld S 3 = 0 := fun z => (show ¬ bE 16 μ from zB_eq0.mp h39) (E2.mpr z)
             rw [opSh_b (by omega) (by omega) (by rw [f1]; decide) n2 (by
               by_cases z : hHeld S 3 = 2
               · refine Or.inr (Or.inr (fun y => q (And.intro (R2.mpr z) ?_)))
                 exact (show μ.1 16 2 = _ from (xsh2 hS hok (show 3 < 6 by omega) z).1).trans (y.symm.trans (show μ.1 16 2 = _ from (xsh2 hS hok (show 3 < 6 by omega) f1).1).symm)
               · exact Or.inr (Or.inl (xsh1 hok (by omega) n2 z)))]
             exact ⟨rfl, hS, onlyX.rf⟩)
          | (have q : ¬ bR 16 μ := zB_eq0.mp h50
             have n1 : ¬ hHeld S 3 = 0 := fun z => (show ¬ bE 16 μ from zB_eq0.mp h31) (E1.mpr z)
             have n2 : ¬ hHeld S 3 = 0 := fun z => (show ¬ bE 16 μ from zB_eq0.mp h39) (E2.mpr z)
             rw [opSh_b (by omega) (by omega) n1 n2 (Or.inl (xsh1 hok (by omega) n1 (fun z => q (R1.mpr z))))]
             exact ⟨rfl, hS, onlyX.rf⟩)
          | (have q : bE 16 μ := zB_ne0.mp h39
             rw [opSh_a (by omega) (by omega) (Or.inr (E2.mp q))]
             exact ⟨rfl, hS, onlyX.rf⟩)
          | (have q : bE 16 μ := zB_ne0.mp h31
             rw [opSh_a (by omega) (by omega) (Or.inl (E1.mp q))]
             exact ⟨rfl, hS, onlyX.rf⟩)
      · refine zb X_shift_s53 rfl ?_
        refine zcallV X_shift_d60 k10_101 (by omega) (x_isRowOf_3 _ (by omega)) rfl rfl rfl (Nat.le_of_ble_eq_true rfl) ?_
        rintro _ μx ⟨rfl, hx⟩
        rw [hx]
        clear hx μx
        refine z_ne X_shift_d63 (tgt := 69) rfl (fun h63 => ?_) (fun h63 => ?_)
        · have f1 : hHeld S 3 = 2 := R1.mp (zB_ne0.mp h50)
          have f2 : hHeld S 3 = 2 := R2.mp (zB_ne0.mp h63).1
          obtain ⟨a1, a2, m, hm, em⟩ := xsh2 hS hok (show 3 < 6 by omega) f1
          obtain ⟨b1, b2, w, hw, ew⟩ := xsh2 hS hok (show 3 < 6 by omega) f2
          have hsrt : hSort S 3 = hSort S 3 := a1.symm.trans ((zB_ne0.mp h63).2.symm.trans b1)
          have P1 := bPn (i := i) (n := n) hm (a2.trans em)
          have P2 := bPn (i := j) (n := n) hw (b2.trans ew)
          refine zb X_shift_s69 rfl ?_
          refine zcallV X_shift_d74 k10_363 (by omega) (x_hasPlaces_3 _ _) rfl rfl rfl (Nat.le_of_ble_eq_true rfl) ?_
          rintro _ μx ⟨rfl, hx⟩
          rw [hx]
          clear hx μx
          refine z_eq X_shift_d77 (tgt := 92) rfl (fun h77 => ?_) (fun h77 => ?_)
          · refine zb X_shift_s92 rfl ?_
            refine z_ret X_shift_d94 rfl ?_
            first
              | (have f := fin_shift (s := 3) (p := 3) (a := x) (b := y) (N := N) hS (by omega) (by omega) (by omega)
                 rw [cN, cx, cy]
                 exact ⟨rfl, f.1, f.2⟩)
              | (have q : ¬ bP 16 j n μ := zB_eq0.mp h89
                 rw [opSh_c (by omega) (by omega) f1 f2 hsrt (fun z => q (P2.mpr (And.intro z.2.2.1 (And.intro z.1 (by rw [← ew]; exact z.2.2.2.2)))))]
                 exact ⟨rfl, hS, onlyX.rf⟩)
              | (have q : ¬ bP 16 i n μ := zB_eq0.mp h77
                 rw [opSh_c (by omega) (by omega) f1 f2 hsrt (fun z => q (P1.mpr (And.intro z.2.1 (And.intro z.1 (by rw [← em]; exact z.2.2.2.1)))))]
                 exact ⟨rfl, hS, onlyX.rf⟩)
              | (have q := zB_eq0.mp h63
                 have f1 : hHeld S 3 = 2 := R1.mp (zB_ne0.mp h50)
                 have n2 : ¬ hHeld S 3 = 0 := fun z => (show ¬ bE 16 μ from zB_eq0.mp h39) (E2.mpr z)
                 rw [opSh_b (by omega) (by omega) (by rw [f1]; decide) n2 (by
                   by_cases z : hHeld S 3 = 2
                   · refine Or.inr (Or.inr (fun y => q (And.intro (R2.mpr z) ?_)))
                     exact (show μ.1 16 2 = _ from (xsh2 hS hok (show 3 < 6 by omega) z).1).trans (y.symm.trans (show μ.1 16 2 = _ from (xsh2 hS hok (show 3 < 6 by omega) f1).1).symm)
                   · exact Or.inr (Or.inl (xsh1 hok (by omega) n2 z)))]
                 exact ⟨rfl, hS, onlyX.rf⟩)
              | (have q : ¬ bR 16 μ := zB_eq0.mp h50
                 have n1 : ¬ hHeld S 3 = 0 := fun z => (show ¬ bE 16 μ from zB_eq0.mp h31) (E1.mpr z)
                 have n2 : ¬ hHeld S 3 = 0 := fun z => (show ¬ bE 16 μ from zB_eq0.mp h39) (E2.mpr z)
                 rw [opSh_b (by omega) (by omega) n1 n2 (Or.inl (xsh1 hok (by omega) n1 (fun z => q (R1.mpr z))))]
                 exact ⟨rfl, hS, onlyX.rf⟩)
              | (have q : bE 16 μ := zB_ne0.mp h39
                 rw [opSh_a (by omega) (by omega) (Or.inr (E2.mp q))]
                 exact ⟨rfl, hS, onlyX.rf⟩)
              | (have q : bE 16 μ := zB_ne0.mp h31
                 rw [opSh_a (by omega) (by omega) (Or.inl (E1.mp q))]
                 exact ⟨rfl, hS, onlyX.rf⟩)
          · refine zb X_shift_s80 rfl ?_
            refine zcallV X_shift_d86 k10_363 (by omega) (x_hasPlaces_3 _ _) rfl rfl rfl (Nat.le_of_ble_eq_true rfl) ?_
            rintro _ μx ⟨rfl, hx⟩
            rw [hx]
            clear hx μx
            refine z_ne X_shift_d89 (tgt := 95) rfl (fun h89 => ?_) (fun h89 => ?_)
            · have g1 := P1.mp (zB_ne0.mp h77)
              have g2 := P2.mp (zB_ne0.mp h89)
              have hall : 0 ≤ n ∧ 0 ≤ i ∧ 0 ≤ j ∧ i ≤ hSize S 3 - n ∧ j ≤ hSize S 3 - n := by
                exact ⟨g1.2.1, g1.1, g2.1, by rw [em]; exact g1.2.2, by rw [ew]; exact g2.2.2⟩
              rw [opSh_d (by omega) (by omega) f1 f2 hsrt hall]
              clear hall
              obtain ⟨N, hN, rfl⟩ := nI_of (Int32.not_lt.mpr g1.2.1)
              obtain ⟨x, hx, rfl⟩ := nI_of (Int32.not_lt.mpr g1.1)
              obtain ⟨y, hy, rfl⟩ := nI_of (Int32.not_lt.mpr g2.1)
              have k1 := (le_sub hx hm hN).mp g1.2.2
              have k2 := (le_sub hy hw hN).mp g2.2.2
              have cN : (nI N).toNatClampNeg = N := nI_clamp hN
              have cx : (nI x).toNatClampNeg = x := nI_clamp hx
              have cy : (nI y).toNatClampNeg = y := nI_clamp hy
              refine zb X_shift_s95 rfl ?_
              refine zcpL X_shift_d110 k10_366 (by omega) (Nat.le_of_ble_eq_true rfl) rfl rfl (nI_pos (by omega)) (nI_pos (by omega)) (nI_pos (by omega)) (by rw [cN, cx]; omega) (by rw [cN, cy]; omega) ?_
              refine zb X_shift_s113 rfl ?_
              refine z_ret X_shift_d115 rfl ?_
              first
                | (have f := fin_shift (s := 3) (p := 3) (a := x) (b := y) (N := N) hS (by omega) (by omega) (by omega)
                   rw [cN, cx, cy]
                   exact ⟨rfl, f.1, f.2⟩)
                | (have q : ¬ bP 16 j n μ := zB_eq0.mp h89
                   rw [opSh_c (by omega) (by omega) f1 f2 hsrt (fun z => q (P2.mpr (And.intro z.2.2.1 (And.intro z.1 (by rw [← ew]; exact z.2.2.2.2)))))]
                   exact ⟨rfl, hS, onlyX.rf⟩)
                | (have q : ¬ bP 16 i n μ := zB_eq0.mp h77
                   rw [opSh_c (by omega) (by omega) f1 f2 hsrt (fun z => q (P1.mpr (And.intro z.2.1 (And.intro z.1 (by rw [← em]; exact z.2.2.2.1)))))]
                   exact ⟨rfl, hS, onlyX.rf⟩)
                | (have q := zB_eq0.mp h63
                   have f1 : hHeld S 3 = 2 := R1.mp (zB_ne0.mp h50)
                   have n2 : ¬ hHeld S 3 = 0 := fun z => (show ¬ bE 16 μ from zB_eq0.mp h39) (E2.mpr z)
                   rw [opSh_b (by omega) (by omega) (by rw [f1]; decide) n2 (by
                     by_cases z : hHeld S 3 = 2
                     · refine Or.inr (Or.inr (fun y => q (And.intro (R2.mpr z) ?_)))
                       exact (show μ.1 16 2 = _ from (xsh2 hS hok (show 3 < 6 by omega) z).1).trans (y.symm.trans (show μ.1 16 2 = _ from (xsh2 hS hok (show 3 < 6 by omega) f1).1).symm)
                     · exact Or.inr (Or.inl (xsh1 hok (by omega) n2 z)))]
                   exact ⟨rfl, hS, onlyX.rf⟩)
                | (have q : ¬ bR 16 μ := zB_eq0.mp h50
                   have n1 : ¬ hHeld S 3 = 0 := fun z => (show ¬ bE 16 μ from zB_eq0.mp h31) (E1.mpr z)
                   have n2 : ¬ hHeld S 3 = 0 := fun z => (show ¬ bE 16 μ from zB_eq0.mp h39) (E2.mpr z)
                   rw [opSh_b (by omega) (by omega) n1 n2 (Or.inl (xsh1 hok (by omega) n1 (fun z => q (R1.mpr z))))]
                   exact ⟨rfl, hS, onlyX.rf⟩)
                | (have q : bE 16 μ := zB_ne0.mp h39
                   rw [opSh_a (by omega) (by omega) (Or.inr (E2.mp q))]
                   exact ⟨rfl, hS, onlyX.rf⟩)
                | (have q : bE 16 μ := zB_ne0.mp h31
                   rw [opSh_a (by omega) (by omega) (Or.inl (E1.mp q))]
                   exact ⟨rfl, hS, onlyX.rf⟩)
            · refine zb X_shift_s92 rfl ?_
              refine z_ret X_shift_d94 rfl ?_
              first
                | (have f := fin_shift (s := 3) (p := 3) (a := x) (b := y) (N := N) hS (by omega) (by omega) (by omega)
                   rw [cN, cx, cy]
                   exact ⟨rfl, f.1, f.2⟩)
                | (have q : ¬ bP 16 j n μ := zB_eq0.mp h89
                   rw [opSh_c (by omega) (by omega) f1 f2 hsrt (fun z => q (P2.mpr (And.intro z.2.2.1 (And.intro z.1 (by rw [← ew]; exact z.2.2.2.2)))))]
                   exact ⟨rfl, hS, onlyX.rf⟩)
                | (have q : ¬ bP 16 i n μ := zB_eq0.mp h77
                   rw [opSh_c (by omega) (by omega) f1 f2 hsrt (fun z => q (P1.mpr (And.intro z.2.1 (And.intro z.1 (by rw [← em]; exact z.2.2.2.1)))))]
                   exact ⟨rfl, hS, onlyX.rf⟩)
                | (have q := zB_eq0.mp h63
                   have f1 : hHeld S 3 = 2 := R1.mp (zB_ne0.mp h50)
                   have n2 : ¬ hHeld S 3 = 0 := fun z => (show ¬ bE 16 μ from zB_eq0.mp h39) (E2.mpr z)
                   rw [opSh_b (by omega) (by omega) (by rw [f1]; decide) n2 (by
                     by_cases z : hHeld S 3 = 2
                     · refine Or.inr (Or.inr (fun y => q (And.intro (R2.mpr z) ?_)))
                       exact (show μ.1 16 2 = _ from (xsh2 hS hok (show 3 < 6 by omega) z).1).trans (y.symm.trans (show μ.1 16 2 = _ from (xsh2 hS hok (show 3 < 6 by omega) f1).1).symm)
                     · exact Or.inr (Or.inl (xsh1 hok (by omega) n2 z)))]
                   exact ⟨rfl, hS, onlyX.rf⟩)
                | (have q : ¬ bR 16 μ := zB_eq0.mp h50
                   have n1 : ¬ hHeld S 3 = 0 := fun z => (show ¬ bE 16 μ from zB_eq0.mp h31) (E1.mpr z)
                   have n2 : ¬ hHeld S 3 = 0 := fun z => (show ¬ bE 16 μ from zB_eq0.mp h39) (E2.mpr z)
                   rw [opSh_b (by omega) (by omega) n1 n2 (Or.inl (xsh1 hok (by omega) n1 (fun z => q (R1.mpr z))))]
                   exact ⟨rfl, hS, onlyX.rf⟩)
                | (have q : bE 16 μ := zB_ne0.mp h39
                   rw [opSh_a (by omega) (by omega) (Or.inr (E2.mp q))]
                   exact ⟨rfl, hS, onlyX.rf⟩)
                | (have q : bE 16 μ := zB_ne0.mp h31
                   rw [opSh_a (by omega) (by omega) (Or.inl (E1.mp q))]
                   exact ⟨rfl, hS, onlyX.rf⟩)
        · refine zb X_shift_s66 rfl ?_
          refine z_ret X_shift_d68 rfl ?_
          first
            | (have f := fin_shift (s := 3) (p := 3) (a := x) (b := y) (N := N) hS (by omega) (by omega) (by omega)
               rw [cN, cx, cy]
               exact ⟨rfl, f.1, f.2⟩)
            | (have q : ¬ bP 16 j n μ := zB_eq0.mp h89
               rw [opSh_c (by omega) (by omega) f1 f2 hsrt (fun z => q (P2.mpr (And.intro z.2.2.1 (And.intro z.1 (by rw [← ew]; exact z.2.2.2.2)))))]
               exact ⟨rfl, hS, onlyX.rf⟩)
            | (have q : ¬ bP 16 i n μ := zB_eq0.mp h77
               rw [opSh_c (by omega) (by omega) f1 f2 hsrt (fun z => q (P1.mpr (And.intro z.2.1 (And.intro z.1 (by rw [← em]; exact z.2.2.2.1)))))]
               exact ⟨rfl, hS, onlyX.rf⟩)
            | (have q := zB_eq0.mp h63
               have f1 : hHeld S 3 = 2 := R1.mp (zB_ne0.mp h50)
               have n2 : ¬ hHeld S 3 = 0 := fun z => (show ¬ bE 16 μ from zB_eq0.mp h39) (E2.mpr z)
               rw [opSh_b (by omega) (by omega) (by rw [f1]; decide) n2 (by
                 by_cases z : hHeld S 3 = 2
                 · refine Or.inr (Or.inr (fun y => q (And.intro (R2.mpr z) ?_)))
                   exact (show μ.1 16 2 = _ from (xsh2 hS hok (show 3 < 6 by omega) z).1).trans (y.symm.trans (show μ.1 16 2 = _ from (xsh2 hS hok (show 3 < 6 by omega) f1).1).symm)
                 · exact Or.inr (Or.inl (xsh1 hok (by omega) n2 z)))]
               exact ⟨rfl, hS, onlyX.rf⟩)
            | (have q : ¬ bR 16 μ := zB_eq0.mp h50
               have n1 : ¬ hHeld S 3 = 0 := fun z => (show ¬ bE 16 μ from zB_eq0.mp h31) (E1.mpr z)
               have n2 : ¬ hHeld S 3 = 0 := fun z => (show ¬ bE 16 μ from zB_eq0.mp h39) (E2.mpr z)
               rw [opSh_b (by omega) (by omega) n1 n2 (Or.inl (xsh1 hok (by omega) n1 (fun z => q (R1.mpr z))))]
               exact ⟨rfl, hS, onlyX.rf⟩)
            | (have q : bE 16 μ := zB_ne0.mp h39
               rw [opSh_a (by omega) (by omega) (Or.inr (E2.mp q))]
               exact ⟨rfl, hS, onlyX.rf⟩)
            | (have q : bE 16 μ := zB_ne0.mp h31
               rw [opSh_a (by omega) (by omega) (Or.inl (E1.mp q))]
               exact ⟨rfl, hS, onlyX.rf⟩)
    · refine zb X_shift_s42 rfl ?_
      refine z_ret X_shift_d44 rfl ?_
      first
        | (have f := fin_shift (s := 3) (p := 3) (a := x) (b := y) (N := N) hS (by omega) (by omega) (by omega)
           rw [cN, cx, cy]
           exact ⟨rfl, f.1, f.2⟩)
        | (have q : ¬ bP 16 j n μ := zB_eq0.mp h89
           rw [opSh_c (by omega) (by omega) f1 f2 hsrt (fun z => q (P2.mpr (And.intro z.2.2.1 (And.intro z.1 (by rw [← ew]; exact z.2.2.2.2)))))]
           exact ⟨rfl, hS, onlyX.rf⟩)
        | (have q : ¬ bP 16 i n μ := zB_eq0.mp h77
           rw [opSh_c (by omega) (by omega) f1 f2 hsrt (fun z => q (P1.mpr (And.intro z.2.1 (And.intro z.1 (by rw [← em]; exact z.2.2.2.1)))))]
           exact ⟨rfl, hS, onlyX.rf⟩)
        | (have q := zB_eq0.mp h63
           have f1 : hHeld S 3 = 2 := R1.mp (zB_ne0.mp h50)
           have n2 : ¬ hHeld S 3 = 0 := fun z => (show ¬ bE 16 μ from zB_eq0.mp h39) (E2.mpr z)
           rw [opSh_b (by omega) (by omega) (by rw [f1]; decide) n2 (by
             by_cases z : hHeld S 3 = 2
             · refine Or.inr (Or.inr (fun y => q (And.intro (R2.mpr z) ?_)))
               exact (show μ.1 16 2 = _ from (xsh2 hS hok (show 3 < 6 by omega) z).1).trans (y.symm.trans (show μ.1 16 2 = _ from (xsh2 hS hok (show 3 < 6 by omega) f1).1).symm)
             · exact Or.inr (Or.inl (xsh1 hok (by omega) n2 z)))]
           exact ⟨rfl, hS, onlyX.rf⟩)
        | (have q : ¬ bR 16 μ := zB_eq0.mp h50
           have n1 : ¬ hHeld S 3 = 0 := fun z => (show ¬ bE 16 μ from zB_eq0.mp h31) (E1.mpr z)
           have n2 : ¬ hHeld S 3 = 0 := fun z => (show ¬ bE 16 μ from zB_eq0.mp h39) (E2.mpr z)
           rw [opSh_b (by omega) (by omega) n1 n2 (Or.inl (xsh1 hok (by omega) n1 (fun z => q (R1.mpr z))))]
           exact ⟨rfl, hS, onlyX.rf⟩)
        | (have q : bE 16 μ := zB_ne0.mp h39
           rw [opSh_a (by omega) (by omega) (Or.inr (E2.mp q))]
           exact ⟨rfl, hS, onlyX.rf⟩)
        | (have q : bE 16 μ := zB_ne0.mp h31
           rw [opSh_a (by omega) (by omega) (Or.inl (E1.mp q))]
           exact ⟨rfl, hS, onlyX.rf⟩)

set_option maxRecDepth 100000 in
set_option maxHeartbeats 4000000 in
theorem xs_shift_3_4 {g : zG} {d : Nat} {S : zS} {μ : zMem} {i j n : Int32} (hd : 2 ≤ d) (hS : xS S μ) (hok : okH S) : zM g d X_shift [.ref 1, .int (nI 3), .int i, .int (nI 4), .int j, .int n] μ (pO xS onlyX (opShift S (nI 3) i (nI 4) j n) μ) := by
  refine zM_of (by decide +kernel) rfl rfl (Nat.le_of_ble_eq_true rfl) rfl ?_
  obtain ⟨ho, h2, hT, hC, hD, hI, hA, hH⟩ := hS
  have hS : xS S μ := ⟨ho, h2, hT, hC, hD, hI, hA, hH⟩
  have hb := ho.b
  have hv := ho.v
  have hB6 := ho.b6
  have hV12 := ho.v12
  have hz : zq sX μ μ := zq.rf
  have E1 := xshE (s := 3) hS hok (by omega)
  have E2 := xshE (s := 4) hS hok (by omega)
  have R1 := xshR (s := 3) hS hok (by omega)
  have R2 := xshR (s := 4) hS hok (by omega)
  refine zb X_shift_s0 rfl ?_
  refine zcallV X_shift_d2 k10_93 (by omega) (x_shelf_3 (by omega)) rfl rfl rfl (Nat.le_of_ble_eq_true rfl) ?_
  rintro _ μx ⟨rfl, hx⟩
  rw [hx]
  clear hx μx
  refine zb X_shift_s5 rfl ?_
  refine zcallV X_shift_d9 k10_93 (by omega) (x_shelf_4 (by omega)) rfl rfl rfl (Nat.le_of_ble_eq_true rfl) ?_
  rintro _ μx ⟨rfl, hx⟩
  rw [hx]
  clear hx μx
  refine zb X_shift_s12 rfl ?_
  refine z_null X_shift_d16 ?_
  refine zb X_shift_s19 rfl ?_
  refine z_nonnull X_shift_d21 (tgt := 26) rfl ?_
  refine zb X_shift_s26 rfl ?_
  refine zcallV X_shift_d28 k10_97 (by omega) (x_isEmpty_3) rfl rfl rfl (Nat.le_of_ble_eq_true rfl) ?_
  rintro _ μx ⟨rfl, hx⟩
  rw [hx]
  clear hx μx
  refine z_ne X_shift_d31 (tgt := 42) rfl (fun h31 => ?_) (fun h31 => ?_)
  · refine zb X_shift_s42 rfl ?_
    refine z_ret X_shift_d44 rfl ?_
    first
      | (have f := fin_shift (s := 3) (p := 4) (a := x) (b := y) (N := N) hS (by omega) (by omega) (by omega)
         rw [cN, cx, cy]
         exact ⟨rfl, f.1, f.2⟩)
      | (have q : ¬ bP 17 j n μ := zB_eq0.mp h89
         rw [opSh_c (by omega) (by omega) f1 f2 hsrt (fun z => q (P2.mpr (And.intro z.2.2.1 (And.intro z.1 (by rw [← ew]; exact z.2.2.2.2)))))]
         exact ⟨rfl, hS, onlyX.rf⟩)
      | (have q : ¬ bP 16 i n μ := zB_eq0.mp h77
         rw [opSh_c (by omega) (by omega) f1 f2 hsrt (fun z => q (P1.mpr (And.intro z.2.1 (And.intro z.1 (by rw [← em]; exact z.2.2.2.1)))))]
         exact ⟨rfl, hS, onlyX.rf⟩)
      | (have q := zB_eq0.mp h63
         have f1 : hHeld S 3 = 2 := R1.mp (zB_ne0.mp h50)
         have n2 : ¬ hHeld S 4 = 0 := fun z => (show ¬ bE 17 μ from zB_eq0.mp h39) (E2.mpr z)
         rw [opSh_b (by omega) (by omega) (by rw [f1]; decide) n2 (by
           by_cases z : hHeld S 4 = 2
           · refine Or.inr (Or.inr (fun y => q (And.intro (R2.mpr z) ?_)))
             exact (show μ.1 17 2 = _ from (xsh2 hS hok (show 4 < 6 by omega) z).1).trans (y.symm.trans (show μ.1 16 2 = _ from (xsh2 hS hok (show 3 < 6 by omega) f1).1).symm)
           · exact Or.inr (Or.inl (xsh1 hok (by omega) n2 z)))]
         exact ⟨rfl, hS, onlyX.rf⟩)
      | (have q : ¬ bR 16 μ := zB_eq0.mp h50
         have n1 : ¬ hHeld S 3 = 0 := fun z => (show ¬ bE 16 μ from zB_eq0.mp h31) (E1.mpr z)
         have n2 : ¬ hHeld S 4 = 0 := fun z => (show ¬ bE 17 μ from zB_eq0.mp h39) (E2.mpr z)
         rw [opSh_b (by omega) (by omega) n1 n2 (Or.inl (xsh1 hok (by omega) n1 (fun z => q (R1.mpr z))))]
         exact ⟨rfl, hS, onlyX.rf⟩)
      | (have q : bE 17 μ := zB_ne0.mp h39
         rw [opSh_a (by omega) (by omega) (Or.inr (E2.mp q))]
         exact ⟨rfl, hS, onlyX.rf⟩)
      | (have q : bE 16 μ := zB_ne0.mp h31
         rw [opSh_a (by omega) (by omega) (Or.inl (E1.mp q))]
         exact ⟨rfl, hS, onlyX.rf⟩)
  · refine zb X_shift_s34 rfl ?_
    refine zcallV X_shift_d36 k10_97 (by omega) (x_isEmpty_4) rfl rfl rfl (Nat.le_of_ble_eq_true rfl) ?_
    rintro _ μx ⟨rfl, hx⟩
    rw [hx]
    clear hx μx
    refine z_eq X_shift_d39 (tgt := 45) rfl (fun h39 => ?_) (fun h39 => ?_)
    · refine zb X_shift_s45 rfl ?_
      refine zcallV X_shift_d47 k10_357 (by omega) (x_isRow_3) rfl rfl rfl (Nat.le_of_ble_eq_true rfl) ?_
      rintro _ μx ⟨rfl, hx⟩
      rw [hx]
      clear hx μx
      refine z_eq X_shift_d50 (tgt := 66) rfl (fun h50 => ?_) (fun h50 => ?_)
      · refine zb X_shift_s66 rfl ?_
        refine z_ret X_shift_d68 rfl ?_
        first
          | (have f := fin_shift (s := 3) (p := 4) (a := x) (b := y) (N := N) hS (by omega) (by omega) (by omega)
             rw [cN, cx, cy]
             exact ⟨rfl, f.1, f.2⟩)
          | (have q : ¬ bP 17 j n μ := zB_eq0.mp h89
             rw [opSh_c (by omega) (by omega) f1 f2 hsrt (fun z => q (P2.mpr (And.intro z.2.2.1 (And.intro z.1 (by rw [← ew]; exact z.2.2.2.2)))))]
             exact ⟨rfl, hS, onlyX.rf⟩)
          | (have q : ¬ bP 16 i n μ := zB_eq0.mp h77
             rw [opSh_c (by omega) (by omega) f1 f2 hsrt (fun z => q (P1.mpr (And.intro z.2.1 (And.intro z.1 (by rw [← em]; exact z.2.2.2.1)))))]
             exact ⟨rfl, hS, onlyX.rf⟩)
          | (have q := zB_eq0.mp h63
             have f1 : hHeld S 3 = 2 := R1.mp (zB_ne0.mp h50)
             have n2 : ¬ hHeld S 4 = 0 := fun z => (show ¬ bE 17 μ from zB_eq0.mp h39) (E2.mpr z)
             rw [opSh_b (by omega) (by omega) (by rw [f1]; decide) n2 (by
               by_cases z : hHeld S 4 = 2
               · refine Or.inr (Or.inr (fun y => q (And.intro (R2.mpr z) ?_)))
                 exact (show μ.1 17 2 = _ from (xsh2 hS hok (show 4 < 6 by omega) z).1).trans (y.symm.trans (show μ.1 16 2 = _ from (xsh2 hS hok (show 3 < 6 by omega) f1).1).symm)
               · exact Or.inr (Or.inl (xsh1 hok (by omega) n2 z)))]
             exact ⟨rfl, hS, onlyX.rf⟩)
          | (have q : ¬ bR 16 μ := zB_eq0.mp h50
             have n1 : ¬ hHeld S 3 = 0 := fun z => (show ¬ bE 16 μ from zB_eq0.mp h31) (E1.mpr z)
             have n2 : ¬ hHeld S 4 = 0 := fun z => (show ¬ bE 17 μ from zB_eq0.mp h39) (E2.mpr z)
             rw [opSh_b (by omega) (by omega) n1 n2 (Or.inl (xsh1 hok (by omega) n1 (fun z => q (R1.mpr z))))]
             exact ⟨rfl, hS, onlyX.rf⟩)
          | (have q : bE 17 μ := zB_ne0.mp h39
             rw [opSh_a (by omega) (by omega) (Or.inr (E2.mp q))]
             exact ⟨rfl, hS, onlyX.rf⟩)
          | (have q : bE 16 μ := zB_ne0.mp h31
             rw [opSh_a (by omega) (by omega) (Or.inl (E1.mp q))]
             exact ⟨rfl, hS, onlyX.rf⟩)
      · refine zb X_shift_s53 rfl ?_
        refine zcallV X_shift_d60 k10_101 (by omega) (x_isRowOf_4 _ (by omega)) rfl rfl rfl (Nat.le_of_ble_eq_true rfl) ?_
        rintro _ μx ⟨rfl, hx⟩
        rw [hx]
        clear hx μx
        refine z_ne X_shift_d63 (tgt := 69) rfl (fun h63 => ?_) (fun h63 => ?_)
        · have f1 : hHeld S 3 = 2 := R1.mp (zB_ne0.mp h50)
          have f2 : hHeld S 4 = 2 := R2.mp (zB_ne0.mp h63).1
          obtain ⟨a1, a2, m, hm, em⟩ := xsh2 hS hok (show 3 < 6 by omega) f1
          obtain ⟨b1, b2, w, hw, ew⟩ := xsh2 hS hok (show 4 < 6 by omega) f2
          have hsrt : hSort S 3 = hSort S 4 := a1.symm.trans ((zB_ne0.mp h63).2.symm.trans b1)
          have P1 := bPn (i := i) (n := n) hm (a2.trans em)
          have P2 := bPn (i := j) (n := n) hw (b2.trans ew)
          refine zb X_shift_s69 rfl ?_
          refine zcallV X_shift_d74 k10_363 (by omega) (x_hasPlaces_3 _ _) rfl rfl rfl (Nat.le_of_ble_eq_true rfl) ?_
          rintro _ μx ⟨rfl, hx⟩
          rw [hx]
          clear hx μx
          refine z_eq X_shift_d77 (tgt := 92) rfl (fun h77 => ?_) (fun h77 => ?_)
          · refine zb X_shift_s92 rfl ?_
            refine z_ret X_shift_d94 rfl ?_
            first
              | (have f := fin_shift (s := 3) (p := 4) (a := x) (b := y) (N := N) hS (by omega) (by omega) (by omega)
                 rw [cN, cx, cy]
                 exact ⟨rfl, f.1, f.2⟩)
              | (have q : ¬ bP 17 j n μ := zB_eq0.mp h89
                 rw [opSh_c (by omega) (by omega) f1 f2 hsrt (fun z => q (P2.mpr (And.intro z.2.2.1 (And.intro z.1 (by rw [← ew]; exact z.2.2.2.2)))))]
                 exact ⟨rfl, hS, onlyX.rf⟩)
              | (have q : ¬ bP 16 i n μ := zB_eq0.mp h77
                 rw [opSh_c (by omega) (by omega) f1 f2 hsrt (fun z => q (P1.mpr (And.intro z.2.1 (And.intro z.1 (by rw [← em]; exact z.2.2.2.1)))))]
                 exact ⟨rfl, hS, onlyX.rf⟩)
              | (have q := zB_eq0.mp h63
                 have f1 : hHeld S 3 = 2 := R1.mp (zB_ne0.mp h50)
                 have n2 : ¬ hHeld S 4 = 0 := fun z => (show ¬ bE 17 μ from zB_eq0.mp h39) (E2.mpr z)
                 rw [opSh_b (by omega) (by omega) (by rw [f1]; decide) n2 (by
                   by_cases z : hHeld S 4 = 2
                   · refine Or.inr (Or.inr (fun y => q (And.intro (R2.mpr z) ?_)))
                     exact (show μ.1 17 2 = _ from (xsh2 hS hok (show 4 < 6 by omega) z).1).trans (y.symm.trans (show μ.1 16 2 = _ from (xsh2 hS hok (show 3 < 6 by omega) f1).1).symm)
                   · exact Or.inr (Or.inl (xsh1 hok (by omega) n2 z)))]
                 exact ⟨rfl, hS, onlyX.rf⟩)
              | (have q : ¬ bR 16 μ := zB_eq0.mp h50
                 have n1 : ¬ hHeld S 3 = 0 := fun z => (show ¬ bE 16 μ from zB_eq0.mp h31) (E1.mpr z)
                 have n2 : ¬ hHeld S 4 = 0 := fun z => (show ¬ bE 17 μ from zB_eq0.mp h39) (E2.mpr z)
                 rw [opSh_b (by omega) (by omega) n1 n2 (Or.inl (xsh1 hok (by omega) n1 (fun z => q (R1.mpr z))))]
                 exact ⟨rfl, hS, onlyX.rf⟩)
              | (have q : bE 17 μ := zB_ne0.mp h39
                 rw [opSh_a (by omega) (by omega) (Or.inr (E2.mp q))]
                 exact ⟨rfl, hS, onlyX.rf⟩)
              | (have q : bE 16 μ := zB_ne0.mp h31
                 rw [opSh_a (by omega) (by omega) (Or.inl (E1.mp q))]
                 exact ⟨rfl, hS, onlyX.rf⟩)
          · refine zb X_shift_s80 rfl ?_
            refine zcallV X_shift_d86 k10_363 (by omega) (x_hasPlaces_4 _ _) rfl rfl rfl (Nat.le_of_ble_eq_true rfl) ?_
            rintro _ μx ⟨rfl, hx⟩
            rw [hx]
            clear hx μx
            refine z_ne X_shift_d89 (tgt := 95) rfl (fun h89 => ?_) (fun h89 => ?_)
            · have g1 := P1.mp (zB_ne0.mp h77)
              have g2 := P2.mp (zB_ne0.mp h89)
              have hall : 0 ≤ n ∧ 0 ≤ i ∧ 0 ≤ j ∧ i ≤ hSize S 3 - n ∧ j ≤ hSize S 4 - n := by
                exact ⟨g1.2.1, g1.1, g2.1, by rw [em]; exact g1.2.2, by rw [ew]; exact g2.2.2⟩
              rw [opSh_d (by omega) (by omega) f1 f2 hsrt hall]
              clear hall
              obtain ⟨N, hN, rfl⟩ := nI_of (Int32.not_lt.mpr g1.2.1)
              obtain ⟨x, hx, rfl⟩ := nI_of (Int32.not_lt.mpr g1.1)
              obtain ⟨y, hy, rfl⟩ := nI_of (Int32.not_lt.mpr g2.1)
              have k1 := (le_sub hx hm hN).mp g1.2.2
              have k2 := (le_sub hy hw hN).mp g2.2.2
              have cN : (nI N).toNatClampNeg = N := nI_clamp hN
              have cx : (nI x).toNatClampNeg = x := nI_clamp hx
              have cy : (nI y).toNatClampNeg = y := nI_clamp hy
              refine zb X_shift_s95 rfl ?_
              refine zcpL X_shift_d110 k10_366 (by omega) (Nat.le_of_ble_eq_true rfl) rfl rfl (nI_pos (by omega)) (nI_pos (by omega)) (nI_pos (by omega)) (by rw [cN, cx]; omega) (by rw [cN, cy]; omega) ?_
              refine zb X_shift_s113 rfl ?_
              refine z_ret X_shift_d115 rfl ?_
              first
                | (have f := fin_shift (s := 3) (p := 4) (a := x) (b := y) (N := N) hS (by omega) (by omega) (by omega)
                   rw [cN, cx, cy]
                   exact ⟨rfl, f.1, f.2⟩)
                | (have q : ¬ bP 17 j n μ := zB_eq0.mp h89
                   rw [opSh_c (by omega) (by omega) f1 f2 hsrt (fun z => q (P2.mpr (And.intro z.2.2.1 (And.intro z.1 (by rw [← ew]; exact z.2.2.2.2)))))]
                   exact ⟨rfl, hS, onlyX.rf⟩)
                | (have q : ¬ bP 16 i n μ := zB_eq0.mp h77
                   rw [opSh_c (by omega) (by omega) f1 f2 hsrt (fun z => q (P1.mpr (And.intro z.2.1 (And.intro z.1 (by rw [← em]; exact z.2.2.2.1)))))]
                   exact ⟨rfl, hS, onlyX.rf⟩)
                | (have q := zB_eq0.mp h63
                   have f1 : hHeld S 3 = 2 := R1.mp (zB_ne0.mp h50)
                   have n2 : ¬ hHeld S 4 = 0 := fun z => (show ¬ bE 17 μ from zB_eq0.mp h39) (E2.mpr z)
                   rw [opSh_b (by omega) (by omega) (by rw [f1]; decide) n2 (by
                     by_cases z : hHeld S 4 = 2
                     · refine Or.inr (Or.inr (fun y => q (And.intro (R2.mpr z) ?_)))
                       exact (show μ.1 17 2 = _ from (xsh2 hS hok (show 4 < 6 by omega) z).1).trans (y.symm.trans (show μ.1 16 2 = _ from (xsh2 hS hok (show 3 < 6 by omega) f1).1).symm)
                     · exact Or.inr (Or.inl (xsh1 hok (by omega) n2 z)))]
                   exact ⟨rfl, hS, onlyX.rf⟩)
                | (have q : ¬ bR 16 μ := zB_eq0.mp h50
                   have n1 : ¬ hHeld S 3 = 0 := fun z => (show ¬ bE 16 μ from zB_eq0.mp h31) (E1.mpr z)
                   have n2 : ¬ hHeld S 4 = 0 := fun z => (show ¬ bE 17 μ from zB_eq0.mp h39) (E2.mpr z)
                   rw [opSh_b (by omega) (by omega) n1 n2 (Or.inl (xsh1 hok (by omega) n1 (fun z => q (R1.mpr z))))]
                   exact ⟨rfl, hS, onlyX.rf⟩)
                | (have q : bE 17 μ := zB_ne0.mp h39
                   rw [opSh_a (by omega) (by omega) (Or.inr (E2.mp q))]
                   exact ⟨rfl, hS, onlyX.rf⟩)
                | (have q : bE 16 μ := zB_ne0.mp h31
                   rw [opSh_a (by omega) (by omega) (Or.inl (E1.mp q))]
                   exact ⟨rfl, hS, onlyX.rf⟩)
            · refine zb X_shift_s92 rfl ?_
              refine z_ret X_shift_d94 rfl ?_
              first
                | (have f := fin_shift (s := 3) (p := 4) (a := x) (b := y) (N := N) hS (by omega) (by omega) (by omega)
                   rw [cN, cx, cy]
                   exact ⟨rfl, f.1, f.2⟩)
                | (have q : ¬ bP 17 j n μ := zB_eq0.mp h89
                   rw [opSh_c (by omega) (by omega) f1 f2 hsrt (fun z => q (P2.mpr (And.intro z.2.2.1 (And.intro z.1 (by rw [← ew]; exact z.2.2.2.2)))))]
                   exact ⟨rfl, hS, onlyX.rf⟩)
                | (have q : ¬ bP 16 i n μ := zB_eq0.mp h77
                   rw [opSh_c (by omega) (by omega) f1 f2 hsrt (fun z => q (P1.mpr (And.intro z.2.1 (And.intro z.1 (by rw [← em]; exact z.2.2.2.1)))))]
                   exact ⟨rfl, hS, onlyX.rf⟩)
                | (have q := zB_eq0.mp h63
                   have f1 : hHeld S 3 = 2 := R1.mp (zB_ne0.mp h50)
                   have n2 : ¬ hHeld S 4 = 0 := fun z => (show ¬ bE 17 μ from zB_eq0.mp h39) (E2.mpr z)
                   rw [opSh_b (by omega) (by omega) (by rw [f1]; decide) n2 (by
                     by_cases z : hHeld S 4 = 2
                     · refine Or.inr (Or.inr (fun y => q (And.intro (R2.mpr z) ?_)))
                       exact (show μ.1 17 2 = _ from (xsh2 hS hok (show 4 < 6 by omega) z).1).trans (y.symm.trans (show μ.1 16 2 = _ from (xsh2 hS hok (show 3 < 6 by omega) f1).1).symm)
                     · exact Or.inr (Or.inl (xsh1 hok (by omega) n2 z)))]
                   exact ⟨rfl, hS, onlyX.rf⟩)
                | (have q : ¬ bR 16 μ := zB_eq0.mp h50
                   have n1 : ¬ hHeld S 3 = 0 := fun z => (show ¬ bE 16 μ from zB_eq0.mp h31) (E1.mpr z)
                   have n2 : ¬ hHeld S 4 = 0 := fun z => (show ¬ bE 17 μ from zB_eq0.mp h39) (E2.mpr z)
                   rw [opSh_b (by omega) (by omega) n1 n2 (Or.inl (xsh1 hok (by omega) n1 (fun z => q (R1.mpr z))))]
                   exact ⟨rfl, hS, onlyX.rf⟩)
                | (have q : bE 17 μ := zB_ne0.mp h39
                   rw [opSh_a (by omega) (by omega) (Or.inr (E2.mp q))]
                   exact ⟨rfl, hS, onlyX.rf⟩)
                | (have q : bE 16 μ := zB_ne0.mp h31
                   rw [opSh_a (by omega) (by omega) (Or.inl (E1.mp q))]
                   exact ⟨rfl, hS, onlyX.rf⟩)
        · refine zb X_shift_s66 rfl ?_
          refine z_ret X_shift_d68 rfl ?_
          first
            | (have f := fin_shift (s := 3) (p := 4) (a := x) (b := y) (N := N) hS (by omega) (by omega) (by omega)
               rw [cN, cx, cy]
               exact ⟨rfl, f.1, f.2⟩)
            | (have q : ¬ bP 17 j n μ := zB_eq0.mp h89
               rw [opSh_c (by omega) (by omega) f1 f2 hsrt (fun z => q (P2.mpr (And.intro z.2.2.1 (And.intro z.1 (by rw [← ew]; exact z.2.2.2.2)))))]
               exact ⟨rfl, hS, onlyX.rf⟩)
            | (have q : ¬ bP 16 i n μ := zB_eq0.mp h77
               rw [opSh_c (by omega) (by omega) f1 f2 hsrt (fun z => q (P1.mpr (And.intro z.2.1 (And.intro z.1 (by rw [← em]; exact z.2.2.2.1)))))]
               exact ⟨rfl, hS, onlyX.rf⟩)
            | (have q := zB_eq0.mp h63
               have f1 : hHeld S 3 = 2 := R1.mp (zB_ne0.mp h50)
               have n2 : ¬ hHeld S 4 = 0 := fun z => (show ¬ bE 17 μ from zB_eq0.mp h39) (E2.mpr z)
               rw [opSh_b (by omega) (by omega) (by rw [f1]; decide) n2 (by
                 by_cases z : hHeld S 4 = 2
                 · refine Or.inr (Or.inr (fun y => q (And.intro (R2.mpr z) ?_)))
                   exact (show μ.1 17 2 = _ from (xsh2 hS hok (show 4 < 6 by omega) z).1).trans (y.symm.trans (show μ.1 16 2 = _ from (xsh2 hS hok (show 3 < 6 by omega) f1).1).symm)
                 · exact Or.inr (Or.inl (xsh1 hok (by omega) n2 z)))]
               exact ⟨rfl, hS, onlyX.rf⟩)
            | (have q : ¬ bR 16 μ := zB_eq0.mp h50
               have n1 : ¬ hHeld S 3 = 0 := fun z => (show ¬ bE 16 μ from zB_eq0.mp h31) (E1.mpr z)
               have n2 : ¬ hHeld S 4 = 0 := fun z => (show ¬ bE 17 μ from zB_eq0.mp h39) (E2.mpr z)
               rw [opSh_b (by omega) (by omega) n1 n2 (Or.inl (xsh1 hok (by omega) n1 (fun z => q (R1.mpr z))))]
               exact ⟨rfl, hS, onlyX.rf⟩)
            | (have q : bE 17 μ := zB_ne0.mp h39
               rw [opSh_a (by omega) (by omega) (Or.inr (E2.mp q))]
               exact ⟨rfl, hS, onlyX.rf⟩)
            | (have q : bE 16 μ := zB_ne0.mp h31
               rw [opSh_a (by omega) (by omega) (Or.inl (E1.mp q))]
               exact ⟨rfl, hS, onlyX.rf⟩)
    · refine zb X_shift_s42 rfl ?_
      refine z_ret X_shift_d44 rfl ?_
      first
        | (have f := fin_shift (s := 3) (p := 4) (a := x) (b := y) (N := N) hS (by omega) (by omega) (by omega)
           rw [cN, cx, cy]
           exact ⟨rfl, f.1, f.2⟩)
        | (have q : ¬ bP 17 j n μ := zB_eq0.mp h89
           rw [opSh_c (by omega) (by omega) f1 f2 hsrt (fun z => q (P2.mpr (And.intro z.2.2.1 (And.intro z.1 (by rw [← ew]; exact z.2.2.2.2)))))]
           exact ⟨rfl, hS, onlyX.rf⟩)
        | (have q : ¬ bP 16 i n μ := zB_eq0.mp h77
           rw [opSh_c (by omega) (by omega) f1 f2 hsrt (fun z => q (P1.mpr (And.intro z.2.1 (And.intro z.1 (by rw [← em]; exact z.2.2.2.1)))))]
           exact ⟨rfl, hS, onlyX.rf⟩)
        | (have q := zB_eq0.mp h63
           have f1 : hHeld S 3 = 2 := R1.mp (zB_ne0.mp h50)
           have n2 : ¬ hHeld S 4 = 0 := fun z => (show ¬ bE 17 μ from zB_eq0.mp h39) (E2.mpr z)
           rw [opSh_b (by omega) (by omega) (by rw [f1]; decide) n2 (by
             by_cases z : hHeld S 4 = 2
             · refine Or.inr (Or.inr (fun y => q (And.intro (R2.mpr z) ?_)))
               exact (show μ.1 17 2 = _ from (xsh2 hS hok (show 4 < 6 by omega) z).1).trans (y.symm.trans (show μ.1 16 2 = _ from (xsh2 hS hok (show 3 < 6 by omega) f1).1).symm)
             · exact Or.inr (Or.inl (xsh1 hok (by omega) n2 z)))]
           exact ⟨rfl, hS, onlyX.rf⟩)
        | (have q : ¬ bR 16 μ := zB_eq0.mp h50
           have n1 : ¬ hHeld S 3 = 0 := fun z => (show ¬ bE 16 μ from zB_eq0.mp h31) (E1.mpr z)
           have n2 : ¬ hHeld S 4 = 0 := fun z => (show ¬ bE 17 μ from zB_eq0.mp h39) (E2.mpr z)
           rw [opSh_b (by omega) (by omega) n1 n2 (Or.inl (xsh1 hok (by omega) n1 (fun z => q (R1.mpr z))))]
           exact ⟨rfl, hS, onlyX.rf⟩)
        | (have q : bE 17 μ := zB_ne0.mp h39
           rw [opSh_a (by omega) (by omega) (Or.inr (E2.mp q))]
           exact ⟨rfl, hS, onlyX.rf⟩)
        | (have q : bE 16 μ := zB_ne0.mp h31
           rw [opSh_a (by omega) (by omega) (Or.inl (E1.mp q))]
           exact ⟨rfl, hS, onlyX.rf⟩)

set_option maxRecDepth 100000 in
set_option maxHeartbeats 4000000 in
theorem xs_shift_3_5 {g : zG} {d : Nat} {S : zS} {μ : zMem} {i j n : Int32} (hd : 2 ≤ d) (hS : xS S μ) (hok : okH S) : zM g d X_shift [.ref 1, .int (nI 3), .int i, .int (nI 5), .int j, .int n] μ (pO xS onlyX (opShift S (nI 3) i (nI 5) j n) μ) := by
  refine zM_of (by decide +kernel) rfl rfl (Nat.le_of_ble_eq_true rfl) rfl ?_
  obtain ⟨ho, h2, hT, hC, hD, hI, hA, hH⟩ := hS
  have hS : xS S μ := ⟨ho, h2, hT, hC, hD, hI, hA, hH⟩
  have hb := ho.b
  have hv := ho.v
  have hB6 := ho.b6
  have hV12 := ho.v12
  have hz : zq sX μ μ := zq.rf
  have E1 := xshE (s := 3) hS hok (by omega)
  have E2 := xshE (s := 5) hS hok (by omega)
  have R1 := xshR (s := 3) hS hok (by omega)
  have R2 := xshR (s := 5) hS hok (by omega)
  refine zb X_shift_s0 rfl ?_
  refine zcallV X_shift_d2 k10_93 (by omega) (x_shelf_3 (by omega)) rfl rfl rfl (Nat.le_of_ble_eq_true rfl) ?_
  rintro _ μx ⟨rfl, hx⟩
  rw [hx]
  clear hx μx
  refine zb X_shift_s5 rfl ?_
  refine zcallV X_shift_d9 k10_93 (by omega) (x_shelf_5 (by omega)) rfl rfl rfl (Nat.le_of_ble_eq_true rfl) ?_
  rintro _ μx ⟨rfl, hx⟩
  rw [hx]
  clear hx μx
  refine zb X_shift_s12 rfl ?_
  refine z_null X_shift_d16 ?_
  refine zb X_shift_s19 rfl ?_
  refine z_nonnull X_shift_d21 (tgt := 26) rfl ?_
  refine zb X_shift_s26 rfl ?_
  refine zcallV X_shift_d28 k10_97 (by omega) (x_isEmpty_3) rfl rfl rfl (Nat.le_of_ble_eq_true rfl) ?_
  rintro _ μx ⟨rfl, hx⟩
  rw [hx]
  clear hx μx
  refine z_ne X_shift_d31 (tgt := 42) rfl (fun h31 => ?_) (fun h31 => ?_)
  · refine zb X_shift_s42 rfl ?_
    refine z_ret X_shift_d44 rfl ?_
    first
      | (have f := fin_shift (s := 3) (p := 5) (a := x) (b := y) (N := N) hS (by omega) (by omega) (by omega)
         rw [cN, cx, cy]
         exact ⟨rfl, f.1, f.2⟩)
      | (have q : ¬ bP 18 j n μ := zB_eq0.mp h89
         rw [opSh_c (by omega) (by omega) f1 f2 hsrt (fun z => q (P2.mpr (And.intro z.2.2.1 (And.intro z.1 (by rw [← ew]; exact z.2.2.2.2)))))]
         exact ⟨rfl, hS, onlyX.rf⟩)
      | (have q : ¬ bP 16 i n μ := zB_eq0.mp h77
         rw [opSh_c (by omega) (by omega) f1 f2 hsrt (fun z => q (P1.mpr (And.intro z.2.1 (And.intro z.1 (by rw [← em]; exact z.2.2.2.1)))))]
         exact ⟨rfl, hS, onlyX.rf⟩)
      | (have q := zB_eq0.mp h63
         have f1 : hHeld S 3 = 2 := R1.mp (zB_ne0.mp h50)
         have n2 : ¬ hHeld S 5 = 0 := fun z => (show ¬ bE 18 μ from zB_eq0.mp h39) (E2.mpr z)
         rw [opSh_b (by omega) (by omega) (by rw [f1]; decide) n2 (by
           by_cases z : hHeld S 5 = 2
           · refine Or.inr (Or.inr (fun y => q (And.intro (R2.mpr z) ?_)))
             exact (show μ.1 18 2 = _ from (xsh2 hS hok (show 5 < 6 by omega) z).1).trans (y.symm.trans (show μ.1 16 2 = _ from (xsh2 hS hok (show 3 < 6 by omega) f1).1).symm)
           · exact Or.inr (Or.inl (xsh1 hok (by omega) n2 z)))]
         exact ⟨rfl, hS, onlyX.rf⟩)
      | (have q : ¬ bR 16 μ := zB_eq0.mp h50
         have n1 : ¬ hHeld S 3 = 0 := fun z => (show ¬ bE 16 μ from zB_eq0.mp h31) (E1.mpr z)
         have n2 : ¬ hHeld S 5 = 0 := fun z => (show ¬ bE 18 μ from zB_eq0.mp h39) (E2.mpr z)
         rw [opSh_b (by omega) (by omega) n1 n2 (Or.inl (xsh1 hok (by omega) n1 (fun z => q (R1.mpr z))))]
         exact ⟨rfl, hS, onlyX.rf⟩)
      | (have q : bE 18 μ := zB_ne0.mp h39
         rw [opSh_a (by omega) (by omega) (Or.inr (E2.mp q))]
         exact ⟨rfl, hS, onlyX.rf⟩)
      | (have q : bE 16 μ := zB_ne0.mp h31
         rw [opSh_a (by omega) (by omega) (Or.inl (E1.mp q))]
         exact ⟨rfl, hS, onlyX.rf⟩)
  · refine zb X_shift_s34 rfl ?_
    refine zcallV X_shift_d36 k10_97 (by omega) (x_isEmpty_5) rfl rfl rfl (Nat.le_of_ble_eq_true rfl) ?_
    rintro _ μx ⟨rfl, hx⟩
    rw [hx]
    clear hx μx
    refine z_eq X_shift_d39 (tgt := 45) rfl (fun h39 => ?_) (fun h39 => ?_)
    · refine zb X_shift_s45 rfl ?_
      refine zcallV X_shift_d47 k10_357 (by omega) (x_isRow_3) rfl rfl rfl (Nat.le_of_ble_eq_true rfl) ?_
      rintro _ μx ⟨rfl, hx⟩
      rw [hx]
      clear hx μx
      refine z_eq X_shift_d50 (tgt := 66) rfl (fun h50 => ?_) (fun h50 => ?_)
      · refine zb X_shift_s66 rfl ?_
        refine z_ret X_shift_d68 rfl ?_
        first
          | (have f := fin_shift (s := 3) (p := 5) (a := x) (b := y) (N := N) hS (by omega) (by omega) (by omega)
             rw [cN, cx, cy]
             exact ⟨rfl, f.1, f.2⟩)
          | (have q : ¬ bP 18 j n μ := zB_eq0.mp h89
             rw [opSh_c (by omega) (by omega) f1 f2 hsrt (fun z => q (P2.mpr (And.intro z.2.2.1 (And.intro z.1 (by rw [← ew]; exact z.2.2.2.2)))))]
             exact ⟨rfl, hS, onlyX.rf⟩)
          | (have q : ¬ bP 16 i n μ := zB_eq0.mp h77
             rw [opSh_c (by omega) (by omega) f1 f2 hsrt (fun z => q (P1.mpr (And.intro z.2.1 (And.intro z.1 (by rw [← em]; exact z.2.2.2.1)))))]
             exact ⟨rfl, hS, onlyX.rf⟩)
          | (have q := zB_eq0.mp h63
             have f1 : hHeld S 3 = 2 := R1.mp (zB_ne0.mp h50)
             have n2 : ¬ hHeld S 5 = 0 := fun z => (show ¬ bE 18 μ from zB_eq0.mp h39) (E2.mpr z)
             rw [opSh_b (by omega) (by omega) (by rw [f1]; decide) n2 (by
               by_cases z : hHeld S 5 = 2
               · refine Or.inr (Or.inr (fun y => q (And.intro (R2.mpr z) ?_)))
                 exact (show μ.1 18 2 = _ from (xsh2 hS hok (show 5 < 6 by omega) z).1).trans (y.symm.trans (show μ.1 16 2 = _ from (xsh2 hS hok (show 3 < 6 by omega) f1).1).symm)
               · exact Or.inr (Or.inl (xsh1 hok (by omega) n2 z)))]
             exact ⟨rfl, hS, onlyX.rf⟩)
          | (have q : ¬ bR 16 μ := zB_eq0.mp h50
             have n1 : ¬ hHeld S 3 = 0 := fun z => (show ¬ bE 16 μ from zB_eq0.mp h31) (E1.mpr z)
             have n2 : ¬ hHeld S 5 = 0 := fun z => (show ¬ bE 18 μ from zB_eq0.mp h39) (E2.mpr z)
             rw [opSh_b (by omega) (by omega) n1 n2 (Or.inl (xsh1 hok (by omega) n1 (fun z => q (R1.mpr z))))]
             exact ⟨rfl, hS, onlyX.rf⟩)
          | (have q : bE 18 μ := zB_ne0.mp h39
             rw [opSh_a (by omega) (by omega) (Or.inr (E2.mp q))]
             exact ⟨rfl, hS, onlyX.rf⟩)
          | (have q : bE 16 μ := zB_ne0.mp h31
             rw [opSh_a (by omega) (by omega) (Or.inl (E1.mp q))]
             exact ⟨rfl, hS, onlyX.rf⟩)
      · refine zb X_shift_s53 rfl ?_
        refine zcallV X_shift_d60 k10_101 (by omega) (x_isRowOf_5 _ (by omega)) rfl rfl rfl (Nat.le_of_ble_eq_true rfl) ?_
        rintro _ μx ⟨rfl, hx⟩
        rw [hx]
        clear hx μx
        refine z_ne X_shift_d63 (tgt := 69) rfl (fun h63 => ?_) (fun h63 => ?_)
        · have f1 : hHeld S 3 = 2 := R1.mp (zB_ne0.mp h50)
          have f2 : hHeld S 5 = 2 := R2.mp (zB_ne0.mp h63).1
          obtain ⟨a1, a2, m, hm, em⟩ := xsh2 hS hok (show 3 < 6 by omega) f1
          obtain ⟨b1, b2, w, hw, ew⟩ := xsh2 hS hok (show 5 < 6 by omega) f2
          have hsrt : hSort S 3 = hSort S 5 := a1.symm.trans ((zB_ne0.mp h63).2.symm.trans b1)
          have P1 := bPn (i := i) (n := n) hm (a2.trans em)
          have P2 := bPn (i := j) (n := n) hw (b2.trans ew)
          refine zb X_shift_s69 rfl ?_
          refine zcallV X_shift_d74 k10_363 (by omega) (x_hasPlaces_3 _ _) rfl rfl rfl (Nat.le_of_ble_eq_true rfl) ?_
          rintro _ μx ⟨rfl, hx⟩
          rw [hx]
          clear hx μx
          refine z_eq X_shift_d77 (tgt := 92) rfl (fun h77 => ?_) (fun h77 => ?_)
          · refine zb X_shift_s92 rfl ?_
            refine z_ret X_shift_d94 rfl ?_
            first
              | (have f := fin_shift (s := 3) (p := 5) (a := x) (b := y) (N := N) hS (by omega) (by omega) (by omega)
                 rw [cN, cx, cy]
                 exact ⟨rfl, f.1, f.2⟩)
              | (have q : ¬ bP 18 j n μ := zB_eq0.mp h89
                 rw [opSh_c (by omega) (by omega) f1 f2 hsrt (fun z => q (P2.mpr (And.intro z.2.2.1 (And.intro z.1 (by rw [← ew]; exact z.2.2.2.2)))))]
                 exact ⟨rfl, hS, onlyX.rf⟩)
              | (have q : ¬ bP 16 i n μ := zB_eq0.mp h77
                 rw [opSh_c (by omega) (by omega) f1 f2 hsrt (fun z => q (P1.mpr (And.intro z.2.1 (And.intro z.1 (by rw [← em]; exact z.2.2.2.1)))))]
                 exact ⟨rfl, hS, onlyX.rf⟩)
              | (have q := zB_eq0.mp h63
                 have f1 : hHeld S 3 = 2 := R1.mp (zB_ne0.mp h50)
                 have n2 : ¬ hHeld S 5 = 0 := fun z => (show ¬ bE 18 μ from zB_eq0.mp h39) (E2.mpr z)
                 rw [opSh_b (by omega) (by omega) (by rw [f1]; decide) n2 (by
                   by_cases z : hHeld S 5 = 2
                   · refine Or.inr (Or.inr (fun y => q (And.intro (R2.mpr z) ?_)))
                     exact (show μ.1 18 2 = _ from (xsh2 hS hok (show 5 < 6 by omega) z).1).trans (y.symm.trans (show μ.1 16 2 = _ from (xsh2 hS hok (show 3 < 6 by omega) f1).1).symm)
                   · exact Or.inr (Or.inl (xsh1 hok (by omega) n2 z)))]
                 exact ⟨rfl, hS, onlyX.rf⟩)
              | (have q : ¬ bR 16 μ := zB_eq0.mp h50
                 have n1 : ¬ hHeld S 3 = 0 := fun z => (show ¬ bE 16 μ from zB_eq0.mp h31) (E1.mpr z)
                 have n2 : ¬ hHeld S 5 = 0 := fun z => (show ¬ bE 18 μ from zB_eq0.mp h39) (E2.mpr z)
                 rw [opSh_b (by omega) (by omega) n1 n2 (Or.inl (xsh1 hok (by omega) n1 (fun z => q (R1.mpr z))))]
                 exact ⟨rfl, hS, onlyX.rf⟩)
              | (have q : bE 18 μ := zB_ne0.mp h39
                 rw [opSh_a (by omega) (by omega) (Or.inr (E2.mp q))]
                 exact ⟨rfl, hS, onlyX.rf⟩)
              | (have q : bE 16 μ := zB_ne0.mp h31
                 rw [opSh_a (by omega) (by omega) (Or.inl (E1.mp q))]
                 exact ⟨rfl, hS, onlyX.rf⟩)
          · refine zb X_shift_s80 rfl ?_
            refine zcallV X_shift_d86 k10_363 (by omega) (x_hasPlaces_5 _ _) rfl rfl rfl (Nat.le_of_ble_eq_true rfl) ?_
            rintro _ μx ⟨rfl, hx⟩
            rw [hx]
            clear hx μx
            refine z_ne X_shift_d89 (tgt := 95) rfl (fun h89 => ?_) (fun h89 => ?_)
            · have g1 := P1.mp (zB_ne0.mp h77)
              have g2 := P2.mp (zB_ne0.mp h89)
              have hall : 0 ≤ n ∧ 0 ≤ i ∧ 0 ≤ j ∧ i ≤ hSize S 3 - n ∧ j ≤ hSize S 5 - n := by
                exact ⟨g1.2.1, g1.1, g2.1, by rw [em]; exact g1.2.2, by rw [ew]; exact g2.2.2⟩
              rw [opSh_d (by omega) (by omega) f1 f2 hsrt hall]
              clear hall
              obtain ⟨N, hN, rfl⟩ := nI_of (Int32.not_lt.mpr g1.2.1)
              obtain ⟨x, hx, rfl⟩ := nI_of (Int32.not_lt.mpr g1.1)
              obtain ⟨y, hy, rfl⟩ := nI_of (Int32.not_lt.mpr g2.1)
              have k1 := (le_sub hx hm hN).mp g1.2.2
              have k2 := (le_sub hy hw hN).mp g2.2.2
              have cN : (nI N).toNatClampNeg = N := nI_clamp hN
              have cx : (nI x).toNatClampNeg = x := nI_clamp hx
              have cy : (nI y).toNatClampNeg = y := nI_clamp hy
              refine zb X_shift_s95 rfl ?_
              refine zcpL X_shift_d110 k10_366 (by omega) (Nat.le_of_ble_eq_true rfl) rfl rfl (nI_pos (by omega)) (nI_pos (by omega)) (nI_pos (by omega)) (by rw [cN, cx]; omega) (by rw [cN, cy]; omega) ?_
              refine zb X_shift_s113 rfl ?_
              refine z_ret X_shift_d115 rfl ?_
              first
                | (have f := fin_shift (s := 3) (p := 5) (a := x) (b := y) (N := N) hS (by omega) (by omega) (by omega)
                   rw [cN, cx, cy]
                   exact ⟨rfl, f.1, f.2⟩)
                | (have q : ¬ bP 18 j n μ := zB_eq0.mp h89
                   rw [opSh_c (by omega) (by omega) f1 f2 hsrt (fun z => q (P2.mpr (And.intro z.2.2.1 (And.intro z.1 (by rw [← ew]; exact z.2.2.2.2)))))]
                   exact ⟨rfl, hS, onlyX.rf⟩)
                | (have q : ¬ bP 16 i n μ := zB_eq0.mp h77
                   rw [opSh_c (by omega) (by omega) f1 f2 hsrt (fun z => q (P1.mpr (And.intro z.2.1 (And.intro z.1 (by rw [← em]; exact z.2.2.2.1)))))]
                   exact ⟨rfl, hS, onlyX.rf⟩)
                | (have q := zB_eq0.mp h63
                   have f1 : hHeld S 3 = 2 := R1.mp (zB_ne0.mp h50)
                   have n2 : ¬ hHeld S 5 = 0 := fun z => (show ¬ bE 18 μ from zB_eq0.mp h39) (E2.mpr z)
                   rw [opSh_b (by omega) (by omega) (by rw [f1]; decide) n2 (by
                     by_cases z : hHeld S 5 = 2
                     · refine Or.inr (Or.inr (fun y => q (And.intro (R2.mpr z) ?_)))
                       exact (show μ.1 18 2 = _ from (xsh2 hS hok (show 5 < 6 by omega) z).1).trans (y.symm.trans (show μ.1 16 2 = _ from (xsh2 hS hok (show 3 < 6 by omega) f1).1).symm)
                     · exact Or.inr (Or.inl (xsh1 hok (by omega) n2 z)))]
                   exact ⟨rfl, hS, onlyX.rf⟩)
                | (have q : ¬ bR 16 μ := zB_eq0.mp h50
                   have n1 : ¬ hHeld S 3 = 0 := fun z => (show ¬ bE 16 μ from zB_eq0.mp h31) (E1.mpr z)
                   have n2 : ¬ hHeld S 5 = 0 := fun z => (show ¬ bE 18 μ from zB_eq0.mp h39) (E2.mpr z)
                   rw [opSh_b (by omega) (by omega) n1 n2 (Or.inl (xsh1 hok (by omega) n1 (fun z => q (R1.mpr z))))]
                   exact ⟨rfl, hS, onlyX.rf⟩)
                | (have q : bE 18 μ := zB_ne0.mp h39
                   rw [opSh_a (by omega) (by omega) (Or.inr (E2.mp q))]
                   exact ⟨rfl, hS, onlyX.rf⟩)
                | (have q : bE 16 μ := zB_ne0.mp h31
                   rw [opSh_a (by omega) (by omega) (Or.inl (E1.mp q))]
                   exact ⟨rfl, hS, onlyX.rf⟩)
            · refine zb X_shift_s92 rfl ?_
              refine z_ret X_shift_d94 rfl ?_
              first
                | (have f := fin_shift (s := 3) (p := 5) (a := x) (b := y) (N := N) hS (by omega) (by omega) (by omega)
                   rw [cN, cx, cy]
                   exact ⟨rfl, f.1, f.2⟩)
                | (have q : ¬ bP 18 j n μ := zB_eq0.mp h89
                   rw [opSh_c (by omega) (by omega) f1 f2 hsrt (fun z => q (P2.mpr (And.intro z.2.2.1 (And.intro z.1 (by rw [← ew]; exact z.2.2.2.2)))))]
                   exact ⟨rfl, hS, onlyX.rf⟩)
                | (have q : ¬ bP 16 i n μ := zB_eq0.mp h77
                   rw [opSh_c (by omega) (by omega) f1 f2 hsrt (fun z => q (P1.mpr (And.intro z.2.1 (And.intro z.1 (by rw [← em]; exact z.2.2.2.1)))))]
                   exact ⟨rfl, hS, onlyX.rf⟩)
                | (have q := zB_eq0.mp h63
                   have f1 : hHeld S 3 = 2 := R1.mp (zB_ne0.mp h50)
                   have n2 : ¬ hHeld S 5 = 0 := fun z => (show ¬ bE 18 μ from zB_eq0.mp h39) (E2.mpr z)
                   rw [opSh_b (by omega) (by omega) (by rw [f1]; decide) n2 (by
                     by_cases z : hHeld S 5 = 2
                     · refine Or.inr (Or.inr (fun y => q (And.intro (R2.mpr z) ?_)))
                       exact (show μ.1 18 2 = _ from (xsh2 hS hok (show 5 < 6 by omega) z).1).trans (y.symm.trans (show μ.1 16 2 = _ from (xsh2 hS hok (show 3 < 6 by omega) f1).1).symm)
                     · exact Or.inr (Or.inl (xsh1 hok (by omega) n2 z)))]
                   exact ⟨rfl, hS, onlyX.rf⟩)
                | (have q : ¬ bR 16 μ := zB_eq0.mp h50
                   have n1 : ¬ hHeld S 3 = 0 := fun z => (show ¬ bE 16 μ from zB_eq0.mp h31) (E1.mpr z)
                   have n2 : ¬ hHeld S 5 = 0 := fun z => (show ¬ bE 18 μ from zB_eq0.mp h39) (E2.mpr z)
                   rw [opSh_b (by omega) (by omega) n1 n2 (Or.inl (xsh1 hok (by omega) n1 (fun z => q (R1.mpr z))))]
                   exact ⟨rfl, hS, onlyX.rf⟩)
                | (have q : bE 18 μ := zB_ne0.mp h39
                   rw [opSh_a (by omega) (by omega) (Or.inr (E2.mp q))]
                   exact ⟨rfl, hS, onlyX.rf⟩)
                | (have q : bE 16 μ := zB_ne0.mp h31
                   rw [opSh_a (by omega) (by omega) (Or.inl (E1.mp q))]
                   exact ⟨rfl, hS, onlyX.rf⟩)
        · refine zb X_shift_s66 rfl ?_
          refine z_ret X_shift_d68 rfl ?_
          first
            | (have f := fin_shift (s := 3) (p := 5) (a := x) (b := y) (N := N) hS (by omega) (by omega) (by omega)
               rw [cN, cx, cy]
               exact ⟨rfl, f.1, f.2⟩)
            | (have q : ¬ bP 18 j n μ := zB_eq0.mp h89
               rw [opSh_c (by omega) (by omega) f1 f2 hsrt (fun z => q (P2.mpr (And.intro z.2.2.1 (And.intro z.1 (by rw [← ew]; exact z.2.2.2.2)))))]
               exact ⟨rfl, hS, onlyX.rf⟩)
            | (have q : ¬ bP 16 i n μ := zB_eq0.mp h77
               rw [opSh_c (by omega) (by omega) f1 f2 hsrt (fun z => q (P1.mpr (And.intro z.2.1 (And.intro z.1 (by rw [← em]; exact z.2.2.2.1)))))]
               exact ⟨rfl, hS, onlyX.rf⟩)
            | (have q := zB_eq0.mp h63
               have f1 : hHeld S 3 = 2 := R1.mp (zB_ne0.mp h50)
               have n2 : ¬ hHeld S 5 = 0 := fun z => (show ¬ bE 18 μ from zB_eq0.mp h39) (E2.mpr z)
               rw [opSh_b (by omega) (by omega) (by rw [f1]; decide) n2 (by
                 by_cases z : hHeld S 5 = 2
                 · refine Or.inr (Or.inr (fun y => q (And.intro (R2.mpr z) ?_)))
                   exact (show μ.1 18 2 = _ from (xsh2 hS hok (show 5 < 6 by omega) z).1).trans (y.symm.trans (show μ.1 16 2 = _ from (xsh2 hS hok (show 3 < 6 by omega) f1).1).symm)
                 · exact Or.inr (Or.inl (xsh1 hok (by omega) n2 z)))]
               exact ⟨rfl, hS, onlyX.rf⟩)
            | (have q : ¬ bR 16 μ := zB_eq0.mp h50
               have n1 : ¬ hHeld S 3 = 0 := fun z => (show ¬ bE 16 μ from zB_eq0.mp h31) (E1.mpr z)
               have n2 : ¬ hHeld S 5 = 0 := fun z => (show ¬ bE 18 μ from zB_eq0.mp h39) (E2.mpr z)
               rw [opSh_b (by omega) (by omega) n1 n2 (Or.inl (xsh1 hok (by omega) n1 (fun z => q (R1.mpr z))))]
               exact ⟨rfl, hS, onlyX.rf⟩)
            | (have q : bE 18 μ := zB_ne0.mp h39
               rw [opSh_a (by omega) (by omega) (Or.inr (E2.mp q))]
               exact ⟨rfl, hS, onlyX.rf⟩)
            | (have q : bE 16 μ := zB_ne0.mp h31
               rw [opSh_a (by omega) (by omega) (Or.inl (E1.mp q))]
               exact ⟨rfl, hS, onlyX.rf⟩)
    · refine zb X_shift_s42 rfl ?_
      refine z_ret X_shift_d44 rfl ?_
      first
        | (have f := fin_shift (s := 3) (p := 5) (a := x) (b := y) (N := N) hS (by omega) (by omega) (by omega)
           rw [cN, cx, cy]
           exact ⟨rfl, f.1, f.2⟩)
        | (have q : ¬ bP 18 j n μ := zB_eq0.mp h89
           rw [opSh_c (by omega) (by omega) f1 f2 hsrt (fun z => q (P2.mpr (And.intro z.2.2.1 (And.intro z.1 (by rw [← ew]; exact z.2.2.2.2)))))]
           exact ⟨rfl, hS, onlyX.rf⟩)
        | (have q : ¬ bP 16 i n μ := zB_eq0.mp h77
           rw [opSh_c (by omega) (by omega) f1 f2 hsrt (fun z => q (P1.mpr (And.intro z.2.1 (And.intro z.1 (by rw [← em]; exact z.2.2.2.1)))))]
           exact ⟨rfl, hS, onlyX.rf⟩)
        | (have q := zB_eq0.mp h63
           have f1 : hHeld S 3 = 2 := R1.mp (zB_ne0.mp h50)
           have n2 : ¬ hHeld S 5 = 0 := fun z => (show ¬ bE 18 μ from zB_eq0.mp h39) (E2.mpr z)
           rw [opSh_b (by omega) (by omega) (by rw [f1]; decide) n2 (by
             by_cases z : hHeld S 5 = 2
             · refine Or.inr (Or.inr (fun y => q (And.intro (R2.mpr z) ?_)))
               exact (show μ.1 18 2 = _ from (xsh2 hS hok (show 5 < 6 by omega) z).1).trans (y.symm.trans (show μ.1 16 2 = _ from (xsh2 hS hok (show 3 < 6 by omega) f1).1).symm)
             · exact Or.inr (Or.inl (xsh1 hok (by omega) n2 z)))]
           exact ⟨rfl, hS, onlyX.rf⟩)
        | (have q : ¬ bR 16 μ := zB_eq0.mp h50
           have n1 : ¬ hHeld S 3 = 0 := fun z => (show ¬ bE 16 μ from zB_eq0.mp h31) (E1.mpr z)
           have n2 : ¬ hHeld S 5 = 0 := fun z => (show ¬ bE 18 μ from zB_eq0.mp h39) (E2.mpr z)
           rw [opSh_b (by omega) (by omega) n1 n2 (Or.inl (xsh1 hok (by omega) n1 (fun z => q (R1.mpr z))))]
           exact ⟨rfl, hS, onlyX.rf⟩)
        | (have q : bE 18 μ := zB_ne0.mp h39
           rw [opSh_a (by omega) (by omega) (Or.inr (E2.mp q))]
           exact ⟨rfl, hS, onlyX.rf⟩)
        | (have q : bE 16 μ := zB_ne0.mp h31
           rw [opSh_a (by omega) (by omega) (Or.inl (E1.mp q))]
           exact ⟨rfl, hS, onlyX.rf⟩)

set_option maxRecDepth 100000 in
set_option maxHeartbeats 4000000 in
theorem xs_shift_4_0 {g : zG} {d : Nat} {S : zS} {μ : zMem} {i j n : Int32} (hd : 2 ≤ d) (hS : xS S μ) (hok : okH S) : zM g d X_shift [.ref 1, .int (nI 4), .int i, .int (nI 0), .int j, .int n] μ (pO xS onlyX (opShift S (nI 4) i (nI 0) j n) μ) := by
  refine zM_of (by decide +kernel) rfl rfl (Nat.le_of_ble_eq_true rfl) rfl ?_
  obtain ⟨ho, h2, hT, hC, hD, hI, hA, hH⟩ := hS
  have hS : xS S μ := ⟨ho, h2, hT, hC, hD, hI, hA, hH⟩
  have hb := ho.b
  have hv := ho.v
  have hB6 := ho.b6
  have hV12 := ho.v12
  have hz : zq sX μ μ := zq.rf
  have E1 := xshE (s := 4) hS hok (by omega)
  have E2 := xshE (s := 0) hS hok (by omega)
  have R1 := xshR (s := 4) hS hok (by omega)
  have R2 := xshR (s := 0) hS hok (by omega)
  refine zb X_shift_s0 rfl ?_
  refine zcallV X_shift_d2 k10_93 (by omega) (x_shelf_4 (by omega)) rfl rfl rfl (Nat.le_of_ble_eq_true rfl) ?_
  rintro _ μx ⟨rfl, hx⟩
  rw [hx]
  clear hx μx
  refine zb X_shift_s5 rfl ?_
  refine zcallV X_shift_d9 k10_93 (by omega) (x_shelf_0 (by omega)) rfl rfl rfl (Nat.le_of_ble_eq_true rfl) ?_
  rintro _ μx ⟨rfl, hx⟩
  rw [hx]
  clear hx μx
  refine zb X_shift_s12 rfl ?_
  refine z_null X_shift_d16 ?_
  refine zb X_shift_s19 rfl ?_
  refine z_nonnull X_shift_d21 (tgt := 26) rfl ?_
  refine zb X_shift_s26 rfl ?_
  refine zcallV X_shift_d28 k10_97 (by omega) (x_isEmpty_4) rfl rfl rfl (Nat.le_of_ble_eq_true rfl) ?_
  rintro _ μx ⟨rfl, hx⟩
  rw [hx]
  clear hx μx
  refine z_ne X_shift_d31 (tgt := 42) rfl (fun h31 => ?_) (fun h31 => ?_)
  · refine zb X_shift_s42 rfl ?_
    refine z_ret X_shift_d44 rfl ?_
    first
      | (have f := fin_shift (s := 4) (p := 0) (a := x) (b := y) (N := N) hS (by omega) (by omega) (by omega)
         rw [cN, cx, cy]
         exact ⟨rfl, f.1, f.2⟩)
      | (have q : ¬ bP 13 j n μ := zB_eq0.mp h89
         rw [opSh_c (by omega) (by omega) f1 f2 hsrt (fun z => q (P2.mpr (And.intro z.2.2.1 (And.intro z.1 (by rw [← ew]; exact z.2.2.2.2)))))]
         exact ⟨rfl, hS, onlyX.rf⟩)
      | (have q : ¬ bP 17 i n μ := zB_eq0.mp h77
         rw [opSh_c (by omega) (by omega) f1 f2 hsrt (fun z => q (P1.mpr (And.intro z.2.1 (And.intro z.1 (by rw [← em]; exact z.2.2.2.1)))))]
         exact ⟨rfl, hS, onlyX.rf⟩)
      | (have q := zB_eq0.mp h63
         have f1 : hHeld S 4 = 2 := R1.mp (zB_ne0.mp h50)
         have n2 : ¬ hHeld S 0 = 0 := fun z => (show ¬ bE 13 μ from zB_eq0.mp h39) (E2.mpr z)
         rw [opSh_b (by omega) (by omega) (by rw [f1]; decide) n2 (by
           by_cases z : hHeld S 0 = 2
           · refine Or.inr (Or.inr (fun y => q (And.intro (R2.mpr z) ?_)))
             exact (show μ.1 13 2 = _ from (xsh2 hS hok (show 0 < 6 by omega) z).1).trans (y.symm.trans (show μ.1 17 2 = _ from (xsh2 hS hok (show 4 < 6 by omega) f1).1).symm)
           · exact Or.inr (Or.inl (xsh1 hok (by omega) n2 z)))]
         exact ⟨rfl, hS, onlyX.rf⟩)
      | (have q : ¬ bR 17 μ := zB_eq0.mp h50
         have n1 : ¬ hHeld S 4 = 0 := fun z => (show ¬ bE 17 μ from zB_eq0.mp h31) (E1.mpr z)
         have n2 : ¬ hHeld S 0 = 0 := fun z => (show ¬ bE 13 μ from zB_eq0.mp h39) (E2.mpr z)
         rw [opSh_b (by omega) (by omega) n1 n2 (Or.inl (xsh1 hok (by omega) n1 (fun z => q (R1.mpr z))))]
         exact ⟨rfl, hS, onlyX.rf⟩)
      | (have q : bE 13 μ := zB_ne0.mp h39
         rw [opSh_a (by omega) (by omega) (Or.inr (E2.mp q))]
         exact ⟨rfl, hS, onlyX.rf⟩)
      | (have q : bE 17 μ := zB_ne0.mp h31
         rw [opSh_a (by omega) (by omega) (Or.inl (E1.mp q))]
         exact ⟨rfl, hS, onlyX.rf⟩)
  · refine zb X_shift_s34 rfl ?_
    refine zcallV X_shift_d36 k10_97 (by omega) (x_isEmpty_0) rfl rfl rfl (Nat.le_of_ble_eq_true rfl) ?_
    rintro _ μx ⟨rfl, hx⟩
    rw [hx]
    clear hx μx
    refine z_eq X_shift_d39 (tgt := 45) rfl (fun h39 => ?_) (fun h39 => ?_)
    · refine zb X_shift_s45 rfl ?_
      refine zcallV X_shift_d47 k10_357 (by omega) (x_isRow_4) rfl rfl rfl (Nat.le_of_ble_eq_true rfl) ?_
      rintro _ μx ⟨rfl, hx⟩
      rw [hx]
      clear hx μx
      refine z_eq X_shift_d50 (tgt := 66) rfl (fun h50 => ?_) (fun h50 => ?_)
      · refine zb X_shift_s66 rfl ?_
        refine z_ret X_shift_d68 rfl ?_
        first
          | (have f := fin_shift (s := 4) (p := 0) (a := x) (b := y) (N := N) hS (by omega) (by omega) (by omega)
             rw [cN, cx, cy]
             exact ⟨rfl, f.1, f.2⟩)
          | (have q : ¬ bP 13 j n μ := zB_eq0.mp h89
             rw [opSh_c (by omega) (by omega) f1 f2 hsrt (fun z => q (P2.mpr (And.intro z.2.2.1 (And.intro z.1 (by rw [← ew]; exact z.2.2.2.2)))))]
             exact ⟨rfl, hS, onlyX.rf⟩)
          | (have q : ¬ bP 17 i n μ := zB_eq0.mp h77
             rw [opSh_c (by omega) (by omega) f1 f2 hsrt (fun z => q (P1.mpr (And.intro z.2.1 (And.intro z.1 (by rw [← em]; exact z.2.2.2.1)))))]
             exact ⟨rfl, hS, onlyX.rf⟩)
          | (have q := zB_eq0.mp h63
             have f1 : hHeld S 4 = 2 := R1.mp (zB_ne0.mp h50)
             have n2 : ¬ hHeld S 0 = 0 := fun z => (show ¬ bE 13 μ from zB_eq0.mp h39) (E2.mpr z)
             rw [opSh_b (by omega) (by omega) (by rw [f1]; decide) n2 (by
               by_cases z : hHeld S 0 = 2
               · refine Or.inr (Or.inr (fun y => q (And.intro (R2.mpr z) ?_)))
                 exact (show μ.1 13 2 = _ from (xsh2 hS hok (show 0 < 6 by omega) z).1).trans (y.symm.trans (show μ.1 17 2 = _ from (xsh2 hS hok (show 4 < 6 by omega) f1).1).symm)
               · exact Or.inr (Or.inl (xsh1 hok (by omega) n2 z)))]
             exact ⟨rfl, hS, onlyX.rf⟩)
          | (have q : ¬ bR 17 μ := zB_eq0.mp h50
             have n1 : ¬ hHeld S 4 = 0 := fun z => (show ¬ bE 17 μ from zB_eq0.mp h31) (E1.mpr z)
             have n2 : ¬ hHeld S 0 = 0 := fun z => (show ¬ bE 13 μ from zB_eq0.mp h39) (E2.mpr z)
             rw [opSh_b (by omega) (by omega) n1 n2 (Or.inl (xsh1 hok (by omega) n1 (fun z => q (R1.mpr z))))]
             exact ⟨rfl, hS, onlyX.rf⟩)
          | (have q : bE 13 μ := zB_ne0.mp h39
             rw [opSh_a (by omega) (by omega) (Or.inr (E2.mp q))]
             exact ⟨rfl, hS, onlyX.rf⟩)
          | (have q : bE 17 μ := zB_ne0.mp h31
             rw [opSh_a (by omega) (by omega) (Or.inl (E1.mp q))]
             exact ⟨rfl, hS, onlyX.rf⟩)
      · refine zb X_shift_s53 rfl ?_
        refine zcallV X_shift_d60 k10_101 (by omega) (x_isRowOf_0 _ (by omega)) rfl rfl rfl (Nat.le_of_ble_eq_true rfl) ?_
        rintro _ μx ⟨rfl, hx⟩
        rw [hx]
        clear hx μx
        refine z_ne X_shift_d63 (tgt := 69) rfl (fun h63 => ?_) (fun h63 => ?_)
        · have f1 : hHeld S 4 = 2 := R1.mp (zB_ne0.mp h50)
          have f2 : hHeld S 0 = 2 := R2.mp (zB_ne0.mp h63).1
          obtain ⟨a1, a2, m, hm, em⟩ := xsh2 hS hok (show 4 < 6 by omega) f1
          obtain ⟨b1, b2, w, hw, ew⟩ := xsh2 hS hok (show 0 < 6 by omega) f2
          have hsrt : hSort S 4 = hSort S 0 := a1.symm.trans ((zB_ne0.mp h63).2.symm.trans b1)
          have P1 := bPn (i := i) (n := n) hm (a2.trans em)
          have P2 := bPn (i := j) (n := n) hw (b2.trans ew)
          refine zb X_shift_s69 rfl ?_
          refine zcallV X_shift_d74 k10_363 (by omega) (x_hasPlaces_4 _ _) rfl rfl rfl (Nat.le_of_ble_eq_true rfl) ?_
          rintro _ μx ⟨rfl, hx⟩
          rw [hx]
          clear hx μx
          refine z_eq X_shift_d77 (tgt := 92) rfl (fun h77 => ?_) (fun h77 => ?_)
          · refine zb X_shift_s92 rfl ?_
            refine z_ret X_shift_d94 rfl ?_
            first
              | (have f := fin_shift (s := 4) (p := 0) (a := x) (b := y) (N := N) hS (by omega) (by omega) (by omega)
                 rw [cN, cx, cy]
                 exact ⟨rfl, f.1, f.2⟩)
              | (have q : ¬ bP 13 j n μ := zB_eq0.mp h89
                 rw [opSh_c (by omega) (by omega) f1 f2 hsrt (fun z => q (P2.mpr (And.intro z.2.2.1 (And.intro z.1 (by rw [← ew]; exact z.2.2.2.2)))))]
                 exact ⟨rfl, hS, onlyX.rf⟩)
              | (have q : ¬ bP 17 i n μ := zB_eq0.mp h77
                 rw [opSh_c (by omega) (by omega) f1 f2 hsrt (fun z => q (P1.mpr (And.intro z.2.1 (And.intro z.1 (by rw [← em]; exact z.2.2.2.1)))))]
                 exact ⟨rfl, hS, onlyX.rf⟩)
              | (have q := zB_eq0.mp h63
                 have f1 : hHeld S 4 = 2 := R1.mp (zB_ne0.mp h50)
                 have n2 : ¬ hHeld S 0 = 0 := fun z => (show ¬ bE 13 μ from zB_eq0.mp h39) (E2.mpr z)
                 rw [opSh_b (by omega) (by omega) (by rw [f1]; decide) n2 (by
                   by_cases z : hHeld S 0 = 2
                   · refine Or.inr (Or.inr (fun y => q (And.intro (R2.mpr z) ?_)))
                     exact (show μ.1 13 2 = _ from (xsh2 hS hok (show 0 < 6 by omega) z).1).trans (y.symm.trans (show μ.1 17 2 = _ from (xsh2 hS hok (show 4 < 6 by omega) f1).1).symm)
                   · exact Or.inr (Or.inl (xsh1 hok (by omega) n2 z)))]
                 exact ⟨rfl, hS, onlyX.rf⟩)
              | (have q : ¬ bR 17 μ := zB_eq0.mp h50
                 have n1 : ¬ hHeld S 4 = 0 := fun z => (show ¬ bE 17 μ from zB_eq0.mp h31) (E1.mpr z)
                 have n2 : ¬ hHeld S 0 = 0 := fun z => (show ¬ bE 13 μ from zB_eq0.mp h39) (E2.mpr z)
                 rw [opSh_b (by omega) (by omega) n1 n2 (Or.inl (xsh1 hok (by omega) n1 (fun z => q (R1.mpr z))))]
                 exact ⟨rfl, hS, onlyX.rf⟩)
              | (have q : bE 13 μ := zB_ne0.mp h39
                 rw [opSh_a (by omega) (by omega) (Or.inr (E2.mp q))]
                 exact ⟨rfl, hS, onlyX.rf⟩)
              | (have q : bE 17 μ := zB_ne0.mp h31
                 rw [opSh_a (by omega) (by omega) (Or.inl (E1.mp q))]
                 exact ⟨rfl, hS, onlyX.rf⟩)
          · refine zb X_shift_s80 rfl ?_
            refine zcallV X_shift_d86 k10_363 (by omega) (x_hasPlaces_0 _ _) rfl rfl rfl (Nat.le_of_ble_eq_true rfl) ?_
            rintro _ μx ⟨rfl, hx⟩
            rw [hx]
            clear hx μx
            refine z_ne X_shift_d89 (tgt := 95) rfl (fun h89 => ?_) (fun h89 => ?_)
            · have g1 := P1.mp (zB_ne0.mp h77)
              have g2 := P2.mp (zB_ne0.mp h89)
              have hall : 0 ≤ n ∧ 0 ≤ i ∧ 0 ≤ j ∧ i ≤ hSize S 4 - n ∧ j ≤ hSize S 0 - n := by
                exact ⟨g1.2.1, g1.1, g2.1, by rw [em]; exact g1.2.2, by rw [ew]; exact g2.2.2⟩
              rw [opSh_d (by omega) (by omega) f1 f2 hsrt hall]
              clear hall
              obtain ⟨N, hN, rfl⟩ := nI_of (Int32.not_lt.mpr g1.2.1)
              obtain ⟨x, hx, rfl⟩ := nI_of (Int32.not_lt.mpr g1.1)
              obtain ⟨y, hy, rfl⟩ := nI_of (Int32.not_lt.mpr g2.1)
              have k1 := (le_sub hx hm hN).mp g1.2.2
              have k2 := (le_sub hy hw hN).mp g2.2.2
              have cN : (nI N).toNatClampNeg = N := nI_clamp hN
              have cx : (nI x).toNatClampNeg = x := nI_clamp hx
              have cy : (nI y).toNatClampNeg = y := nI_clamp hy
              refine zb X_shift_s95 rfl ?_
              refine zcpL X_shift_d110 k10_366 (by omega) (Nat.le_of_ble_eq_true rfl) rfl rfl (nI_pos (by omega)) (nI_pos (by omega)) (nI_pos (by omega)) (by rw [cN, cx]; omega) (by rw [cN, cy]; omega) ?_
              refine zb X_shift_s113 rfl ?_
              refine z_ret X_shift_d115 rfl ?_
              first
                | (have f := fin_shift (s := 4) (p := 0) (a := x) (b := y) (N := N) hS (by omega) (by omega) (by omega)
                   rw [cN, cx, cy]
                   exact ⟨rfl, f.1, f.2⟩)
                | (have q : ¬ bP 13 j n μ := zB_eq0.mp h89
                   rw [opSh_c (by omega) (by omega) f1 f2 hsrt (fun z => q (P2.mpr (And.intro z.2.2.1 (And.intro z.1 (by rw [← ew]; exact z.2.2.2.2)))))]
                   exact ⟨rfl, hS, onlyX.rf⟩)
                | (have q : ¬ bP 17 i n μ := zB_eq0.mp h77
                   rw [opSh_c (by omega) (by omega) f1 f2 hsrt (fun z => q (P1.mpr (And.intro z.2.1 (And.intro z.1 (by rw [← em]; exact z.2.2.2.1)))))]
                   exact ⟨rfl, hS, onlyX.rf⟩)
                | (have q := zB_eq0.mp h63
                   have f1 : hHeld S 4 = 2 := R1.mp (zB_ne0.mp h50)
                   have n2 : ¬ hHeld S 0 = 0 := fun z => (show ¬ bE 13 μ from zB_eq0.mp h39) (E2.mpr z)
                   rw [opSh_b (by omega) (by omega) (by rw [f1]; decide) n2 (by
                     by_cases z : hHeld S 0 = 2
                     · refine Or.inr (Or.inr (fun y => q (And.intro (R2.mpr z) ?_)))
                       exact (show μ.1 13 2 = _ from (xsh2 hS hok (show 0 < 6 by omega) z).1).trans (y.symm.trans (show μ.1 17 2 = _ from (xsh2 hS hok (show 4 < 6 by omega) f1).1).symm)
                     · exact Or.inr (Or.inl (xsh1 hok (by omega) n2 z)))]
                   exact ⟨rfl, hS, onlyX.rf⟩)
                | (have q : ¬ bR 17 μ := zB_eq0.mp h50
                   have n1 : ¬ hHeld S 4 = 0 := fun z => (show ¬ bE 17 μ from zB_eq0.mp h31) (E1.mpr z)
                   have n2 : ¬ hHeld S 0 = 0 := fun z => (show ¬ bE 13 μ from zB_eq0.mp h39) (E2.mpr z)
                   rw [opSh_b (by omega) (by omega) n1 n2 (Or.inl (xsh1 hok (by omega) n1 (fun z => q (R1.mpr z))))]
                   exact ⟨rfl, hS, onlyX.rf⟩)
                | (have q : bE 13 μ := zB_ne0.mp h39
                   rw [opSh_a (by omega) (by omega) (Or.inr (E2.mp q))]
                   exact ⟨rfl, hS, onlyX.rf⟩)
                | (have q : bE 17 μ := zB_ne0.mp h31
                   rw [opSh_a (by omega) (by omega) (Or.inl (E1.mp q))]
                   exact ⟨rfl, hS, onlyX.rf⟩)
            · refine zb X_shift_s92 rfl ?_
              refine z_ret X_shift_d94 rfl ?_
              first
                | (have f := fin_shift (s := 4) (p := 0) (a := x) (b := y) (N := N) hS (by omega) (by omega) (by omega)
                   rw [cN, cx, cy]
                   exact ⟨rfl, f.1, f.2⟩)
                | (have q : ¬ bP 13 j n μ := zB_eq0.mp h89
                   rw [opSh_c (by omega) (by omega) f1 f2 hsrt (fun z => q (P2.mpr (And.intro z.2.2.1 (And.intro z.1 (by rw [← ew]; exact z.2.2.2.2)))))]
                   exact ⟨rfl, hS, onlyX.rf⟩)
                | (have q : ¬ bP 17 i n μ := zB_eq0.mp h77
                   rw [opSh_c (by omega) (by omega) f1 f2 hsrt (fun z => q (P1.mpr (And.intro z.2.1 (And.intro z.1 (by rw [← em]; exact z.2.2.2.1)))))]
                   exact ⟨rfl, hS, onlyX.rf⟩)
                | (have q := zB_eq0.mp h63
                   have f1 : hHeld S 4 = 2 := R1.mp (zB_ne0.mp h50)
                   have n2 : ¬ hHeld S 0 = 0 := fun z => (show ¬ bE 13 μ from zB_eq0.mp h39) (E2.mpr z)
                   rw [opSh_b (by omega) (by omega) (by rw [f1]; decide) n2 (by
                     by_cases z : hHeld S 0 = 2
                     · refine Or.inr (Or.inr (fun y => q (And.intro (R2.mpr z) ?_)))
                       exact (show μ.1 13 2 = _ from (xsh2 hS hok (show 0 < 6 by omega) z).1).trans (y.symm.trans (show μ.1 17 2 = _ from (xsh2 hS hok (show 4 < 6 by omega) f1).1).symm)
                     · exact Or.inr (Or.inl (xsh1 hok (by omega) n2 z)))]
                   exact ⟨rfl, hS, onlyX.rf⟩)
                | (have q : ¬ bR 17 μ := zB_eq0.mp h50
                   have n1 : ¬ hHeld S 4 = 0 := fun z => (show ¬ bE 17 μ from zB_eq0.mp h31) (E1.mpr z)
                   have n2 : ¬ hHeld S 0 = 0 := fun z => (show ¬ bE 13 μ from zB_eq0.mp h39) (E2.mpr z)
                   rw [opSh_b (by omega) (by omega) n1 n2 (Or.inl (xsh1 hok (by omega) n1 (fun z => q (R1.mpr z))))]
                   exact ⟨rfl, hS, onlyX.rf⟩)
                | (have q : bE 13 μ := zB_ne0.mp h39
                   rw [opSh_a (by omega) (by omega) (Or.inr (E2.mp q))]
                   exact ⟨rfl, hS, onlyX.rf⟩)
                | (have q : bE 17 μ := zB_ne0.mp h31
                   rw [opSh_a (by omega) (by omega) (Or.inl (E1.mp q))]
                   exact ⟨rfl, hS, onlyX.rf⟩)
        · refine zb X_shift_s66 rfl ?_
          refine z_ret X_shift_d68 rfl ?_
          first
            | (have f := fin_shift (s := 4) (p := 0) (a := x) (b := y) (N := N) hS (by omega) (by omega) (by omega)
               rw [cN, cx, cy]
               exact ⟨rfl, f.1, f.2⟩)
            | (have q : ¬ bP 13 j n μ := zB_eq0.mp h89
               rw [opSh_c (by omega) (by omega) f1 f2 hsrt (fun z => q (P2.mpr (And.intro z.2.2.1 (And.intro z.1 (by rw [← ew]; exact z.2.2.2.2)))))]
               exact ⟨rfl, hS, onlyX.rf⟩)
            | (have q : ¬ bP 17 i n μ := zB_eq0.mp h77
               rw [opSh_c (by omega) (by omega) f1 f2 hsrt (fun z => q (P1.mpr (And.intro z.2.1 (And.intro z.1 (by rw [← em]; exact z.2.2.2.1)))))]
               exact ⟨rfl, hS, onlyX.rf⟩)
            | (have q := zB_eq0.mp h63
               have f1 : hHeld S 4 = 2 := R1.mp (zB_ne0.mp h50)
               have n2 : ¬ hHeld S 0 = 0 := fun z => (show ¬ bE 13 μ from zB_eq0.mp h39) (E2.mpr z)
               rw [opSh_b (by omega) (by omega) (by rw [f1]; decide) n2 (by
                 by_cases z : hHeld S 0 = 2
                 · refine Or.inr (Or.inr (fun y => q (And.intro (R2.mpr z) ?_)))
                   exact (show μ.1 13 2 = _ from (xsh2 hS hok (show 0 < 6 by omega) z).1).trans (y.symm.trans (show μ.1 17 2 = _ from (xsh2 hS hok (show 4 < 6 by omega) f1).1).symm)
                 · exact Or.inr (Or.inl (xsh1 hok (by omega) n2 z)))]
               exact ⟨rfl, hS, onlyX.rf⟩)
            | (have q : ¬ bR 17 μ := zB_eq0.mp h50
               have n1 : ¬ hHeld S 4 = 0 := fun z => (show ¬ bE 17 μ from zB_eq0.mp h31) (E1.mpr z)
               have n2 : ¬ hHeld S 0 = 0 := fun z => (show ¬ bE 13 μ from zB_eq0.mp h39) (E2.mpr z)
               rw [opSh_b (by omega) (by omega) n1 n2 (Or.inl (xsh1 hok (by omega) n1 (fun z => q (R1.mpr z))))]
               exact ⟨rfl, hS, onlyX.rf⟩)
            | (have q : bE 13 μ := zB_ne0.mp h39
               rw [opSh_a (by omega) (by omega) (Or.inr (E2.mp q))]
               exact ⟨rfl, hS, onlyX.rf⟩)
            | (have q : bE 17 μ := zB_ne0.mp h31
               rw [opSh_a (by omega) (by omega) (Or.inl (E1.mp q))]
               exact ⟨rfl, hS, onlyX.rf⟩)
    · refine zb X_shift_s42 rfl ?_
      refine z_ret X_shift_d44 rfl ?_
      first
        | (have f := fin_shift (s := 4) (p := 0) (a := x) (b := y) (N := N) hS (by omega) (by omega) (by omega)
           rw [cN, cx, cy]
           exact ⟨rfl, f.1, f.2⟩)
        | (have q : ¬ bP 13 j n μ := zB_eq0.mp h89
           rw [opSh_c (by omega) (by omega) f1 f2 hsrt (fun z => q (P2.mpr (And.intro z.2.2.1 (And.intro z.1 (by rw [← ew]; exact z.2.2.2.2)))))]
           exact ⟨rfl, hS, onlyX.rf⟩)
        | (have q : ¬ bP 17 i n μ := zB_eq0.mp h77
           rw [opSh_c (by omega) (by omega) f1 f2 hsrt (fun z => q (P1.mpr (And.intro z.2.1 (And.intro z.1 (by rw [← em]; exact z.2.2.2.1)))))]
           exact ⟨rfl, hS, onlyX.rf⟩)
        | (have q := zB_eq0.mp h63
           have f1 : hHeld S 4 = 2 := R1.mp (zB_ne0.mp h50)
           have n2 : ¬ hHeld S 0 = 0 := fun z => (show ¬ bE 13 μ from zB_eq0.mp h39) (E2.mpr z)
           rw [opSh_b (by omega) (by omega) (by rw [f1]; decide) n2 (by
             by_cases z : hHeld S 0 = 2
             · refine Or.inr (Or.inr (fun y => q (And.intro (R2.mpr z) ?_)))
               exact (show μ.1 13 2 = _ from (xsh2 hS hok (show 0 < 6 by omega) z).1).trans (y.symm.trans (show μ.1 17 2 = _ from (xsh2 hS hok (show 4 < 6 by omega) f1).1).symm)
             · exact Or.inr (Or.inl (xsh1 hok (by omega) n2 z)))]
           exact ⟨rfl, hS, onlyX.rf⟩)
        | (have q : ¬ bR 17 μ := zB_eq0.mp h50
           have n1 : ¬ hHeld S 4 = 0 := fun z => (show ¬ bE 17 μ from zB_eq0.mp h31) (E1.mpr z)
           have n2 : ¬ hHeld S 0 = 0 := fun z => (show ¬ bE 13 μ from zB_eq0.mp h39) (E2.mpr z)
           rw [opSh_b (by omega) (by omega) n1 n2 (Or.inl (xsh1 hok (by omega) n1 (fun z => q (R1.mpr z))))]
           exact ⟨rfl, hS, onlyX.rf⟩)
        | (have q : bE 13 μ := zB_ne0.mp h39
           rw [opSh_a (by omega) (by omega) (Or.inr (E2.mp q))]
           exact ⟨rfl, hS, onlyX.rf⟩)
        | (have q : bE 17 μ := zB_ne0.mp h31
           rw [opSh_a (by omega) (by omega) (Or.inl (E1.mp q))]
           exact ⟨rfl, hS, onlyX.rf⟩)

set_option maxRecDepth 100000 in
set_option maxHeartbeats 4000000 in
theorem xs_shift_4_1 {g : zG} {d : Nat} {S : zS} {μ : zMem} {i j n : Int32} (hd : 2 ≤ d) (hS : xS S μ) (hok : okH S) : zM g d X_shift [.ref 1, .int (nI 4), .int i, .int (nI 1), .int j, .int n] μ (pO xS onlyX (opShift S (nI 4) i (nI 1) j n) μ) := by
  refine zM_of (by decide +kernel) rfl rfl (Nat.le_of_ble_eq_true rfl) rfl ?_
  obtain ⟨ho, h2, hT, hC, hD, hI, hA, hH⟩ := hS
  have hS : xS S μ := ⟨ho, h2, hT, hC, hD, hI, hA, hH⟩
  have hb := ho.b
  have hv := ho.v
  have hB6 := ho.b6
  have hV12 := ho.v12
  have hz : zq sX μ μ := zq.rf
  have E1 := xshE (s := 4) hS hok (by omega)
  have E2 := xshE (s := 1) hS hok (by omega)
  have R1 := xshR (s := 4) hS hok (by omega)
  have R2 := xshR (s := 1) hS hok (by omega)
  refine zb X_shift_s0 rfl ?_
  refine zcallV X_shift_d2 k10_93 (by omega) (x_shelf_4 (by omega)) rfl rfl rfl (Nat.le_of_ble_eq_true rfl) ?_
  rintro _ μx ⟨rfl, hx⟩
  rw [hx]
  clear hx μx
  refine zb X_shift_s5 rfl ?_
  refine zcallV X_shift_d9 k10_93 (by omega) (x_shelf_1 (by omega)) rfl rfl rfl (Nat.le_of_ble_eq_true rfl) ?_
  rintro _ μx ⟨rfl, hx⟩
  rw [hx]
  clear hx μx
  refine zb X_shift_s12 rfl ?_
  refine z_null X_shift_d16 ?_
  refine zb X_shift_s19 rfl ?_
  refine z_nonnull X_shift_d21 (tgt := 26) rfl ?_
  refine zb X_shift_s26 rfl ?_
  refine zcallV X_shift_d28 k10_97 (by omega) (x_isEmpty_4) rfl rfl rfl (Nat.le_of_ble_eq_true rfl) ?_
  rintro _ μx ⟨rfl, hx⟩
  rw [hx]
  clear hx μx
  refine z_ne X_shift_d31 (tgt := 42) rfl (fun h31 => ?_) (fun h31 => ?_)
  · refine zb X_shift_s42 rfl ?_
    refine z_ret X_shift_d44 rfl ?_
    first
      | (have f := fin_shift (s := 4) (p := 1) (a := x) (b := y) (N := N) hS (by omega) (by omega) (by omega)
         rw [cN, cx, cy]
         exact ⟨rfl, f.1, f.2⟩)
      | (have q : ¬ bP 14 j n μ := zB_eq0.mp h89
         rw [opSh_c (by omega) (by omega) f1 f2 hsrt (fun z => q (P2.mpr (And.intro z.2.2.1 (And.intro z.1 (by rw [← ew]; exact z.2.2.2.2)))))]
         exact ⟨rfl, hS, onlyX.rf⟩)
      | (have q : ¬ bP 17 i n μ := zB_eq0.mp h77
         rw [opSh_c (by omega) (by omega) f1 f2 hsrt (fun z => q (P1.mpr (And.intro z.2.1 (And.intro z.1 (by rw [← em]; exact z.2.2.2.1)))))]
         exact ⟨rfl, hS, onlyX.rf⟩)
      | (have q := zB_eq0.mp h63
         have f1 : hHeld S 4 = 2 := R1.mp (zB_ne0.mp h50)
         have n2 : ¬ hHeld S 1 = 0 := fun z => (show ¬ bE 14 μ from zB_eq0.mp h39) (E2.mpr z)
         rw [opSh_b (by omega) (by omega) (by rw [f1]; decide) n2 (by
           by_cases z : hHeld S 1 = 2
           · refine Or.inr (Or.inr (fun y => q (And.intro (R2.mpr z) ?_)))
             exact (show μ.1 14 2 = _ from (xsh2 hS hok (show 1 < 6 by omega) z).1).trans (y.symm.trans (show μ.1 17 2 = _ from (xsh2 hS hok (show 4 < 6 by omega) f1).1).symm)
           · exact Or.inr (Or.inl (xsh1 hok (by omega) n2 z)))]
         exact ⟨rfl, hS, onlyX.rf⟩)
      | (have q : ¬ bR 17 μ := zB_eq0.mp h50
         have n1 : ¬ hHeld S 4 = 0 := fun z => (show ¬ bE 17 μ from zB_eq0.mp h31) (E1.mpr z)
         have n2 : ¬ hHeld S 1 = 0 := fun z => (show ¬ bE 14 μ from zB_eq0.mp h39) (E2.mpr z)
         rw [opSh_b (by omega) (by omega) n1 n2 (Or.inl (xsh1 hok (by omega) n1 (fun z => q (R1.mpr z))))]
         exact ⟨rfl, hS, onlyX.rf⟩)
      | (have q : bE 14 μ := zB_ne0.mp h39
         rw [opSh_a (by omega) (by omega) (Or.inr (E2.mp q))]
         exact ⟨rfl, hS, onlyX.rf⟩)
      | (have q : bE 17 μ := zB_ne0.mp h31
         rw [opSh_a (by omega) (by omega) (Or.inl (E1.mp q))]
         exact ⟨rfl, hS, onlyX.rf⟩)
  · refine zb X_shift_s34 rfl ?_
    refine zcallV X_shift_d36 k10_97 (by omega) (x_isEmpty_1) rfl rfl rfl (Nat.le_of_ble_eq_true rfl) ?_
    rintro _ μx ⟨rfl, hx⟩
    rw [hx]
    clear hx μx
    refine z_eq X_shift_d39 (tgt := 45) rfl (fun h39 => ?_) (fun h39 => ?_)
    · refine zb X_shift_s45 rfl ?_
      refine zcallV X_shift_d47 k10_357 (by omega) (x_isRow_4) rfl rfl rfl (Nat.le_of_ble_eq_true rfl) ?_
      rintro _ μx ⟨rfl, hx⟩
      rw [hx]
      clear hx μx
      refine z_eq X_shift_d50 (tgt := 66) rfl (fun h50 => ?_) (fun h50 => ?_)
      · refine zb X_shift_s66 rfl ?_
        refine z_ret X_shift_d68 rfl ?_
        first
          | (have f := fin_shift (s := 4) (p := 1) (a := x) (b := y) (N := N) hS (by omega) (by omega) (by omega)
             rw [cN, cx, cy]
             exact ⟨rfl, f.1, f.2⟩)
          | (have q : ¬ bP 14 j n μ := zB_eq0.mp h89
             rw [opSh_c (by omega) (by omega) f1 f2 hsrt (fun z => q (P2.mpr (And.intro z.2.2.1 (And.intro z.1 (by rw [← ew]; exact z.2.2.2.2)))))]
             exact ⟨rfl, hS, onlyX.rf⟩)
          | (have q : ¬ bP 17 i n μ := zB_eq0.mp h77
             rw [opSh_c (by omega) (by omega) f1 f2 hsrt (fun z => q (P1.mpr (And.intro z.2.1 (And.intro z.1 (by rw [← em]; exact z.2.2.2.1)))))]
             exact ⟨rfl, hS, onlyX.rf⟩)
          | (have q := zB_eq0.mp h63
             have f1 : hHeld S 4 = 2 := R1.mp (zB_ne0.mp h50)
             have n2 : ¬ hHeld S 1 = 0 := fun z => (show ¬ bE 14 μ from zB_eq0.mp h39) (E2.mpr z)
             rw [opSh_b (by omega) (by omega) (by rw [f1]; decide) n2 (by
               by_cases z : hHeld S 1 = 2
               · refine Or.inr (Or.inr (fun y => q (And.intro (R2.mpr z) ?_)))
                 exact (show μ.1 14 2 = _ from (xsh2 hS hok (show 1 < 6 by omega) z).1).trans (y.symm.trans (show μ.1 17 2 = _ from (xsh2 hS hok (show 4 < 6 by omega) f1).1).symm)
               · exact Or.inr (Or.inl (xsh1 hok (by omega) n2 z)))]
             exact ⟨rfl, hS, onlyX.rf⟩)
          | (have q : ¬ bR 17 μ := zB_eq0.mp h50
             have n1 : ¬ hHeld S 4 = 0 := fun z => (show ¬ bE 17 μ from zB_eq0.mp h31) (E1.mpr z)
             have n2 : ¬ hHeld S 1 = 0 := fun z => (show ¬ bE 14 μ from zB_eq0.mp h39) (E2.mpr z)
             rw [opSh_b (by omega) (by omega) n1 n2 (Or.inl (xsh1 hok (by omega) n1 (fun z => q (R1.mpr z))))]
             exact ⟨rfl, hS, onlyX.rf⟩)
          | (have q : bE 14 μ := zB_ne0.mp h39
             rw [opSh_a (by omega) (by omega) (Or.inr (E2.mp q))]
             exact ⟨rfl, hS, onlyX.rf⟩)
          | (have q : bE 17 μ := zB_ne0.mp h31
             rw [opSh_a (by omega) (by omega) (Or.inl (E1.mp q))]
             exact ⟨rfl, hS, onlyX.rf⟩)
      · refine zb X_shift_s53 rfl ?_
        refine zcallV X_shift_d60 k10_101 (by omega) (x_isRowOf_1 _ (by omega)) rfl rfl rfl (Nat.le_of_ble_eq_true rfl) ?_
        rintro _ μx ⟨rfl, hx⟩
        rw [hx]
        clear hx μx
        refine z_ne X_shift_d63 (tgt := 69) rfl (fun h63 => ?_) (fun h63 => ?_)
        · have f1 : hHeld S 4 = 2 := R1.mp (zB_ne0.mp h50)
          have f2 : hHeld S 1 = 2 := R2.mp (zB_ne0.mp h63).1
          obtain ⟨a1, a2, m, hm, em⟩ := xsh2 hS hok (show 4 < 6 by omega) f1
          obtain ⟨b1, b2, w, hw, ew⟩ := xsh2 hS hok (show 1 < 6 by omega) f2
          have hsrt : hSort S 4 = hSort S 1 := a1.symm.trans ((zB_ne0.mp h63).2.symm.trans b1)
          have P1 := bPn (i := i) (n := n) hm (a2.trans em)
          have P2 := bPn (i := j) (n := n) hw (b2.trans ew)
          refine zb X_shift_s69 rfl ?_
          refine zcallV X_shift_d74 k10_363 (by omega) (x_hasPlaces_4 _ _) rfl rfl rfl (Nat.le_of_ble_eq_true rfl) ?_
          rintro _ μx ⟨rfl, hx⟩
          rw [hx]
          clear hx μx
          refine z_eq X_shift_d77 (tgt := 92) rfl (fun h77 => ?_) (fun h77 => ?_)
          · refine zb X_shift_s92 rfl ?_
            refine z_ret X_shift_d94 rfl ?_
            first
              | (have f := fin_shift (s := 4) (p := 1) (a := x) (b := y) (N := N) hS (by omega) (by omega) (by omega)
                 rw [cN, cx, cy]
                 exact ⟨rfl, f.1, f.2⟩)
              | (have q : ¬ bP 14 j n μ := zB_eq0.mp h89
                 rw [opSh_c (by omega) (by omega) f1 f2 hsrt (fun z => q (P2.mpr (And.intro z.2.2.1 (And.intro z.1 (by rw [← ew]; exact z.2.2.2.2)))))]
                 exact ⟨rfl, hS, onlyX.rf⟩)
              | (have q : ¬ bP 17 i n μ := zB_eq0.mp h77
                 rw [opSh_c (by omega) (by omega) f1 f2 hsrt (fun z => q (P1.mpr (And.intro z.2.1 (And.intro z.1 (by rw [← em]; exact z.2.2.2.1)))))]
                 exact ⟨rfl, hS, onlyX.rf⟩)
              | (have q := zB_eq0.mp h63
                 have f1 : hHeld S 4 = 2 := R1.mp (zB_ne0.mp h50)
                 have n2 : ¬ hHeld S 1 = 0 := fun z => (show ¬ bE 14 μ from zB_eq0.mp h39) (E2.mpr z)
                 rw [opSh_b (by omega) (by omega) (by rw [f1]; decide) n2 (by
                   by_cases z : hHeld S 1 = 2
                   · refine Or.inr (Or.inr (fun y => q (And.intro (R2.mpr z) ?_)))
                     exact (show μ.1 14 2 = _ from (xsh2 hS hok (show 1 < 6 by omega) z).1).trans (y.symm.trans (show μ.1 17 2 = _ from (xsh2 hS hok (show 4 < 6 by omega) f1).1).symm)
                   · exact Or.inr (Or.inl (xsh1 hok (by omega) n2 z)))]
                 exact ⟨rfl, hS, onlyX.rf⟩)
              | (have q : ¬ bR 17 μ := zB_eq0.mp h50
                 have n1 : ¬ hHeld S 4 = 0 := fun z => (show ¬ bE 17 μ from zB_eq0.mp h31) (E1.mpr z)
                 have n2 : ¬ hHeld S 1 = 0 := fun z => (show ¬ bE 14 μ from zB_eq0.mp h39) (E2.mpr z)
                 rw [opSh_b (by omega) (by omega) n1 n2 (Or.inl (xsh1 hok (by omega) n1 (fun z => q (R1.mpr z))))]
                 exact ⟨rfl, hS, onlyX.rf⟩)
              | (have q : bE 14 μ := zB_ne0.mp h39
                 rw [opSh_a (by omega) (by omega) (Or.inr (E2.mp q))]
                 exact ⟨rfl, hS, onlyX.rf⟩)
              | (have q : bE 17 μ := zB_ne0.mp h31
                 rw [opSh_a (by omega) (by omega) (Or.inl (E1.mp q))]
                 exact ⟨rfl, hS, onlyX.rf⟩)
          · refine zb X_shift_s80 rfl ?_
            refine zcallV X_shift_d86 k10_363 (by omega) (x_hasPlaces_1 _ _) rfl rfl rfl (Nat.le_of_ble_eq_true rfl) ?_
            rintro _ μx ⟨rfl, hx⟩
            rw [hx]
            clear hx μx
            refine z_ne X_shift_d89 (tgt := 95) rfl (fun h89 => ?_) (fun h89 => ?_)
            · have g1 := P1.mp (zB_ne0.mp h77)
              have g2 := P2.mp (zB_ne0.mp h89)
              have hall : 0 ≤ n ∧ 0 ≤ i ∧ 0 ≤ j ∧ i ≤ hSize S 4 - n ∧ j ≤ hSize S 1 - n := by
                exact ⟨g1.2.1, g1.1, g2.1, by rw [em]; exact g1.2.2, by rw [ew]; exact g2.2.2⟩
              rw [opSh_d (by omega) (by omega) f1 f2 hsrt hall]
              clear hall
              obtain ⟨N, hN, rfl⟩ := nI_of (Int32.not_lt.mpr g1.2.1)
              obtain ⟨x, hx, rfl⟩ := nI_of (Int32.not_lt.mpr g1.1)
              obtain ⟨y, hy, rfl⟩ := nI_of (Int32.not_lt.mpr g2.1)
              have k1 := (le_sub hx hm hN).mp g1.2.2
              have k2 := (le_sub hy hw hN).mp g2.2.2
              have cN : (nI N).toNatClampNeg = N := nI_clamp hN
              have cx : (nI x).toNatClampNeg = x := nI_clamp hx
              have cy : (nI y).toNatClampNeg = y := nI_clamp hy
              refine zb X_shift_s95 rfl ?_
              refine zcpL X_shift_d110 k10_366 (by omega) (Nat.le_of_ble_eq_true rfl) rfl rfl (nI_pos (by omega)) (nI_pos (by omega)) (nI_pos (by omega)) (by rw [cN, cx]; omega) (by rw [cN, cy]; omega) ?_
              refine zb X_shift_s113 rfl ?_
              refine z_ret X_shift_d115 rfl ?_
              first
                | (have f := fin_shift (s := 4) (p := 1) (a := x) (b := y) (N := N) hS (by omega) (by omega) (by omega)
                   rw [cN, cx, cy]
                   exact ⟨rfl, f.1, f.2⟩)
                | (have q : ¬ bP 14 j n μ := zB_eq0.mp h89
                   rw [opSh_c (by omega) (by omega) f1 f2 hsrt (fun z => q (P2.mpr (And.intro z.2.2.1 (And.intro z.1 (by rw [← ew]; exact z.2.2.2.2)))))]
                   exact ⟨rfl, hS, onlyX.rf⟩)
                | (have q : ¬ bP 17 i n μ := zB_eq0.mp h77
                   rw [opSh_c (by omega) (by omega) f1 f2 hsrt (fun z => q (P1.mpr (And.intro z.2.1 (And.intro z.1 (by rw [← em]; exact z.2.2.2.1)))))]
                   exact ⟨rfl, hS, onlyX.rf⟩)
                | (have q := zB_eq0.mp h63
                   have f1 : hHeld S 4 = 2 := R1.mp (zB_ne0.mp h50)
                   have n2 : ¬ hHeld S 1 = 0 := fun z => (show ¬ bE 14 μ from zB_eq0.mp h39) (E2.mpr z)
                   rw [opSh_b (by omega) (by omega) (by rw [f1]; decide) n2 (by
                     by_cases z : hHeld S 1 = 2
                     · refine Or.inr (Or.inr (fun y => q (And.intro (R2.mpr z) ?_)))
                       exact (show μ.1 14 2 = _ from (xsh2 hS hok (show 1 < 6 by omega) z).1).trans (y.symm.trans (show μ.1 17 2 = _ from (xsh2 hS hok (show 4 < 6 by omega) f1).1).symm)
                     · exact Or.inr (Or.inl (xsh1 hok (by omega) n2 z)))]
                   exact ⟨rfl, hS, onlyX.rf⟩)
                | (have q : ¬ bR 17 μ := zB_eq0.mp h50
                   have n1 : ¬ hHeld S 4 = 0 := fun z => (show ¬ bE 17 μ from zB_eq0.mp h31) (E1.mpr z)
                   have n2 : ¬ hHeld S 1 = 0 := fun z => (show ¬ bE 14 μ from zB_eq0.mp h39) (E2.mpr z)
                   rw [opSh_b (by omega) (by omega) n1 n2 (Or.inl (xsh1 hok (by omega) n1 (fun z => q (R1.mpr z))))]
                   exact ⟨rfl, hS, onlyX.rf⟩)
                | (have q : bE 14 μ := zB_ne0.mp h39
                   rw [opSh_a (by omega) (by omega) (Or.inr (E2.mp q))]
                   exact ⟨rfl, hS, onlyX.rf⟩)
                | (have q : bE 17 μ := zB_ne0.mp h31
                   rw [opSh_a (by omega) (by omega) (Or.inl (E1.mp q))]
                   exact ⟨rfl, hS, onlyX.rf⟩)
            · refine zb X_shift_s92 rfl ?_
              refine z_ret X_shift_d94 rfl ?_
              first
                | (have f := fin_shift (s := 4) (p := 1) (a := x) (b := y) (N := N) hS (by omega) (by omega) (by omega)
                   rw [cN, cx, cy]
                   exact ⟨rfl, f.1, f.2⟩)
                | (have q : ¬ bP 14 j n μ := zB_eq0.mp h89
                   rw [opSh_c (by omega) (by omega) f1 f2 hsrt (fun z => q (P2.mpr (And.intro z.2.2.1 (And.intro z.1 (by rw [← ew]; exact z.2.2.2.2)))))]
                   exact ⟨rfl, hS, onlyX.rf⟩)
                | (have q : ¬ bP 17 i n μ := zB_eq0.mp h77
                   rw [opSh_c (by omega) (by omega) f1 f2 hsrt (fun z => q (P1.mpr (And.intro z.2.1 (And.intro z.1 (by rw [← em]; exact z.2.2.2.1)))))]
                   exact ⟨rfl, hS, onlyX.rf⟩)
                | (have q := zB_eq0.mp h63
                   have f1 : hHeld S 4 = 2 := R1.mp (zB_ne0.mp h50)
                   have n2 : ¬ hHeld S 1 = 0 := fun z => (show ¬ bE 14 μ from zB_eq0.mp h39) (E2.mpr z)
                   rw [opSh_b (by omega) (by omega) (by rw [f1]; decide) n2 (by
                     by_cases z : hHeld S 1 = 2
                     · refine Or.inr (Or.inr (fun y => q (And.intro (R2.mpr z) ?_)))
                       exact (show μ.1 14 2 = _ from (xsh2 hS hok (show 1 < 6 by omega) z).1).trans (y.symm.trans (show μ.1 17 2 = _ from (xsh2 hS hok (show 4 < 6 by omega) f1).1).symm)
                     · exact Or.inr (Or.inl (xsh1 hok (by omega) n2 z)))]
                   exact ⟨rfl, hS, onlyX.rf⟩)
                | (have q : ¬ bR 17 μ := zB_eq0.mp h50
                   have n1 : ¬ hHeld S 4 = 0 := fun z => (show ¬ bE 17 μ from zB_eq0.mp h31) (E1.mpr z)
                   have n2 : ¬ hHeld S 1 = 0 := fun z => (show ¬ bE 14 μ from zB_eq0.mp h39) (E2.mpr z)
                   rw [opSh_b (by omega) (by omega) n1 n2 (Or.inl (xsh1 hok (by omega) n1 (fun z => q (R1.mpr z))))]
                   exact ⟨rfl, hS, onlyX.rf⟩)
                | (have q : bE 14 μ := zB_ne0.mp h39
                   rw [opSh_a (by omega) (by omega) (Or.inr (E2.mp q))]
                   exact ⟨rfl, hS, onlyX.rf⟩)
                | (have q : bE 17 μ := zB_ne0.mp h31
                   rw [opSh_a (by omega) (by omega) (Or.inl (E1.mp q))]
                   exact ⟨rfl, hS, onlyX.rf⟩)
        · refine zb X_shift_s66 rfl ?_
          refine z_ret X_shift_d68 rfl ?_
          first
            | (have f := fin_shift (s := 4) (p := 1) (a := x) (b := y) (N := N) hS (by omega) (by omega) (by omega)
               rw [cN, cx, cy]
               exact ⟨rfl, f.1, f.2⟩)
            | (have q : ¬ bP 14 j n μ := zB_eq0.mp h89
               rw [opSh_c (by omega) (by omega) f1 f2 hsrt (fun z => q (P2.mpr (And.intro z.2.2.1 (And.intro z.1 (by rw [← ew]; exact z.2.2.2.2)))))]
               exact ⟨rfl, hS, onlyX.rf⟩)
            | (have q : ¬ bP 17 i n μ := zB_eq0.mp h77
               rw [opSh_c (by omega) (by omega) f1 f2 hsrt (fun z => q (P1.mpr (And.intro z.2.1 (And.intro z.1 (by rw [← em]; exact z.2.2.2.1)))))]
               exact ⟨rfl, hS, onlyX.rf⟩)
            | (have q := zB_eq0.mp h63
               have f1 : hHeld S 4 = 2 := R1.mp (zB_ne0.mp h50)
               have n2 : ¬ hHeld S 1 = 0 := fun z => (show ¬ bE 14 μ from zB_eq0.mp h39) (E2.mpr z)
               rw [opSh_b (by omega) (by omega) (by rw [f1]; decide) n2 (by
                 by_cases z : hHeld S 1 = 2
                 · refine Or.inr (Or.inr (fun y => q (And.intro (R2.mpr z) ?_)))
                   exact (show μ.1 14 2 = _ from (xsh2 hS hok (show 1 < 6 by omega) z).1).trans (y.symm.trans (show μ.1 17 2 = _ from (xsh2 hS hok (show 4 < 6 by omega) f1).1).symm)
                 · exact Or.inr (Or.inl (xsh1 hok (by omega) n2 z)))]
               exact ⟨rfl, hS, onlyX.rf⟩)
            | (have q : ¬ bR 17 μ := zB_eq0.mp h50
               have n1 : ¬ hHeld S 4 = 0 := fun z => (show ¬ bE 17 μ from zB_eq0.mp h31) (E1.mpr z)
               have n2 : ¬ hHeld S 1 = 0 := fun z => (show ¬ bE 14 μ from zB_eq0.mp h39) (E2.mpr z)
               rw [opSh_b (by omega) (by omega) n1 n2 (Or.inl (xsh1 hok (by omega) n1 (fun z => q (R1.mpr z))))]
               exact ⟨rfl, hS, onlyX.rf⟩)
            | (have q : bE 14 μ := zB_ne0.mp h39
               rw [opSh_a (by omega) (by omega) (Or.inr (E2.mp q))]
               exact ⟨rfl, hS, onlyX.rf⟩)
            | (have q : bE 17 μ := zB_ne0.mp h31
               rw [opSh_a (by omega) (by omega) (Or.inl (E1.mp q))]
               exact ⟨rfl, hS, onlyX.rf⟩)
    · refine zb X_shift_s42 rfl ?_
      refine z_ret X_shift_d44 rfl ?_
      first
        | (have f := fin_shift (s := 4) (p := 1) (a := x) (b := y) (N := N) hS (by omega) (by omega) (by omega)
           rw [cN, cx, cy]
           exact ⟨rfl, f.1, f.2⟩)
        | (have q : ¬ bP 14 j n μ := zB_eq0.mp h89
           rw [opSh_c (by omega) (by omega) f1 f2 hsrt (fun z => q (P2.mpr (And.intro z.2.2.1 (And.intro z.1 (by rw [← ew]; exact z.2.2.2.2)))))]
           exact ⟨rfl, hS, onlyX.rf⟩)
        | (have q : ¬ bP 17 i n μ := zB_eq0.mp h77
           rw [opSh_c (by omega) (by omega) f1 f2 hsrt (fun z => q (P1.mpr (And.intro z.2.1 (And.intro z.1 (by rw [← em]; exact z.2.2.2.1)))))]
           exact ⟨rfl, hS, onlyX.rf⟩)
        | (have q := zB_eq0.mp h63
           have f1 : hHeld S 4 = 2 := R1.mp (zB_ne0.mp h50)
           have n2 : ¬ hHeld S 1 = 0 := fun z => (show ¬ bE 14 μ from zB_eq0.mp h39) (E2.mpr z)
           rw [opSh_b (by omega) (by omega) (by rw [f1]; decide) n2 (by
             by_cases z : hHeld S 1 = 2
             · refine Or.inr (Or.inr (fun y => q (And.intro (R2.mpr z) ?_)))
               exact (show μ.1 14 2 = _ from (xsh2 hS hok (show 1 < 6 by omega) z).1).trans (y.symm.trans (show μ.1 17 2 = _ from (xsh2 hS hok (show 4 < 6 by omega) f1).1).symm)
             · exact Or.inr (Or.inl (xsh1 hok (by omega) n2 z)))]
           exact ⟨rfl, hS, onlyX.rf⟩)
        | (have q : ¬ bR 17 μ := zB_eq0.mp h50
           have n1 : ¬ hHeld S 4 = 0 := fun z => (show ¬ bE 17 μ from zB_eq0.mp h31) (E1.mpr z)
           have n2 : ¬ hHeld S 1 = 0 := fun z => (show ¬ bE 14 μ from zB_eq0.mp h39) (E2.mpr z)
           rw [opSh_b (by omega) (by omega) n1 n2 (Or.inl (xsh1 hok (by omega) n1 (fun z => q (R1.mpr z))))]
           exact ⟨rfl, hS, onlyX.rf⟩)
        | (have q : bE 14 μ := zB_ne0.mp h39
           rw [opSh_a (by omega) (by omega) (Or.inr (E2.mp q))]
           exact ⟨rfl, hS, onlyX.rf⟩)
        | (have q : bE 17 μ := zB_ne0.mp h31
           rw [opSh_a (by omega) (by omega) (Or.inl (E1.mp q))]
           exact ⟨rfl, hS, onlyX.rf⟩)

set_option maxRecDepth 100000 in
set_option maxHeartbeats 4000000 in
theorem xs_shift_4_2 {g : zG} {d : Nat} {S : zS} {μ : zMem} {i j n : Int32} (hd : 2 ≤ d) (hS : xS S μ) (hok : okH S) : zM g d X_shift [.ref 1, .int (nI 4), .int i, .int (nI 2), .int j, .int n] μ (pO xS onlyX (opShift S (nI 4) i (nI 2) j n) μ) := by
  refine zM_of (by decide +kernel) rfl rfl (Nat.le_of_ble_eq_true rfl) rfl ?_
  obtain ⟨ho, h2, hT, hC, hD, hI, hA, hH⟩ := hS
  have hS : xS S μ := ⟨ho, h2, hT, hC, hD, hI, hA, hH⟩
  have hb := ho.b
  have hv := ho.v
  have hB6 := ho.b6
  have hV12 := ho.v12
  have hz : zq sX μ μ := zq.rf
  have E1 := xshE (s := 4) hS hok (by omega)
  have E2 := xshE (s := 2) hS hok (by omega)
  have R1 := xshR (s := 4) hS hok (by omega)
  have R2 := xshR (s := 2) hS hok (by omega)
  refine zb X_shift_s0 rfl ?_
  refine zcallV X_shift_d2 k10_93 (by omega) (x_shelf_4 (by omega)) rfl rfl rfl (Nat.le_of_ble_eq_true rfl) ?_
  rintro _ μx ⟨rfl, hx⟩
  rw [hx]
  clear hx μx
  refine zb X_shift_s5 rfl ?_
  refine zcallV X_shift_d9 k10_93 (by omega) (x_shelf_2 (by omega)) rfl rfl rfl (Nat.le_of_ble_eq_true rfl) ?_
  rintro _ μx ⟨rfl, hx⟩
  rw [hx]
  clear hx μx
  refine zb X_shift_s12 rfl ?_
  refine z_null X_shift_d16 ?_
  refine zb X_shift_s19 rfl ?_
  refine z_nonnull X_shift_d21 (tgt := 26) rfl ?_
  refine zb X_shift_s26 rfl ?_
  refine zcallV X_shift_d28 k10_97 (by omega) (x_isEmpty_4) rfl rfl rfl (Nat.le_of_ble_eq_true rfl) ?_
  rintro _ μx ⟨rfl, hx⟩
  rw [hx]
  clear hx μx
  refine z_ne X_shift_d31 (tgt := 42) rfl (fun h31 => ?_) (fun h31 => ?_)
  · refine zb X_shift_s42 rfl ?_
    refine z_ret X_shift_d44 rfl ?_
    first
      | (have f := fin_shift (s := 4) (p := 2) (a := x) (b := y) (N := N) hS (by omega) (by omega) (by omega)
         rw [cN, cx, cy]
         exact ⟨rfl, f.1, f.2⟩)
      | (have q : ¬ bP 15 j n μ := zB_eq0.mp h89
         rw [opSh_c (by omega) (by omega) f1 f2 hsrt (fun z => q (P2.mpr (And.intro z.2.2.1 (And.intro z.1 (by rw [← ew]; exact z.2.2.2.2)))))]
         exact ⟨rfl, hS, onlyX.rf⟩)
      | (have q : ¬ bP 17 i n μ := zB_eq0.mp h77
         rw [opSh_c (by omega) (by omega) f1 f2 hsrt (fun z => q (P1.mpr (And.intro z.2.1 (And.intro z.1 (by rw [← em]; exact z.2.2.2.1)))))]
         exact ⟨rfl, hS, onlyX.rf⟩)
      | (have q := zB_eq0.mp h63
         have f1 : hHeld S 4 = 2 := R1.mp (zB_ne0.mp h50)
         have n2 : ¬ hHeld S 2 = 0 := fun z => (show ¬ bE 15 μ from zB_eq0.mp h39) (E2.mpr z)
         rw [opSh_b (by omega) (by omega) (by rw [f1]; decide) n2 (by
           by_cases z : hHeld S 2 = 2
           · refine Or.inr (Or.inr (fun y => q (And.intro (R2.mpr z) ?_)))
             exact (show μ.1 15 2 = _ from (xsh2 hS hok (show 2 < 6 by omega) z).1).trans (y.symm.trans (show μ.1 17 2 = _ from (xsh2 hS hok (show 4 < 6 by omega) f1).1).symm)
           · exact Or.inr (Or.inl (xsh1 hok (by omega) n2 z)))]
         exact ⟨rfl, hS, onlyX.rf⟩)
      | (have q : ¬ bR 17 μ := zB_eq0.mp h50
         have n1 : ¬ hHeld S 4 = 0 := fun z => (show ¬ bE 17 μ from zB_eq0.mp h31) (E1.mpr z)
         have n2 : ¬ hHeld S 2 = 0 := fun z => (show ¬ bE 15 μ from zB_eq0.mp h39) (E2.mpr z)
         rw [opSh_b (by omega) (by omega) n1 n2 (Or.inl (xsh1 hok (by omega) n1 (fun z => q (R1.mpr z))))]
         exact ⟨rfl, hS, onlyX.rf⟩)
      | (have q : bE 15 μ := zB_ne0.mp h39
         rw [opSh_a (by omega) (by omega) (Or.inr (E2.mp q))]
         exact ⟨rfl, hS, onlyX.rf⟩)
      | (have q : bE 17 μ := zB_ne0.mp h31
         rw [opSh_a (by omega) (by omega) (Or.inl (E1.mp q))]
         exact ⟨rfl, hS, onlyX.rf⟩)
  · refine zb X_shift_s34 rfl ?_
    refine zcallV X_shift_d36 k10_97 (by omega) (x_isEmpty_2) rfl rfl rfl (Nat.le_of_ble_eq_true rfl) ?_
    rintro _ μx ⟨rfl, hx⟩
    rw [hx]
    clear hx μx
    refine z_eq X_shift_d39 (tgt := 45) rfl (fun h39 => ?_) (fun h39 => ?_)
    · refine zb X_shift_s45 rfl ?_
      refine zcallV X_shift_d47 k10_357 (by omega) (x_isRow_4) rfl rfl rfl (Nat.le_of_ble_eq_true rfl) ?_
      rintro _ μx ⟨rfl, hx⟩
      rw [hx]
      clear hx μx
      refine z_eq X_shift_d50 (tgt := 66) rfl (fun h50 => ?_) (fun h50 => ?_)
      · refine zb X_shift_s66 rfl ?_
        refine z_ret X_shift_d68 rfl ?_
        first
          | (have f := fin_shift (s := 4) (p := 2) (a := x) (b := y) (N := N) hS (by omega) (by omega) (by omega)
             rw [cN, cx, cy]
             exact ⟨rfl, f.1, f.2⟩)
          | (have q : ¬ bP 15 j n μ := zB_eq0.mp h89
             rw [opSh_c (by omega) (by omega) f1 f2 hsrt (fun z => q (P2.mpr (And.intro z.2.2.1 (And.intro z.1 (by rw [← ew]; exact z.2.2.2.2)))))]
             exact ⟨rfl, hS, onlyX.rf⟩)
          | (have q : ¬ bP 17 i n μ := zB_eq0.mp h77
             rw [opSh_c (by omega) (by omega) f1 f2 hsrt (fun z => q (P1.mpr (And.intro z.2.1 (And.intro z.1 (by rw [← em]; exact z.2.2.2.1)))))]
             exact ⟨rfl, hS, onlyX.rf⟩)
          | (have q := zB_eq0.mp h63
             have f1 : hHeld S 4 = 2 := R1.mp (zB_ne0.mp h50)
             have n2 : ¬ hHeld S 2 = 0 := fun z => (show ¬ bE 15 μ from zB_eq0.mp h39) (E2.mpr z)
             rw [opSh_b (by omega) (by omega) (by rw [f1]; decide) n2 (by
               by_cases z : hHeld S 2 = 2
               · refine Or.inr (Or.inr (fun y => q (And.intro (R2.mpr z) ?_)))
                 exact (show μ.1 15 2 = _ from (xsh2 hS hok (show 2 < 6 by omega) z).1).trans (y.symm.trans (show μ.1 17 2 = _ from (xsh2 hS hok (show 4 < 6 by omega) f1).1).symm)
               · exact Or.inr (Or.inl (xsh1 hok (by omega) n2 z)))]
             exact ⟨rfl, hS, onlyX.rf⟩)
          | (have q : ¬ bR 17 μ := zB_eq0.mp h50
             have n1 : ¬ hHeld S 4 = 0 := fun z => (show ¬ bE 17 μ from zB_eq0.mp h31) (E1.mpr z)
             have n2 : ¬ hHeld S 2 = 0 := fun z => (show ¬ bE 15 μ from zB_eq0.mp h39) (E2.mpr z)
             rw [opSh_b (by omega) (by omega) n1 n2 (Or.inl (xsh1 hok (by omega) n1 (fun z => q (R1.mpr z))))]
             exact ⟨rfl, hS, onlyX.rf⟩)
          | (have q : bE 15 μ := zB_ne0.mp h39
             rw [opSh_a (by omega) (by omega) (Or.inr (E2.mp q))]
             exact ⟨rfl, hS, onlyX.rf⟩)
          | (have q : bE 17 μ := zB_ne0.mp h31
             rw [opSh_a (by omega) (by omega) (Or.inl (E1.mp q))]
             exact ⟨rfl, hS, onlyX.rf⟩)
      · refine zb X_shift_s53 rfl ?_
        refine zcallV X_shift_d60 k10_101 (by omega) (x_isRowOf_2 _ (by omega)) rfl rfl rfl (Nat.le_of_ble_eq_true rfl) ?_
        rintro _ μx ⟨rfl, hx⟩
        rw [hx]
        clear hx μx
        refine z_ne X_shift_d63 (tgt := 69) rfl (fun h63 => ?_) (fun h63 => ?_)
        · have f1 : hHeld S 4 = 2 := R1.mp (zB_ne0.mp h50)
          have f2 : hHeld S 2 = 2 := R2.mp (zB_ne0.mp h63).1
          obtain ⟨a1, a2, m, hm, em⟩ := xsh2 hS hok (show 4 < 6 by omega) f1
          obtain ⟨b1, b2, w, hw, ew⟩ := xsh2 hS hok (show 2 < 6 by omega) f2
          have hsrt : hSort S 4 = hSort S 2 := a1.symm.trans ((zB_ne0.mp h63).2.symm.trans b1)
          have P1 := bPn (i := i) (n := n) hm (a2.trans em)
          have P2 := bPn (i := j) (n := n) hw (b2.trans ew)
          refine zb X_shift_s69 rfl ?_
          refine zcallV X_shift_d74 k10_363 (by omega) (x_hasPlaces_4 _ _) rfl rfl rfl (Nat.le_of_ble_eq_true rfl) ?_
          rintro _ μx ⟨rfl, hx⟩
          rw [hx]
          clear hx μx
          refine z_eq X_shift_d77 (tgt := 92) rfl (fun h77 => ?_) (fun h77 => ?_)
          · refine zb X_shift_s92 rfl ?_
            refine z_ret X_shift_d94 rfl ?_
            first
              | (have f := fin_shift (s := 4) (p := 2) (a := x) (b := y) (N := N) hS (by omega) (by omega) (by omega)
                 rw [cN, cx, cy]
                 exact ⟨rfl, f.1, f.2⟩)
              | (have q : ¬ bP 15 j n μ := zB_eq0.mp h89
                 rw [opSh_c (by omega) (by omega) f1 f2 hsrt (fun z => q (P2.mpr (And.intro z.2.2.1 (And.intro z.1 (by rw [← ew]; exact z.2.2.2.2)))))]
                 exact ⟨rfl, hS, onlyX.rf⟩)
              | (have q : ¬ bP 17 i n μ := zB_eq0.mp h77
                 rw [opSh_c (by omega) (by omega) f1 f2 hsrt (fun z => q (P1.mpr (And.intro z.2.1 (And.intro z.1 (by rw [← em]; exact z.2.2.2.1)))))]
                 exact ⟨rfl, hS, onlyX.rf⟩)
              | (have q := zB_eq0.mp h63
                 have f1 : hHeld S 4 = 2 := R1.mp (zB_ne0.mp h50)
                 have n2 : ¬ hHeld S 2 = 0 := fun z => (show ¬ bE 15 μ from zB_eq0.mp h39) (E2.mpr z)
                 rw [opSh_b (by omega) (by omega) (by rw [f1]; decide) n2 (by
                   by_cases z : hHeld S 2 = 2
                   · refine Or.inr (Or.inr (fun y => q (And.intro (R2.mpr z) ?_)))
                     exact (show μ.1 15 2 = _ from (xsh2 hS hok (show 2 < 6 by omega) z).1).trans (y.symm.trans (show μ.1 17 2 = _ from (xsh2 hS hok (show 4 < 6 by omega) f1).1).symm)
                   · exact Or.inr (Or.inl (xsh1 hok (by omega) n2 z)))]
                 exact ⟨rfl, hS, onlyX.rf⟩)
              | (have q : ¬ bR 17 μ := zB_eq0.mp h50
                 have n1 : ¬ hHeld S 4 = 0 := fun z => (show ¬ bE 17 μ from zB_eq0.mp h31) (E1.mpr z)
                 have n2 : ¬ hHeld S 2 = 0 := fun z => (show ¬ bE 15 μ from zB_eq0.mp h39) (E2.mpr z)
                 rw [opSh_b (by omega) (by omega) n1 n2 (Or.inl (xsh1 hok (by omega) n1 (fun z => q (R1.mpr z))))]
                 exact ⟨rfl, hS, onlyX.rf⟩)
              | (have q : bE 15 μ := zB_ne0.mp h39
                 rw [opSh_a (by omega) (by omega) (Or.inr (E2.mp q))]
                 exact ⟨rfl, hS, onlyX.rf⟩)
              | (have q : bE 17 μ := zB_ne0.mp h31
                 rw [opSh_a (by omega) (by omega) (Or.inl (E1.mp q))]
                 exact ⟨rfl, hS, onlyX.rf⟩)
          · refine zb X_shift_s80 rfl ?_
            refine zcallV X_shift_d86 k10_363 (by omega) (x_hasPlaces_2 _ _) rfl rfl rfl (Nat.le_of_ble_eq_true rfl) ?_
            rintro _ μx ⟨rfl, hx⟩
            rw [hx]
            clear hx μx
            refine z_ne X_shift_d89 (tgt := 95) rfl (fun h89 => ?_) (fun h89 => ?_)
            · have g1 := P1.mp (zB_ne0.mp h77)
              have g2 := P2.mp (zB_ne0.mp h89)
              have hall : 0 ≤ n ∧ 0 ≤ i ∧ 0 ≤ j ∧ i ≤ hSize S 4 - n ∧ j ≤ hSize S 2 - n := by
                exact ⟨g1.2.1, g1.1, g2.1, by rw [em]; exact g1.2.2, by rw [ew]; exact g2.2.2⟩
              rw [opSh_d (by omega) (by omega) f1 f2 hsrt hall]
              clear hall
              obtain ⟨N, hN, rfl⟩ := nI_of (Int32.not_lt.mpr g1.2.1)
              obtain ⟨x, hx, rfl⟩ := nI_of (Int32.not_lt.mpr g1.1)
              obtain ⟨y, hy, rfl⟩ := nI_of (Int32.not_lt.mpr g2.1)
              have k1 := (le_sub hx hm hN).mp g1.2.2
              have k2 := (le_sub hy hw hN).mp g2.2.2
              have cN : (nI N).toNatClampNeg = N := nI_clamp hN
              have cx : (nI x).toNatClampNeg = x := nI_clamp hx
              have cy : (nI y).toNatClampNeg = y := nI_clamp hy
              refine zb X_shift_s95 rfl ?_
              refine zcpL X_shift_d110 k10_366 (by omega) (Nat.le_of_ble_eq_true rfl) rfl rfl (nI_pos (by omega)) (nI_pos (by omega)) (nI_pos (by omega)) (by rw [cN, cx]; omega) (by rw [cN, cy]; omega) ?_
              refine zb X_shift_s113 rfl ?_
              refine z_ret X_shift_d115 rfl ?_
              first
                | (have f := fin_shift (s := 4) (p := 2) (a := x) (b := y) (N := N) hS (by omega) (by omega) (by omega)
                   rw [cN, cx, cy]
                   exact ⟨rfl, f.1, f.2⟩)
                | (have q : ¬ bP 15 j n μ := zB_eq0.mp h89
                   rw [opSh_c (by omega) (by omega) f1 f2 hsrt (fun z => q (P2.mpr (And.intro z.2.2.1 (And.intro z.1 (by rw [← ew]; exact z.2.2.2.2)))))]
                   exact ⟨rfl, hS, onlyX.rf⟩)
                | (have q : ¬ bP 17 i n μ := zB_eq0.mp h77
                   rw [opSh_c (by omega) (by omega) f1 f2 hsrt (fun z => q (P1.mpr (And.intro z.2.1 (And.intro z.1 (by rw [← em]; exact z.2.2.2.1)))))]
                   exact ⟨rfl, hS, onlyX.rf⟩)
                | (have q := zB_eq0.mp h63
                   have f1 : hHeld S 4 = 2 := R1.mp (zB_ne0.mp h50)
                   have n2 : ¬ hHeld S 2 = 0 := fun z => (show ¬ bE 15 μ from zB_eq0.mp h39) (E2.mpr z)
                   rw [opSh_b (by omega) (by omega) (by rw [f1]; decide) n2 (by
                     by_cases z : hHeld S 2 = 2
                     · refine Or.inr (Or.inr (fun y => q (And.intro (R2.mpr z) ?_)))
                       exact (show μ.1 15 2 = _ from (xsh2 hS hok (show 2 < 6 by omega) z).1).trans (y.symm.trans (show μ.1 17 2 = _ from (xsh2 hS hok (show 4 < 6 by omega) f1).1).symm)
                     · exact Or.inr (Or.inl (xsh1 hok (by omega) n2 z)))]
                   exact ⟨rfl, hS, onlyX.rf⟩)
                | (have q : ¬ bR 17 μ := zB_eq0.mp h50
                   have n1 : ¬ hHeld S 4 = 0 := fun z => (show ¬ bE 17 μ from zB_eq0.mp h31) (E1.mpr z)
                   have n2 : ¬ hHeld S 2 = 0 := fun z => (show ¬ bE 15 μ from zB_eq0.mp h39) (E2.mpr z)
                   rw [opSh_b (by omega) (by omega) n1 n2 (Or.inl (xsh1 hok (by omega) n1 (fun z => q (R1.mpr z))))]
                   exact ⟨rfl, hS, onlyX.rf⟩)
                | (have q : bE 15 μ := zB_ne0.mp h39
                   rw [opSh_a (by omega) (by omega) (Or.inr (E2.mp q))]
                   exact ⟨rfl, hS, onlyX.rf⟩)
                | (have q : bE 17 μ := zB_ne0.mp h31
                   rw [opSh_a (by omega) (by omega) (Or.inl (E1.mp q))]
                   exact ⟨rfl, hS, onlyX.rf⟩)
            · refine zb X_shift_s92 rfl ?_
              refine z_ret X_shift_d94 rfl ?_
              first
                | (have f := fin_shift (s := 4) (p := 2) (a := x) (b := y) (N := N) hS (by omega) (by omega) (by omega)
                   rw [cN, cx, cy]
                   exact ⟨rfl, f.1, f.2⟩)
                | (have q : ¬ bP 15 j n μ := zB_eq0.mp h89
                   rw [opSh_c (by omega) (by omega) f1 f2 hsrt (fun z => q (P2.mpr (And.intro z.2.2.1 (And.intro z.1 (by rw [← ew]; exact z.2.2.2.2)))))]
                   exact ⟨rfl, hS, onlyX.rf⟩)
                | (have q : ¬ bP 17 i n μ := zB_eq0.mp h77
                   rw [opSh_c (by omega) (by omega) f1 f2 hsrt (fun z => q (P1.mpr (And.intro z.2.1 (And.intro z.1 (by rw [← em]; exact z.2.2.2.1)))))]
                   exact ⟨rfl, hS, onlyX.rf⟩)
                | (have q := zB_eq0.mp h63
                   have f1 : hHeld S 4 = 2 := R1.mp (zB_ne0.mp h50)
                   have n2 : ¬ hHeld S 2 = 0 := fun z => (show ¬ bE 15 μ from zB_eq0.mp h39) (E2.mpr z)
                   rw [opSh_b (by omega) (by omega) (by rw [f1]; decide) n2 (by
                     by_cases z : hHeld S 2 = 2
                     · refine Or.inr (Or.inr (fun y => q (And.intro (R2.mpr z) ?_)))
                       exact (show μ.1 15 2 = _ from (xsh2 hS hok (show 2 < 6 by omega) z).1).trans (y.symm.trans (show μ.1 17 2 = _ from (xsh2 hS hok (show 4 < 6 by omega) f1).1).symm)
                     · exact Or.inr (Or.inl (xsh1 hok (by omega) n2 z)))]
                   exact ⟨rfl, hS, onlyX.rf⟩)
                | (have q : ¬ bR 17 μ := zB_eq0.mp h50
                   have n1 : ¬ hHeld S 4 = 0 := fun z => (show ¬ bE 17 μ from zB_eq0.mp h31) (E1.mpr z)
                   have n2 : ¬ hHeld S 2 = 0 := fun z => (show ¬ bE 15 μ from zB_eq0.mp h39) (E2.mpr z)
                   rw [opSh_b (by omega) (by omega) n1 n2 (Or.inl (xsh1 hok (by omega) n1 (fun z => q (R1.mpr z))))]
                   exact ⟨rfl, hS, onlyX.rf⟩)
                | (have q : bE 15 μ := zB_ne0.mp h39
                   rw [opSh_a (by omega) (by omega) (Or.inr (E2.mp q))]
                   exact ⟨rfl, hS, onlyX.rf⟩)
                | (have q : bE 17 μ := zB_ne0.mp h31
                   rw [opSh_a (by omega) (by omega) (Or.inl (E1.mp q))]
                   exact ⟨rfl, hS, onlyX.rf⟩)
        · refine zb X_shift_s66 rfl ?_
          refine z_ret X_shift_d68 rfl ?_
          first
            | (have f := fin_shift (s := 4) (p := 2) (a := x) (b := y) (N := N) hS (by omega) (by omega) (by omega)
               rw [cN, cx, cy]
               exact ⟨rfl, f.1, f.2⟩)
            | (have q : ¬ bP 15 j n μ := zB_eq0.mp h89
               rw [opSh_c (by omega) (by omega) f1 f2 hsrt (fun z => q (P2.mpr (And.intro z.2.2.1 (And.intro z.1 (by rw [← ew]; exact z.2.2.2.2)))))]
               exact ⟨rfl, hS, onlyX.rf⟩)
            | (have q : ¬ bP 17 i n μ := zB_eq0.mp h77
               rw [opSh_c (by omega) (by omega) f1 f2 hsrt (fun z => q (P1.mpr (And.intro z.2.1 (And.intro z.1 (by rw [← em]; exact z.2.2.2.1)))))]
               exact ⟨rfl, hS, onlyX.rf⟩)
            | (have q := zB_eq0.mp h63
               have f1 : hHeld S 4 = 2 := R1.mp (zB_ne0.mp h50)
               have n2 : ¬ hHeld S 2 = 0 := fun z => (show ¬ bE 15 μ from zB_eq0.mp h39) (E2.mpr z)
               rw [opSh_b (by omega) (by omega) (by rw [f1]; decide) n2 (by
                 by_cases z : hHeld S 2 = 2
                 · refine Or.inr (Or.inr (fun y => q (And.intro (R2.mpr z) ?_)))
                   exact (show μ.1 15 2 = _ from (xsh2 hS hok (show 2 < 6 by omega) z).1).trans (y.symm.trans (show μ.1 17 2 = _ from (xsh2 hS hok (show 4 < 6 by omega) f1).1).symm)
                 · exact Or.inr (Or.inl (xsh1 hok (by omega) n2 z)))]
               exact ⟨rfl, hS, onlyX.rf⟩)
            | (have q : ¬ bR 17 μ := zB_eq0.mp h50
               have n1 : ¬ hHeld S 4 = 0 := fun z => (show ¬ bE 17 μ from zB_eq0.mp h31) (E1.mpr z)
               have n2 : ¬ hHeld S 2 = 0 := fun z => (show ¬ bE 15 μ from zB_eq0.mp h39) (E2.mpr z)
               rw [opSh_b (by omega) (by omega) n1 n2 (Or.inl (xsh1 hok (by omega) n1 (fun z => q (R1.mpr z))))]
               exact ⟨rfl, hS, onlyX.rf⟩)
            | (have q : bE 15 μ := zB_ne0.mp h39
               rw [opSh_a (by omega) (by omega) (Or.inr (E2.mp q))]
               exact ⟨rfl, hS, onlyX.rf⟩)
            | (have q : bE 17 μ := zB_ne0.mp h31
               rw [opSh_a (by omega) (by omega) (Or.inl (E1.mp q))]
               exact ⟨rfl, hS, onlyX.rf⟩)
    · refine zb X_shift_s42 rfl ?_
      refine z_ret X_shift_d44 rfl ?_
      first
        | (have f := fin_shift (s := 4) (p := 2) (a := x) (b := y) (N := N) hS (by omega) (by omega) (by omega)
           rw [cN, cx, cy]
           exact ⟨rfl, f.1, f.2⟩)
        | (have q : ¬ bP 15 j n μ := zB_eq0.mp h89
           rw [opSh_c (by omega) (by omega) f1 f2 hsrt (fun z => q (P2.mpr (And.intro z.2.2.1 (And.intro z.1 (by rw [← ew]; exact z.2.2.2.2)))))]
           exact ⟨rfl, hS, onlyX.rf⟩)
        | (have q : ¬ bP 17 i n μ := zB_eq0.mp h77
           rw [opSh_c (by omega) (by omega) f1 f2 hsrt (fun z => q (P1.mpr (And.intro z.2.1 (And.intro z.1 (by rw [← em]; exact z.2.2.2.1)))))]
           exact ⟨rfl, hS, onlyX.rf⟩)
        | (have q := zB_eq0.mp h63
           have f1 : hHeld S 4 = 2 := R1.mp (zB_ne0.mp h50)
           have n2 : ¬ hHeld S 2 = 0 := fun z => (show ¬ bE 15 μ from zB_eq0.mp h39) (E2.mpr z)
           rw [opSh_b (by omega) (by omega) (by rw [f1]; decide) n2 (by
             by_cases z : hHeld S 2 = 2
             · refine Or.inr (Or.inr (fun y => q (And.intro (R2.mpr z) ?_)))
               exact (show μ.1 15 2 = _ from (xsh2 hS hok (show 2 < 6 by omega) z).1).trans (y.symm.trans (show μ.1 17 2 = _ from (xsh2 hS hok (show 4 < 6 by omega) f1).1).symm)
             · exact Or.inr (Or.inl (xsh1 hok (by omega) n2 z)))]
           exact ⟨rfl, hS, onlyX.rf⟩)
        | (have q : ¬ bR 17 μ := zB_eq0.mp h50
           have n1 : ¬ hHeld S 4 = 0 := fun z => (show ¬ bE 17 μ from zB_eq0.mp h31) (E1.mpr z)
           have n2 : ¬ hHeld S 2 = 0 := fun z => (show ¬ bE 15 μ from zB_eq0.mp h39) (E2.mpr z)
           rw [opSh_b (by omega) (by omega) n1 n2 (Or.inl (xsh1 hok (by omega) n1 (fun z => q (R1.mpr z))))]
           exact ⟨rfl, hS, onlyX.rf⟩)
        | (have q : bE 15 μ := zB_ne0.mp h39
           rw [opSh_a (by omega) (by omega) (Or.inr (E2.mp q))]
           exact ⟨rfl, hS, onlyX.rf⟩)
        | (have q : bE 17 μ := zB_ne0.mp h31
           rw [opSh_a (by omega) (by omega) (Or.inl (E1.mp q))]
           exact ⟨rfl, hS, onlyX.rf⟩)

set_option maxRecDepth 100000 in
set_option maxHeartbeats 4000000 in
theorem xs_shift_4_3 {g : zG} {d : Nat} {S : zS} {μ : zMem} {i j n : Int32} (hd : 2 ≤ d) (hS : xS S μ) (hok : okH S) : zM g d X_shift [.ref 1, .int (nI 4), .int i, .int (nI 3), .int j, .int n] μ (pO xS onlyX (opShift S (nI 4) i (nI 3) j n) μ) := by
  refine zM_of (by decide +kernel) rfl rfl (Nat.le_of_ble_eq_true rfl) rfl ?_
  obtain ⟨ho, h2, hT, hC, hD, hI, hA, hH⟩ := hS
  have hS : xS S μ := ⟨ho, h2, hT, hC, hD, hI, hA, hH⟩
  have hb := ho.b
  have hv := ho.v
  have hB6 := ho.b6
  have hV12 := ho.v12
  have hz : zq sX μ μ := zq.rf
  have E1 := xshE (s := 4) hS hok (by omega)
  have E2 := xshE (s := 3) hS hok (by omega)
  have R1 := xshR (s := 4) hS hok (by omega)
  have R2 := xshR (s := 3) hS hok (by omega)
  refine zb X_shift_s0 rfl ?_
  refine zcallV X_shift_d2 k10_93 (by omega) (x_shelf_4 (by omega)) rfl rfl rfl (Nat.le_of_ble_eq_true rfl) ?_
  rintro _ μx ⟨rfl, hx⟩
  rw [hx]
  clear hx μx
  refine zb X_shift_s5 rfl ?_
  refine zcallV X_shift_d9 k10_93 (by omega) (x_shelf_3 (by omega)) rfl rfl rfl (Nat.le_of_ble_eq_true rfl) ?_
  rintro _ μx ⟨rfl, hx⟩
  rw [hx]
  clear hx μx
  refine zb X_shift_s12 rfl ?_
  refine z_null X_shift_d16 ?_
  refine zb X_shift_s19 rfl ?_
  refine z_nonnull X_shift_d21 (tgt := 26) rfl ?_
  refine zb X_shift_s26 rfl ?_
  refine zcallV X_shift_d28 k10_97 (by omega) (x_isEmpty_4) rfl rfl rfl (Nat.le_of_ble_eq_true rfl) ?_
  rintro _ μx ⟨rfl, hx⟩
  rw [hx]
  clear hx μx
  refine z_ne X_shift_d31 (tgt := 42) rfl (fun h31 => ?_) (fun h31 => ?_)
  · refine zb X_shift_s42 rfl ?_
    refine z_ret X_shift_d44 rfl ?_
    first
      | (have f := fin_shift (s := 4) (p := 3) (a := x) (b := y) (N := N) hS (by omega) (by omega) (by omega)
         rw [cN, cx, cy]
         exact ⟨rfl, f.1, f.2⟩)
      | (have q : ¬ bP 16 j n μ := zB_eq0.mp h89
         rw [opSh_c (by omega) (by omega) f1 f2 hsrt (fun z => q (P2.mpr (And.intro z.2.2.1 (And.intro z.1 (by rw [← ew]; exact z.2.2.2.2)))))]
         exact ⟨rfl, hS, onlyX.rf⟩)
      | (have q : ¬ bP 17 i n μ := zB_eq0.mp h77
         rw [opSh_c (by omega) (by omega) f1 f2 hsrt (fun z => q (P1.mpr (And.intro z.2.1 (And.intro z.1 (by rw [← em]; exact z.2.2.2.1)))))]
         exact ⟨rfl, hS, onlyX.rf⟩)
      | (have q := zB_eq0.mp h63
         have f1 : hHeld S 4 = 2 := R1.mp (zB_ne0.mp h50)
         have n2 : ¬ hHeld S 3 = 0 := fun z => (show ¬ bE 16 μ from zB_eq0.mp h39) (E2.mpr z)
         rw [opSh_b (by omega) (by omega) (by rw [f1]; decide) n2 (by
           by_cases z : hHeld S 3 = 2
           · refine Or.inr (Or.inr (fun y => q (And.intro (R2.mpr z) ?_)))
             exact (show μ.1 16 2 = _ from (xsh2 hS hok (show 3 < 6 by omega) z).1).trans (y.symm.trans (show μ.1 17 2 = _ from (xsh2 hS hok (show 4 < 6 by omega) f1).1).symm)
           · exact Or.inr (Or.inl (xsh1 hok (by omega) n2 z)))]
         exact ⟨rfl, hS, onlyX.rf⟩)
      | (have q : ¬ bR 17 μ := zB_eq0.mp h50
         have n1 : ¬ hHeld S 4 = 0 := fun z => (show ¬ bE 17 μ from zB_eq0.mp h31) (E1.mpr z)
         have n2 : ¬ hHeld S 3 = 0 := fun z => (show ¬ bE 16 μ from zB_eq0.mp h39) (E2.mpr z)
         rw [opSh_b (by omega) (by omega) n1 n2 (Or.inl (xsh1 hok (by omega) n1 (fun z => q (R1.mpr z))))]
         exact ⟨rfl, hS, onlyX.rf⟩)
      | (have q : bE 16 μ := zB_ne0.mp h39
         rw [opSh_a (by omega) (by omega) (Or.inr (E2.mp q))]
         exact ⟨rfl, hS, onlyX.rf⟩)
      | (have q : bE 17 μ := zB_ne0.mp h31
         rw [opSh_a (by omega) (by omega) (Or.inl (E1.mp q))]
         exact ⟨rfl, hS, onlyX.rf⟩)
  · refine zb X_shift_s34 rfl ?_
    refine zcallV X_shift_d36 k10_97 (by omega) (x_isEmpty_3) rfl rfl rfl (Nat.le_of_ble_eq_true rfl) ?_
    rintro _ μx ⟨rfl, hx⟩
    rw [hx]
    clear hx μx
    refine z_eq X_shift_d39 (tgt := 45) rfl (fun h39 => ?_) (fun h39 => ?_)
    · refine zb X_shift_s45 rfl ?_
      refine zcallV X_shift_d47 k10_357 (by omega) (x_isRow_4) rfl rfl rfl (Nat.le_of_ble_eq_true rfl) ?_
      rintro _ μx ⟨rfl, hx⟩
      rw [hx]
      clear hx μx
      refine z_eq X_shift_d50 (tgt := 66) rfl (fun h50 => ?_) (fun h50 => ?_)
      · refine zb X_shift_s66 rfl ?_
        refine z_ret X_shift_d68 rfl ?_
        first
          | (have f := fin_shift (s := 4) (p := 3) (a := x) (b := y) (N := N) hS (by omega) (by omega) (by omega)
             rw [cN, cx, cy]
             exact ⟨rfl, f.1, f.2⟩)
          | (have q : ¬ bP 16 j n μ := zB_eq0.mp h89
             rw [opSh_c (by omega) (by omega) f1 f2 hsrt (fun z => q (P2.mpr (And.intro z.2.2.1 (And.intro z.1 (by rw [← ew]; exact z.2.2.2.2)))))]
             exact ⟨rfl, hS, onlyX.rf⟩)
          | (have q : ¬ bP 17 i n μ := zB_eq0.mp h77
             rw [opSh_c (by omega) (by omega) f1 f2 hsrt (fun z => q (P1.mpr (And.intro z.2.1 (And.intro z.1 (by rw [← em]; exact z.2.2.2.1)))))]
             exact ⟨rfl, hS, onlyX.rf⟩)
          | (have q := zB_eq0.mp h63
             have f1 : hHeld S 4 = 2 := R1.mp (zB_ne0.mp h50)
             have n2 : ¬ hHeld S 3 = 0 := fun z => (show ¬ bE 16 μ from zB_eq0.mp h39) (E2.mpr z)
             rw [opSh_b (by omega) (by omega) (by rw [f1]; decide) n2 (by
               by_cases z : hHeld S 3 = 2
               · refine Or.inr (Or.inr (fun y => q (And.intro (R2.mpr z) ?_)))
                 exact (show μ.1 16 2 = _ from (xsh2 hS hok (show 3 < 6 by omega) z).1).trans (y.symm.trans (show μ.1 17 2 = _ from (xsh2 hS hok (show 4 < 6 by omega) f1).1).symm)
               · exact Or.inr (Or.inl (xsh1 hok (by omega) n2 z)))]
             exact ⟨rfl, hS, onlyX.rf⟩)
          | (have q : ¬ bR 17 μ := zB_eq0.mp h50
             have n1 : ¬ hHeld S 4 = 0 := fun z => (show ¬ bE 17 μ from zB_eq0.mp h31) (E1.mpr z)
             have n2 : ¬ hHeld S 3 = 0 := fun z => (show ¬ bE 16 μ from zB_eq0.mp h39) (E2.mpr z)
             rw [opSh_b (by omega) (by omega) n1 n2 (Or.inl (xsh1 hok (by omega) n1 (fun z => q (R1.mpr z))))]
             exact ⟨rfl, hS, onlyX.rf⟩)
          | (have q : bE 16 μ := zB_ne0.mp h39
             rw [opSh_a (by omega) (by omega) (Or.inr (E2.mp q))]
             exact ⟨rfl, hS, onlyX.rf⟩)
          | (have q : bE 17 μ := zB_ne0.mp h31
             rw [opSh_a (by omega) (by omega) (Or.inl (E1.mp q))]
             exact ⟨rfl, hS, onlyX.rf⟩)
      · refine zb X_shift_s53 rfl ?_
        refine zcallV X_shift_d60 k10_101 (by omega) (x_isRowOf_3 _ (by omega)) rfl rfl rfl (Nat.le_of_ble_eq_true rfl) ?_
        rintro _ μx ⟨rfl, hx⟩
        rw [hx]
        clear hx μx
        refine z_ne X_shift_d63 (tgt := 69) rfl (fun h63 => ?_) (fun h63 => ?_)
        · have f1 : hHeld S 4 = 2 := R1.mp (zB_ne0.mp h50)
          have f2 : hHeld S 3 = 2 := R2.mp (zB_ne0.mp h63).1
          obtain ⟨a1, a2, m, hm, em⟩ := xsh2 hS hok (show 4 < 6 by omega) f1
          obtain ⟨b1, b2, w, hw, ew⟩ := xsh2 hS hok (show 3 < 6 by omega) f2
          have hsrt : hSort S 4 = hSort S 3 := a1.symm.trans ((zB_ne0.mp h63).2.symm.trans b1)
          have P1 := bPn (i := i) (n := n) hm (a2.trans em)
          have P2 := bPn (i := j) (n := n) hw (b2.trans ew)
          refine zb X_shift_s69 rfl ?_
          refine zcallV X_shift_d74 k10_363 (by omega) (x_hasPlaces_4 _ _) rfl rfl rfl (Nat.le_of_ble_eq_true rfl) ?_
          rintro _ μx ⟨rfl, hx⟩
          rw [hx]
          clear hx μx
          refine z_eq X_shift_d77 (tgt := 92) rfl (fun h77 => ?_) (fun h77 => ?_)
          · refine zb X_shift_s92 rfl ?_
            refine z_ret X_shift_d94 rfl ?_
            first
              | (have f := fin_shift (s := 4) (p := 3) (a := x) (b := y) (N := N) hS (by omega) (by omega) (by omega)
                 rw [cN, cx, cy]
                 exact ⟨rfl, f.1, f.2⟩)
              | (have q : ¬ bP 16 j n μ := zB_eq0.mp h89
                 rw [opSh_c (by omega) (by omega) f1 f2 hsrt (fun z => q (P2.mpr (And.intro z.2.2.1 (And.intro z.1 (by rw [← ew]; exact z.2.2.2.2)))))]
                 exact ⟨rfl, hS, onlyX.rf⟩)
              | (have q : ¬ bP 17 i n μ := zB_eq0.mp h77
                 rw [opSh_c (by omega) (by omega) f1 f2 hsrt (fun z => q (P1.mpr (And.intro z.2.1 (And.intro z.1 (by rw [← em]; exact z.2.2.2.1)))))]
                 exact ⟨rfl, hS, onlyX.rf⟩)
              | (have q := zB_eq0.mp h63
                 have f1 : hHeld S 4 = 2 := R1.mp (zB_ne0.mp h50)
                 have n2 : ¬ hHeld S 3 = 0 := fun z => (show ¬ bE 16 μ from zB_eq0.mp h39) (E2.mpr z)
                 rw [opSh_b (by omega) (by omega) (by rw [f1]; decide) n2 (by
                   by_cases z : hHeld S 3 = 2
                   · refine Or.inr (Or.inr (fun y => q (And.intro (R2.mpr z) ?_)))
                     exact (show μ.1 16 2 = _ from (xsh2 hS hok (show 3 < 6 by omega) z).1).trans (y.symm.trans (show μ.1 17 2 = _ from (xsh2 hS hok (show 4 < 6 by omega) f1).1).symm)
                   · exact Or.inr (Or.inl (xsh1 hok (by omega) n2 z)))]
                 exact ⟨rfl, hS, onlyX.rf⟩)
              | (have q : ¬ bR 17 μ := zB_eq0.mp h50
                 have n1 : ¬ hHeld S 4 = 0 := fun z => (show ¬ bE 17 μ from zB_eq0.mp h31) (E1.mpr z)
                 have n2 : ¬ hHeld S 3 = 0 := fun z => (show ¬ bE 16 μ from zB_eq0.mp h39) (E2.mpr z)
                 rw [opSh_b (by omega) (by omega) n1 n2 (Or.inl (xsh1 hok (by omega) n1 (fun z => q (R1.mpr z))))]
                 exact ⟨rfl, hS, onlyX.rf⟩)
              | (have q : bE 16 μ := zB_ne0.mp h39
                 rw [opSh_a (by omega) (by omega) (Or.inr (E2.mp q))]
                 exact ⟨rfl, hS, onlyX.rf⟩)
              | (have q : bE 17 μ := zB_ne0.mp h31
                 rw [opSh_a (by omega) (by omega) (Or.inl (E1.mp q))]
                 exact ⟨rfl, hS, onlyX.rf⟩)
          · refine zb X_shift_s80 rfl ?_
            refine zcallV X_shift_d86 k10_363 (by omega) (x_hasPlaces_3 _ _) rfl rfl rfl (Nat.le_of_ble_eq_true rfl) ?_
            rintro _ μx ⟨rfl, hx⟩
            rw [hx]
            clear hx μx
            refine z_ne X_shift_d89 (tgt := 95) rfl (fun h89 => ?_) (fun h89 => ?_)
            · have g1 := P1.mp (zB_ne0.mp h77)
              have g2 := P2.mp (zB_ne0.mp h89)
              have hall : 0 ≤ n ∧ 0 ≤ i ∧ 0 ≤ j ∧ i ≤ hSize S 4 - n ∧ j ≤ hSize S 3 - n := by
                exact ⟨g1.2.1, g1.1, g2.1, by rw [em]; exact g1.2.2, by rw [ew]; exact g2.2.2⟩
              rw [opSh_d (by omega) (by omega) f1 f2 hsrt hall]
              clear hall
              obtain ⟨N, hN, rfl⟩ := nI_of (Int32.not_lt.mpr g1.2.1)
              obtain ⟨x, hx, rfl⟩ := nI_of (Int32.not_lt.mpr g1.1)
              obtain ⟨y, hy, rfl⟩ := nI_of (Int32.not_lt.mpr g2.1)
              have k1 := (le_sub hx hm hN).mp g1.2.2
              have k2 := (le_sub hy hw hN).mp g2.2.2
              have cN : (nI N).toNatClampNeg = N := nI_clamp hN
              have cx : (nI x).toNatClampNeg = x := nI_clamp hx
              have cy : (nI y).toNatClampNeg = y := nI_clamp hy
              refine zb X_shift_s95 rfl ?_
              refine zcpL X_shift_d110 k10_366 (by omega) (Nat.le_of_ble_eq_true rfl) rfl rfl (nI_pos (by omega)) (nI_pos (by omega)) (nI_pos (by omega)) (by rw [cN, cx]; omega) (by rw [cN, cy]; omega) ?_
              refine zb X_shift_s113 rfl ?_
              refine z_ret X_shift_d115 rfl ?_
              first
                | (have f := fin_shift (s := 4) (p := 3) (a := x) (b := y) (N := N) hS (by omega) (by omega) (by omega)
                   rw [cN, cx, cy]
                   exact ⟨rfl, f.1, f.2⟩)
                | (have q : ¬ bP 16 j n μ := zB_eq0.mp h89
                   rw [opSh_c (by omega) (by omega) f1 f2 hsrt (fun z => q (P2.mpr (And.intro z.2.2.1 (And.intro z.1 (by rw [← ew]; exact z.2.2.2.2)))))]
                   exact ⟨rfl, hS, onlyX.rf⟩)
                | (have q : ¬ bP 17 i n μ := zB_eq0.mp h77
                   rw [opSh_c (by omega) (by omega) f1 f2 hsrt (fun z => q (P1.mpr (And.intro z.2.1 (And.intro z.1 (by rw [← em]; exact z.2.2.2.1)))))]
                   exact ⟨rfl, hS, onlyX.rf⟩)
                | (have q := zB_eq0.mp h63
                   have f1 : hHeld S 4 = 2 := R1.mp (zB_ne0.mp h50)
                   have n2 : ¬ hHeld S 3 = 0 := fun z => (show ¬ bE 16 μ from zB_eq0.mp h39) (E2.mpr z)
                   rw [opSh_b (by omega) (by omega) (by rw [f1]; decide) n2 (by
                     by_cases z : hHeld S 3 = 2
                     · refine Or.inr (Or.inr (fun y => q (And.intro (R2.mpr z) ?_)))
                       exact (show μ.1 16 2 = _ from (xsh2 hS hok (show 3 < 6 by omega) z).1).trans (y.symm.trans (show μ.1 17 2 = _ from (xsh2 hS hok (show 4 < 6 by omega) f1).1).symm)
                     · exact Or.inr (Or.inl (xsh1 hok (by omega) n2 z)))]
                   exact ⟨rfl, hS, onlyX.rf⟩)
                | (have q : ¬ bR 17 μ := zB_eq0.mp h50
                   have n1 : ¬ hHeld S 4 = 0 := fun z => (show ¬ bE 17 μ from zB_eq0.mp h31) (E1.mpr z)
                   have n2 : ¬ hHeld S 3 = 0 := fun z => (show ¬ bE 16 μ from zB_eq0.mp h39) (E2.mpr z)
                   rw [opSh_b (by omega) (by omega) n1 n2 (Or.inl (xsh1 hok (by omega) n1 (fun z => q (R1.mpr z))))]
                   exact ⟨rfl, hS, onlyX.rf⟩)
                | (have q : bE 16 μ := zB_ne0.mp h39
                   rw [opSh_a (by omega) (by omega) (Or.inr (E2.mp q))]
                   exact ⟨rfl, hS, onlyX.rf⟩)
                | (have q : bE 17 μ := zB_ne0.mp h31
                   rw [opSh_a (by omega) (by omega) (Or.inl (E1.mp q))]
                   exact ⟨rfl, hS, onlyX.rf⟩)
            · refine zb X_shift_s92 rfl ?_
              refine z_ret X_shift_d94 rfl ?_
              first
                | (have f := fin_shift (s := 4) (p := 3) (a := x) (b := y) (N := N) hS (by omega) (by omega) (by omega)
                   rw [cN, cx, cy]
                   exact ⟨rfl, f.1, f.2⟩)
                | (have q : ¬ bP 16 j n μ := zB_eq0.mp h89
                   rw [opSh_c (by omega) (by omega) f1 f2 hsrt (fun z => q (P2.mpr (And.intro z.2.2.1 (And.intro z.1 (by rw [← ew]; exact z.2.2.2.2)))))]
                   exact ⟨rfl, hS, onlyX.rf⟩)
                | (have q : ¬ bP 17 i n μ := zB_eq0.mp h77
                   rw [opSh_c (by omega) (by omega) f1 f2 hsrt (fun z => q (P1.mpr (And.intro z.2.1 (And.intro z.1 (by rw [← em]; exact z.2.2.2.1)))))]
                   exact ⟨rfl, hS, onlyX.rf⟩)
                | (have q := zB_eq0.mp h63
                   have f1 : hHeld S 4 = 2 := R1.mp (zB_ne0.mp h50)
                   have n2 : ¬ hHeld S 3 = 0 := fun z => (show ¬ bE 16 μ from zB_eq0.mp h39) (E2.mpr z)
                   rw [opSh_b (by omega) (by omega) (by rw [f1]; decide) n2 (by
                     by_cases z : hHeld S 3 = 2
                     · refine Or.inr (Or.inr (fun y => q (And.intro (R2.mpr z) ?_)))
                       exact (show μ.1 16 2 = _ from (xsh2 hS hok (show 3 < 6 by omega) z).1).trans (y.symm.trans (show μ.1 17 2 = _ from (xsh2 hS hok (show 4 < 6 by omega) f1).1).symm)
                     · exact Or.inr (Or.inl (xsh1 hok (by omega) n2 z)))]
                   exact ⟨rfl, hS, onlyX.rf⟩)
                | (have q : ¬ bR 17 μ := zB_eq0.mp h50
                   have n1 : ¬ hHeld S 4 = 0 := fun z => (show ¬ bE 17 μ from zB_eq0.mp h31) (E1.mpr z)
                   have n2 : ¬ hHeld S 3 = 0 := fun z => (show ¬ bE 16 μ from zB_eq0.mp h39) (E2.mpr z)
                   rw [opSh_b (by omega) (by omega) n1 n2 (Or.inl (xsh1 hok (by omega) n1 (fun z => q (R1.mpr z))))]
                   exact ⟨rfl, hS, onlyX.rf⟩)
                | (have q : bE 16 μ := zB_ne0.mp h39
                   rw [opSh_a (by omega) (by omega) (Or.inr (E2.mp q))]
                   exact ⟨rfl, hS, onlyX.rf⟩)
                | (have q : bE 17 μ := zB_ne0.mp h31
                   rw [opSh_a (by omega) (by omega) (Or.inl (E1.mp q))]
                   exact ⟨rfl, hS, onlyX.rf⟩)
        · refine zb X_shift_s66 rfl ?_
          refine z_ret X_shift_d68 rfl ?_
          first
            | (have f := fin_shift (s := 4) (p := 3) (a := x) (b := y) (N := N) hS (by omega) (by omega) (by omega)
               rw [cN, cx, cy]
               exact ⟨rfl, f.1, f.2⟩)
            | (have q : ¬ bP 16 j n μ := zB_eq0.mp h89
               rw [opSh_c (by omega) (by omega) f1 f2 hsrt (fun z => q (P2.mpr (And.intro z.2.2.1 (And.intro z.1 (by rw [← ew]; exact z.2.2.2.2)))))]
               exact ⟨rfl, hS, onlyX.rf⟩)
            | (have q : ¬ bP 17 i n μ := zB_eq0.mp h77
               rw [opSh_c (by omega) (by omega) f1 f2 hsrt (fun z => q (P1.mpr (And.intro z.2.1 (And.intro z.1 (by rw [← em]; exact z.2.2.2.1)))))]
               exact ⟨rfl, hS, onlyX.rf⟩)
            | (have q := zB_eq0.mp h63
               have f1 : hHeld S 4 = 2 := R1.mp (zB_ne0.mp h50)
               have n2 : ¬ hHeld S 3 = 0 := fun z => (show ¬ bE 16 μ from zB_eq0.mp h39) (E2.mpr z)
               rw [opSh_b (by omega) (by omega) (by rw [f1]; decide) n2 (by
                 by_cases z : hHeld S 3 = 2
                 · refine Or.inr (Or.inr (fun y => q (And.intro (R2.mpr z) ?_)))
                   exact (show μ.1 16 2 = _ from (xsh2 hS hok (show 3 < 6 by omega) z).1).trans (y.symm.trans (show μ.1 17 2 = _ from (xsh2 hS hok (show 4 < 6 by omega) f1).1).symm)
                 · exact Or.inr (Or.inl (xsh1 hok (by omega) n2 z)))]
               exact ⟨rfl, hS, onlyX.rf⟩)
            | (have q : ¬ bR 17 μ := zB_eq0.mp h50
               have n1 : ¬ hHeld S 4 = 0 := fun z => (show ¬ bE 17 μ from zB_eq0.mp h31) (E1.mpr z)
               have n2 : ¬ hHeld S 3 = 0 := fun z => (show ¬ bE 16 μ from zB_eq0.mp h39) (E2.mpr z)
               rw [opSh_b (by omega) (by omega) n1 n2 (Or.inl (xsh1 hok (by omega) n1 (fun z => q (R1.mpr z))))]
               exact ⟨rfl, hS, onlyX.rf⟩)
            | (have q : bE 16 μ := zB_ne0.mp h39
               rw [opSh_a (by omega) (by omega) (Or.inr (E2.mp q))]
               exact ⟨rfl, hS, onlyX.rf⟩)
            | (have q : bE 17 μ := zB_ne0.mp h31
               rw [opSh_a (by omega) (by omega) (Or.inl (E1.mp q))]
               exact ⟨rfl, hS, onlyX.rf⟩)
    · refine zb X_shift_s42 rfl ?_
      refine z_ret X_shift_d44 rfl ?_
      first
        | (have f := fin_shift (s := 4) (p := 3) (a := x) (b := y) (N := N) hS (by omega) (by omega) (by omega)
           rw [cN, cx, cy]
           exact ⟨rfl, f.1, f.2⟩)
        | (have q : ¬ bP 16 j n μ := zB_eq0.mp h89
           rw [opSh_c (by omega) (by omega) f1 f2 hsrt (fun z => q (P2.mpr (And.intro z.2.2.1 (And.intro z.1 (by rw [← ew]; exact z.2.2.2.2)))))]
           exact ⟨rfl, hS, onlyX.rf⟩)
        | (have q : ¬ bP 17 i n μ := zB_eq0.mp h77
           rw [opSh_c (by omega) (by omega) f1 f2 hsrt (fun z => q (P1.mpr (And.intro z.2.1 (And.intro z.1 (by rw [← em]; exact z.2.2.2.1)))))]
           exact ⟨rfl, hS, onlyX.rf⟩)
        | (have q := zB_eq0.mp h63
           have f1 : hHeld S 4 = 2 := R1.mp (zB_ne0.mp h50)
           have n2 : ¬ hHeld S 3 = 0 := fun z => (show ¬ bE 16 μ from zB_eq0.mp h39) (E2.mpr z)
           rw [opSh_b (by omega) (by omega) (by rw [f1]; decide) n2 (by
             by_cases z : hHeld S 3 = 2
             · refine Or.inr (Or.inr (fun y => q (And.intro (R2.mpr z) ?_)))
               exact (show μ.1 16 2 = _ from (xsh2 hS hok (show 3 < 6 by omega) z).1).trans (y.symm.trans (show μ.1 17 2 = _ from (xsh2 hS hok (show 4 < 6 by omega) f1).1).symm)
             · exact Or.inr (Or.inl (xsh1 hok (by omega) n2 z)))]
           exact ⟨rfl, hS, onlyX.rf⟩)
        | (have q : ¬ bR 17 μ := zB_eq0.mp h50
           have n1 : ¬ hHeld S 4 = 0 := fun z => (show ¬ bE 17 μ from zB_eq0.mp h31) (E1.mpr z)
           have n2 : ¬ hHeld S 3 = 0 := fun z => (show ¬ bE 16 μ from zB_eq0.mp h39) (E2.mpr z)
           rw [opSh_b (by omega) (by omega) n1 n2 (Or.inl (xsh1 hok (by omega) n1 (fun z => q (R1.mpr z))))]
           exact ⟨rfl, hS, onlyX.rf⟩)
        | (have q : bE 16 μ := zB_ne0.mp h39
           rw [opSh_a (by omega) (by omega) (Or.inr (E2.mp q))]
           exact ⟨rfl, hS, onlyX.rf⟩)
        | (have q : bE 17 μ := zB_ne0.mp h31
           rw [opSh_a (by omega) (by omega) (Or.inl (E1.mp q))]
           exact ⟨rfl, hS, onlyX.rf⟩)

set_option maxRecDepth 100000 in
set_option maxHeartbeats 4000000 in
theorem xs_shift_4_4 {g : zG} {d : Nat} {S : zS} {μ : zMem} {i j n : Int32} (hd : 2 ≤ d) (hS : xS S μ) (hok : okH S) : zM g d X_shift [.ref 1, .int (nI 4), .int i, .int (nI 4), .int j, .int n] μ (pO xS onlyX (opShift S (nI 4) i (nI 4) j n) μ) := by
  refine zM_of (by decide +kernel) rfl rfl (Nat.le_of_ble_eq_true rfl) rfl ?_
  obtain ⟨ho, h2, hT, hC, hD, hI, hA, hH⟩ := hS
  have hS : xS S μ := ⟨ho, h2, hT, hC, hD, hI, hA, hH⟩
  have hb := ho.b
  have hv := ho.v
  have hB6 := ho.b6
  have hV12 := ho.v12
  have hz : zq sX μ μ := zq.rf
  have E1 := xshE (s := 4) hS hok (by omega)
  have E2 := xshE (s := 4) hS hok (by omega)
  have R1 := xshR (s := 4) hS hok (by omega)
  have R2 := xshR (s := 4) hS hok (by omega)
  refine zb X_shift_s0 rfl ?_
  refine zcallV X_shift_d2 k10_93 (by omega) (x_shelf_4 (by omega)) rfl rfl rfl (Nat.le_of_ble_eq_true rfl) ?_
  rintro _ μx ⟨rfl, hx⟩
  rw [hx]
  clear hx μx
  refine zb X_shift_s5 rfl ?_
  refine zcallV X_shift_d9 k10_93 (by omega) (x_shelf_4 (by omega)) rfl rfl rfl (Nat.le_of_ble_eq_true rfl) ?_
  rintro _ μx ⟨rfl, hx⟩
  rw [hx]
  clear hx μx
  refine zb X_shift_s12 rfl ?_
  refine z_null X_shift_d16 ?_
  refine zb X_shift_s19 rfl ?_
  refine z_nonnull X_shift_d21 (tgt := 26) rfl ?_
  refine zb X_shift_s26 rfl ?_
  refine zcallV X_shift_d28 k10_97 (by omega) (x_isEmpty_4) rfl rfl rfl (Nat.le_of_ble_eq_true rfl) ?_
  rintro _ μx ⟨rfl, hx⟩
  rw [hx]
  clear hx μx
  refine z_ne X_shift_d31 (tgt := 42) rfl (fun h31 => ?_) (fun h31 => ?_)
  · refine zb X_shift_s42 rfl ?_
    refine z_ret X_shift_d44 rfl ?_
    first
      | (have f := fin_shift (s := 4) (p := 4) (a := x) (b := y) (N := N) hS (by omega) (by omega) (by omega)
         rw [cN, cx, cy]
         exact ⟨rfl, f.1, f.2⟩)
      | (have q : ¬ bP 17 j n μ := zB_eq0.mp h89
         rw [opSh_c (by omega) (by omega) f1 f2 hsrt (fun z => q (P2.mpr (And.intro z.2.2.1 (And.intro z.1 (by rw [← ew]; exact z.2.2.2.2)))))]
         exact ⟨rfl, hS, onlyX.rf⟩)
      | (have q : ¬ bP 17 i n μ := zB_eq0.mp h77
         rw [opSh_c (by omega) (by omega) f1 f2 hsrt (fun z => q (P1.mpr (And.intro z.2.1 (And.intro z.1 (by rw [← em]; exact z.2.2.2.1)))))]
         exact ⟨rfl, hS, onlyX.rf⟩)
      | (have q := zB_eq0.mp h63
         have f1 : hHeld S 4 = 2 := R1.mp (zB_ne0.mp h50)
         have n2 : ¬ hHeld S 4 = 0 := fun z => (show ¬ bE 17 μ from zB_eq0.mp h39) (E2.mpr z)
         rw [opSh_b (by omega) (by omega) (by rw [f1]; decide) n2 (by
           by_cases z : hHeld S 4 = 2
           · refine Or.inr (Or.inr (fun y => q (And.intro (R2.mpr z) ?_)))
             exact (show μ.1 17 2 = _ from (xsh2 hS hok (show 4 < 6 by omega) z).1).trans (y.symm.trans (show μ.1 17 2 = _ from (xsh2 hS hok (show 4 < 6 by omega) f1).1).symm)
           · exact Or.inr (Or.inl (xsh1 hok (by omega) n2 z)))]
         exact ⟨rfl, hS, onlyX.rf⟩)
      | (have q : ¬ bR 17 μ := zB_eq0.mp h50
         have n1 : ¬ hHeld S 4 = 0 := fun z => (show ¬ bE 17 μ from zB_eq0.mp h31) (E1.mpr z)
         have n2 : ¬ hHeld S 4 = 0 := fun z => (show ¬ bE 17 μ from zB_eq0.mp h39) (E2.mpr z)
         rw [opSh_b (by omega) (by omega) n1 n2 (Or.inl (xsh1 hok (by omega) n1 (fun z => q (R1.mpr z))))]
         exact ⟨rfl, hS, onlyX.rf⟩)
      | (have q : bE 17 μ := zB_ne0.mp h39
         rw [opSh_a (by omega) (by omega) (Or.inr (E2.mp q))]
         exact ⟨rfl, hS, onlyX.rf⟩)
      | (have q : bE 17 μ := zB_ne0.mp h31
         rw [opSh_a (by omega) (by omega) (Or.inl (E1.mp q))]
         exact ⟨rfl, hS, onlyX.rf⟩)
  · refine zb X_shift_s34 rfl ?_
    refine zcallV X_shift_d36 k10_97 (by omega) (x_isEmpty_4) rfl rfl rfl (Nat.le_of_ble_eq_true rfl) ?_
    rintro _ μx ⟨rfl, hx⟩
    rw [hx]
    clear hx μx
    refine z_eq X_shift_d39 (tgt := 45) rfl (fun h39 => ?_) (fun h39 => ?_)
    · refine zb X_shift_s45 rfl ?_
      refine zcallV X_shift_d47 k10_357 (by omega) (x_isRow_4) rfl rfl rfl (Nat.le_of_ble_eq_true rfl) ?_
      rintro _ μx ⟨rfl, hx⟩
      rw [hx]
      clear hx μx
      refine z_eq X_shift_d50 (tgt := 66) rfl (fun h50 => ?_) (fun h50 => ?_)
      · refine zb X_shift_s66 rfl ?_
        refine z_ret X_shift_d68 rfl ?_
        first
          | (have f := fin_shift (s := 4) (p := 4) (a := x) (b := y) (N := N) hS (by omega) (by omega) (by omega)
             rw [cN, cx, cy]
             exact ⟨rfl, f.1, f.2⟩)
          | (have q : ¬ bP 17 j n μ := zB_eq0.mp h89
             rw [opSh_c (by omega) (by omega) f1 f2 hsrt (fun z => q (P2.mpr (And.intro z.2.2.1 (And.intro z.1 (by rw [← ew]; exact z.2.2.2.2)))))]
             exact ⟨rfl, hS, onlyX.rf⟩)
          | (have q : ¬ bP 17 i n μ := zB_eq0.mp h77
             rw [opSh_c (by omega) (by omega) f1 f2 hsrt (fun z => q (P1.mpr (And.intro z.2.1 (And.intro z.1 (by rw [← em]; exact z.2.2.2.1)))))]
             exact ⟨rfl, hS, onlyX.rf⟩)
          | (have q := zB_eq0.mp h63
             have f1 : hHeld S 4 = 2 := R1.mp (zB_ne0.mp h50)
             have n2 : ¬ hHeld S 4 = 0 := fun z => (show ¬ bE 17 μ from zB_eq0.mp h39) (E2.mpr z)
             rw [opSh_b (by omega) (by omega) (by rw [f1]; decide) n2 (by
               by_cases z : hHeld S 4 = 2
               · refine Or.inr (Or.inr (fun y => q (And.intro (R2.mpr z) ?_)))
                 exact (show μ.1 17 2 = _ from (xsh2 hS hok (show 4 < 6 by omega) z).1).trans (y.symm.trans (show μ.1 17 2 = _ from (xsh2 hS hok (show 4 < 6 by omega) f1).1).symm)
               · exact Or.inr (Or.inl (xsh1 hok (by omega) n2 z)))]
             exact ⟨rfl, hS, onlyX.rf⟩)
          | (have q : ¬ bR 17 μ := zB_eq0.mp h50
             have n1 : ¬ hHeld S 4 = 0 := fun z => (show ¬ bE 17 μ from zB_eq0.mp h31) (E1.mpr z)
             have n2 : ¬ hHeld S 4 = 0 := fun z => (show ¬ bE 17 μ from zB_eq0.mp h39) (E2.mpr z)
             rw [opSh_b (by omega) (by omega) n1 n2 (Or.inl (xsh1 hok (by omega) n1 (fun z => q (R1.mpr z))))]
             exact ⟨rfl, hS, onlyX.rf⟩)
          | (have q : bE 17 μ := zB_ne0.mp h39
             rw [opSh_a (by omega) (by omega) (Or.inr (E2.mp q))]
             exact ⟨rfl, hS, onlyX.rf⟩)
          | (have q : bE 17 μ := zB_ne0.mp h31
             rw [opSh_a (by omega) (by omega) (Or.inl (E1.mp q))]
             exact ⟨rfl, hS, onlyX.rf⟩)
      · refine zb X_shift_s53 rfl ?_
        refine zcallV X_shift_d60 k10_101 (by omega) (x_isRowOf_4 _ (by omega)) rfl rfl rfl (Nat.le_of_ble_eq_true rfl) ?_
        rintro _ μx ⟨rfl, hx⟩
        rw [hx]
        clear hx μx
        refine z_ne X_shift_d63 (tgt := 69) rfl (fun h63 => ?_) (fun h63 => ?_)
        · have f1 : hHeld S 4 = 2 := R1.mp (zB_ne0.mp h50)
          have f2 : hHeld S 4 = 2 := R2.mp (zB_ne0.mp h63).1
          obtain ⟨a1, a2, m, hm, em⟩ := xsh2 hS hok (show 4 < 6 by omega) f1
          obtain ⟨b1, b2, w, hw, ew⟩ := xsh2 hS hok (show 4 < 6 by omega) f2
          have hsrt : hSort S 4 = hSort S 4 := a1.symm.trans ((zB_ne0.mp h63).2.symm.trans b1)
          have P1 := bPn (i := i) (n := n) hm (a2.trans em)
          have P2 := bPn (i := j) (n := n) hw (b2.trans ew)
          refine zb X_shift_s69 rfl ?_
          refine zcallV X_shift_d74 k10_363 (by omega) (x_hasPlaces_4 _ _) rfl rfl rfl (Nat.le_of_ble_eq_true rfl) ?_
          rintro _ μx ⟨rfl, hx⟩
          rw [hx]
          clear hx μx
          refine z_eq X_shift_d77 (tgt := 92) rfl (fun h77 => ?_) (fun h77 => ?_)
          · refine zb X_shift_s92 rfl ?_
            refine z_ret X_shift_d94 rfl ?_
            first
              | (have f := fin_shift (s := 4) (p := 4) (a := x) (b := y) (N := N) hS (by omega) (by omega) (by omega)
                 rw [cN, cx, cy]
                 exact ⟨rfl, f.1, f.2⟩)
              | (have q : ¬ bP 17 j n μ := zB_eq0.mp h89
                 rw [opSh_c (by omega) (by omega) f1 f2 hsrt (fun z => q (P2.mpr (And.intro z.2.2.1 (And.intro z.1 (by rw [← ew]; exact z.2.2.2.2)))))]
                 exact ⟨rfl, hS, onlyX.rf⟩)
              | (have q : ¬ bP 17 i n μ := zB_eq0.mp h77
                 rw [opSh_c (by omega) (by omega) f1 f2 hsrt (fun z => q (P1.mpr (And.intro z.2.1 (And.intro z.1 (by rw [← em]; exact z.2.2.2.1)))))]
                 exact ⟨rfl, hS, onlyX.rf⟩)
              | (have q := zB_eq0.mp h63
                 have f1 : hHeld S 4 = 2 := R1.mp (zB_ne0.mp h50)
                 have n2 : ¬ hHeld S 4 = 0 := fun z => (show ¬ bE 17 μ from zB_eq0.mp h39) (E2.mpr z)
                 rw [opSh_b (by omega) (by omega) (by rw [f1]; decide) n2 (by
                   by_cases z : hHeld S 4 = 2
                   · refine Or.inr (Or.inr (fun y => q (And.intro (R2.mpr z) ?_)))
                     exact (show μ.1 17 2 = _ from (xsh2 hS hok (show 4 < 6 by omega) z).1).trans (y.symm.trans (show μ.1 17 2 = _ from (xsh2 hS hok (show 4 < 6 by omega) f1).1).symm)
                   · exact Or.inr (Or.inl (xsh1 hok (by omega) n2 z)))]
                 exact ⟨rfl, hS, onlyX.rf⟩)
              | (have q : ¬ bR 17 μ := zB_eq0.mp h50
                 have n1 : ¬ hHeld S 4 = 0 := fun z => (show ¬ bE 17 μ from zB_eq0.mp h31) (E1.mpr z)
                 have n2 : ¬ hHeld S 4 = 0 := fun z => (show ¬ bE 17 μ from zB_eq0.mp h39) (E2.mpr z)
                 rw [opSh_b (by omega) (by omega) n1 n2 (Or.inl (xsh1 hok (by omega) n1 (fun z => q (R1.mpr z))))]
                 exact ⟨rfl, hS, onlyX.rf⟩)
              | (have q : bE 17 μ := zB_ne0.mp h39
                 rw [opSh_a (by omega) (by omega) (Or.inr (E2.mp q))]
                 exact ⟨rfl, hS, onlyX.rf⟩)
              | (have q : bE 17 μ := zB_ne0.mp h31
                 rw [opSh_a (by omega) (by omega) (Or.inl (E1.mp q))]
                 exact ⟨rfl, hS, onlyX.rf⟩)
          · refine zb X_shift_s80 rfl ?_
            refine zcallV X_shift_d86 k10_363 (by omega) (x_hasPlaces_4 _ _) rfl rfl rfl (Nat.le_of_ble_eq_true rfl) ?_
            rintro _ μx ⟨rfl, hx⟩
            rw [hx]
            clear hx μx
            refine z_ne X_shift_d89 (tgt := 95) rfl (fun h89 => ?_) (fun h89 => ?_)
            · have g1 := P1.mp (zB_ne0.mp h77)
              have g2 := P2.mp (zB_ne0.mp h89)
              have hall : 0 ≤ n ∧ 0 ≤ i ∧ 0 ≤ j ∧ i ≤ hSize S 4 - n ∧ j ≤ hSize S 4 - n := by
                exact ⟨g1.2.1, g1.1, g2.1, by rw [em]; exact g1.2.2, by rw [ew]; exact g2.2.2⟩
              rw [opSh_d (by omega) (by omega) f1 f2 hsrt hall]
              clear hall
              obtain ⟨N, hN, rfl⟩ := nI_of (Int32.not_lt.mpr g1.2.1)
              obtain ⟨x, hx, rfl⟩ := nI_of (Int32.not_lt.mpr g1.1)
              obtain ⟨y, hy, rfl⟩ := nI_of (Int32.not_lt.mpr g2.1)
              have k1 := (le_sub hx hm hN).mp g1.2.2
              have k2 := (le_sub hy hw hN).mp g2.2.2
              have cN : (nI N).toNatClampNeg = N := nI_clamp hN
              have cx : (nI x).toNatClampNeg = x := nI_clamp hx
              have cy : (nI y).toNatClampNeg = y := nI_clamp hy
              refine zb X_shift_s95 rfl ?_
              refine zcpL X_shift_d110 k10_366 (by omega) (Nat.le_of_ble_eq_true rfl) rfl rfl (nI_pos (by omega)) (nI_pos (by omega)) (nI_pos (by omega)) (by rw [cN, cx]; omega) (by rw [cN, cy]; omega) ?_
              refine zb X_shift_s113 rfl ?_
              refine z_ret X_shift_d115 rfl ?_
              first
                | (have f := fin_shift (s := 4) (p := 4) (a := x) (b := y) (N := N) hS (by omega) (by omega) (by omega)
                   rw [cN, cx, cy]
                   exact ⟨rfl, f.1, f.2⟩)
                | (have q : ¬ bP 17 j n μ := zB_eq0.mp h89
                   rw [opSh_c (by omega) (by omega) f1 f2 hsrt (fun z => q (P2.mpr (And.intro z.2.2.1 (And.intro z.1 (by rw [← ew]; exact z.2.2.2.2)))))]
                   exact ⟨rfl, hS, onlyX.rf⟩)
                | (have q : ¬ bP 17 i n μ := zB_eq0.mp h77
                   rw [opSh_c (by omega) (by omega) f1 f2 hsrt (fun z => q (P1.mpr (And.intro z.2.1 (And.intro z.1 (by rw [← em]; exact z.2.2.2.1)))))]
                   exact ⟨rfl, hS, onlyX.rf⟩)
                | (have q := zB_eq0.mp h63
                   have f1 : hHeld S 4 = 2 := R1.mp (zB_ne0.mp h50)
                   have n2 : ¬ hHeld S 4 = 0 := fun z => (show ¬ bE 17 μ from zB_eq0.mp h39) (E2.mpr z)
                   rw [opSh_b (by omega) (by omega) (by rw [f1]; decide) n2 (by
                     by_cases z : hHeld S 4 = 2
                     · refine Or.inr (Or.inr (fun y => q (And.intro (R2.mpr z) ?_)))
                       exact (show μ.1 17 2 = _ from (xsh2 hS hok (show 4 < 6 by omega) z).1).trans (y.symm.trans (show μ.1 17 2 = _ from (xsh2 hS hok (show 4 < 6 by omega) f1).1).symm)
                     · exact Or.inr (Or.inl (xsh1 hok (by omega) n2 z)))]
                   exact ⟨rfl, hS, onlyX.rf⟩)
                | (have q : ¬ bR 17 μ := zB_eq0.mp h50
                   have n1 : ¬ hHeld S 4 = 0 := fun z => (show ¬ bE 17 μ from zB_eq0.mp h31) (E1.mpr z)
                   have n2 : ¬ hHeld S 4 = 0 := fun z => (show ¬ bE 17 μ from zB_eq0.mp h39) (E2.mpr z)
                   rw [opSh_b (by omega) (by omega) n1 n2 (Or.inl (xsh1 hok (by omega) n1 (fun z => q (R1.mpr z))))]
                   exact ⟨rfl, hS, onlyX.rf⟩)
                | (have q : bE 17 μ := zB_ne0.mp h39
                   rw [opSh_a (by omega) (by omega) (Or.inr (E2.mp q))]
                   exact ⟨rfl, hS, onlyX.rf⟩)
                | (have q : bE 17 μ := zB_ne0.mp h31
                   rw [opSh_a (by omega) (by omega) (Or.inl (E1.mp q))]
                   exact ⟨rfl, hS, onlyX.rf⟩)
            · refine zb X_shift_s92 rfl ?_
              refine z_ret X_shift_d94 rfl ?_
              first
                | (have f := fin_shift (s := 4) (p := 4) (a := x) (b := y) (N := N) hS (by omega) (by omega) (by omega)
                   rw [cN, cx, cy]
                   exact ⟨rfl, f.1, f.2⟩)
                | (have q : ¬ bP 17 j n μ := zB_eq0.mp h89
                   rw [opSh_c (by omega) (by omega) f1 f2 hsrt (fun z => q (P2.mpr (And.intro z.2.2.1 (And.intro z.1 (by rw [← ew]; exact z.2.2.2.2)))))]
                   exact ⟨rfl, hS, onlyX.rf⟩)
                | (have q : ¬ bP 17 i n μ := zB_eq0.mp h77
                   rw [opSh_c (by omega) (by omega) f1 f2 hsrt (fun z => q (P1.mpr (And.intro z.2.1 (And.intro z.1 (by rw [← em]; exact z.2.2.2.1)))))]
                   exact ⟨rfl, hS, onlyX.rf⟩)
                | (have q := zB_eq0.mp h63
                   have f1 : hHeld S 4 = 2 := R1.mp (zB_ne0.mp h50)
                   have n2 : ¬ hHeld S 4 = 0 := fun z => (show ¬ bE 17 μ from zB_eq0.mp h39) (E2.mpr z)
                   rw [opSh_b (by omega) (by omega) (by rw [f1]; decide) n2 (by
                     by_cases z : hHeld S 4 = 2
                     · refine Or.inr (Or.inr (fun y => q (And.intro (R2.mpr z) ?_)))
                       exact (show μ.1 17 2 = _ from (xsh2 hS hok (show 4 < 6 by omega) z).1).trans (y.symm.trans (show μ.1 17 2 = _ from (xsh2 hS hok (show 4 < 6 by omega) f1).1).symm)
                     · exact Or.inr (Or.inl (xsh1 hok (by omega) n2 z)))]
                   exact ⟨rfl, hS, onlyX.rf⟩)
                | (have q : ¬ bR 17 μ := zB_eq0.mp h50
                   have n1 : ¬ hHeld S 4 = 0 := fun z => (show ¬ bE 17 μ from zB_eq0.mp h31) (E1.mpr z)
                   have n2 : ¬ hHeld S 4 = 0 := fun z => (show ¬ bE 17 μ from zB_eq0.mp h39) (E2.mpr z)
                   rw [opSh_b (by omega) (by omega) n1 n2 (Or.inl (xsh1 hok (by omega) n1 (fun z => q (R1.mpr z))))]
                   exact ⟨rfl, hS, onlyX.rf⟩)
                | (have q : bE 17 μ := zB_ne0.mp h39
                   rw [opSh_a (by omega) (by omega) (Or.inr (E2.mp q))]
                   exact ⟨rfl, hS, onlyX.rf⟩)
                | (have q : bE 17 μ := zB_ne0.mp h31
                   rw [opSh_a (by omega) (by omega) (Or.inl (E1.mp q))]
                   exact ⟨rfl, hS, onlyX.rf⟩)
        · refine zb X_shift_s66 rfl ?_
          refine z_ret X_shift_d68 rfl ?_
          first
            | (have f := fin_shift (s := 4) (p := 4) (a := x) (b := y) (N := N) hS (by omega) (by omega) (by omega)
               rw [cN, cx, cy]
               exact ⟨rfl, f.1, f.2⟩)
            | (have q : ¬ bP 17 j n μ := zB_eq0.mp h89
               rw [opSh_c (by omega) (by omega) f1 f2 hsrt (fun z => q (P2.mpr (And.intro z.2.2.1 (And.intro z.1 (by rw [← ew]; exact z.2.2.2.2)))))]
               exact ⟨rfl, hS, onlyX.rf⟩)
            | (have q : ¬ bP 17 i n μ := zB_eq0.mp h77
               rw [opSh_c (by omega) (by omega) f1 f2 hsrt (fun z => q (P1.mpr (And.intro z.2.1 (And.intro z.1 (by rw [← em]; exact z.2.2.2.1)))))]
               exact ⟨rfl, hS, onlyX.rf⟩)
            | (have q := zB_eq0.mp h63
               have f1 : hHeld S 4 = 2 := R1.mp (zB_ne0.mp h50)
               have n2 : ¬ hHeld S 4 = 0 := fun z => (show ¬ bE 17 μ from zB_eq0.mp h39) (E2.mpr z)
               rw [opSh_b (by omega) (by omega) (by rw [f1]; decide) n2 (by
                 by_cases z : hHeld S 4 = 2
                 · refine Or.inr (Or.inr (fun y => q (And.intro (R2.mpr z) ?_)))
                   exact (show μ.1 17 2 = _ from (xsh2 hS hok (show 4 < 6 by omega) z).1).trans (y.symm.trans (show μ.1 17 2 = _ from (xsh2 hS hok (show 4 < 6 by omega) f1).1).symm)
                 · exact Or.inr (Or.inl (xsh1 hok (by omega) n2 z)))]
               exact ⟨rfl, hS, onlyX.rf⟩)
            | (have q : ¬ bR 17 μ := zB_eq0.mp h50
               have n1 : ¬ hHeld S 4 = 0 := fun z => (show ¬ bE 17 μ from zB_eq0.mp h31) (E1.mpr z)
               have n2 : ¬ hHeld S 4 = 0 := fun z => (show ¬ bE 17 μ from zB_eq0.mp h39) (E2.mpr z)
               rw [opSh_b (by omega) (by omega) n1 n2 (Or.inl (xsh1 hok (by omega) n1 (fun z => q (R1.mpr z))))]
               exact ⟨rfl, hS, onlyX.rf⟩)
            | (have q : bE 17 μ := zB_ne0.mp h39
               rw [opSh_a (by omega) (by omega) (Or.inr (E2.mp q))]
               exact ⟨rfl, hS, onlyX.rf⟩)
            | (have q : bE 17 μ := zB_ne0.mp h31
               rw [opSh_a (by omega) (by omega) (Or.inl (E1.mp q))]
               exact ⟨rfl, hS, onlyX.rf⟩)
    · refine zb X_shift_s42 rfl ?_
      refine z_ret X_shift_d44 rfl ?_
      first
        | (have f := fin_shift (s := 4) (p := 4) (a := x) (b := y) (N := N) hS (by omega) (by omega) (by omega)
           rw [cN, cx, cy]
           exact ⟨rfl, f.1, f.2⟩)
        | (have q : ¬ bP 17 j n μ := zB_eq0.mp h89
           rw [opSh_c (by omega) (by omega) f1 f2 hsrt (fun z => q (P2.mpr (And.intro z.2.2.1 (And.intro z.1 (by rw [← ew]; exact z.2.2.2.2)))))]
           exact ⟨rfl, hS, onlyX.rf⟩)
        | (have q : ¬ bP 17 i n μ := zB_eq0.mp h77
           rw [opSh_c (by omega) (by omega) f1 f2 hsrt (fun z => q (P1.mpr (And.intro z.2.1 (And.intro z.1 (by rw [← em]; exact z.2.2.2.1)))))]
           exact ⟨rfl, hS, onlyX.rf⟩)
        | (have q := zB_eq0.mp h63
           have f1 : hHeld S 4 = 2 := R1.mp (zB_ne0.mp h50)
           have n2 : ¬ hHeld S 4 = 0 := fun z => (show ¬ bE 17 μ from zB_eq0.mp h39) (E2.mpr z)
           rw [opSh_b (by omega) (by omega) (by rw [f1]; decide) n2 (by
             by_cases z : hHeld S 4 = 2
             · refine Or.inr (Or.inr (fun y => q (And.intro (R2.mpr z) ?_)))
               exact (show μ.1 17 2 = _ from (xsh2 hS hok (show 4 < 6 by omega) z).1).trans (y.symm.trans (show μ.1 17 2 = _ from (xsh2 hS hok (show 4 < 6 by omega) f1).1).symm)
             · exact Or.inr (Or.inl (xsh1 hok (by omega) n2 z)))]
           exact ⟨rfl, hS, onlyX.rf⟩)
        | (have q : ¬ bR 17 μ := zB_eq0.mp h50
           have n1 : ¬ hHeld S 4 = 0 := fun z => (show ¬ bE 17 μ from zB_eq0.mp h31) (E1.mpr z)
           have n2 : ¬ hHeld S 4 = 0 := fun z => (show ¬ bE 17 μ from zB_eq0.mp h39) (E2.mpr z)
           rw [opSh_b (by omega) (by omega) n1 n2 (Or.inl (xsh1 hok (by omega) n1 (fun z => q (R1.mpr z))))]
           exact ⟨rfl, hS, onlyX.rf⟩)
        | (have q : bE 17 μ := zB_ne0.mp h39
           rw [opSh_a (by omega) (by omega) (Or.inr (E2.mp q))]
           exact ⟨rfl, hS, onlyX.rf⟩)
        | (have q : bE 17 μ := zB_ne0.mp h31
           rw [opSh_a (by omega) (by omega) (Or.inl (E1.mp q))]
           exact ⟨rfl, hS, onlyX.rf⟩)

set_option maxRecDepth 100000 in
set_option maxHeartbeats 4000000 in
theorem xs_shift_4_5 {g : zG} {d : Nat} {S : zS} {μ : zMem} {i j n : Int32} (hd : 2 ≤ d) (hS : xS S μ) (hok : okH S) : zM g d X_shift [.ref 1, .int (nI 4), .int i, .int (nI 5), .int j, .int n] μ (pO xS onlyX (opShift S (nI 4) i (nI 5) j n) μ) := by
  refine zM_of (by decide +kernel) rfl rfl (Nat.le_of_ble_eq_true rfl) rfl ?_
  obtain ⟨ho, h2, hT, hC, hD, hI, hA, hH⟩ := hS
  have hS : xS S μ := ⟨ho, h2, hT, hC, hD, hI, hA, hH⟩
  have hb := ho.b
  have hv := ho.v
  have hB6 := ho.b6
  have hV12 := ho.v12
  have hz : zq sX μ μ := zq.rf
  have E1 := xshE (s := 4) hS hok (by omega)
  have E2 := xshE (s := 5) hS hok (by omega)
  have R1 := xshR (s := 4) hS hok (by omega)
  have R2 := xshR (s := 5) hS hok (by omega)
  refine zb X_shift_s0 rfl ?_
  refine zcallV X_shift_d2 k10_93 (by omega) (x_shelf_4 (by omega)) rfl rfl rfl (Nat.le_of_ble_eq_true rfl) ?_
  rintro _ μx ⟨rfl, hx⟩
  rw [hx]
  clear hx μx
  refine zb X_shift_s5 rfl ?_
  refine zcallV X_shift_d9 k10_93 (by omega) (x_shelf_5 (by omega)) rfl rfl rfl (Nat.le_of_ble_eq_true rfl) ?_
  rintro _ μx ⟨rfl, hx⟩
  rw [hx]
  clear hx μx
  refine zb X_shift_s12 rfl ?_
  refine z_null X_shift_d16 ?_
  refine zb X_shift_s19 rfl ?_
  refine z_nonnull X_shift_d21 (tgt := 26) rfl ?_
  refine zb X_shift_s26 rfl ?_
  refine zcallV X_shift_d28 k10_97 (by omega) (x_isEmpty_4) rfl rfl rfl (Nat.le_of_ble_eq_true rfl) ?_
  rintro _ μx ⟨rfl, hx⟩
  rw [hx]
  clear hx μx
  refine z_ne X_shift_d31 (tgt := 42) rfl (fun h31 => ?_) (fun h31 => ?_)
  · refine zb X_shift_s42 rfl ?_
    refine z_ret X_shift_d44 rfl ?_
    first
      | (have f := fin_shift (s := 4) (p := 5) (a := x) (b := y) (N := N) hS (by omega) (by omega) (by omega)
         rw [cN, cx, cy]
         exact ⟨rfl, f.1, f.2⟩)
      | (have q : ¬ bP 18 j n μ := zB_eq0.mp h89
         rw [opSh_c (by omega) (by omega) f1 f2 hsrt (fun z => q (P2.mpr (And.intro z.2.2.1 (And.intro z.1 (by rw [← ew]; exact z.2.2.2.2)))))]
         exact ⟨rfl, hS, onlyX.rf⟩)
      | (have q : ¬ bP 17 i n μ := zB_eq0.mp h77
         rw [opSh_c (by omega) (by omega) f1 f2 hsrt (fun z => q (P1.mpr (And.intro z.2.1 (And.intro z.1 (by rw [← em]; exact z.2.2.2.1)))))]
         exact ⟨rfl, hS, onlyX.rf⟩)
      | (have q := zB_eq0.mp h63
         have f1 : hHeld S 4 = 2 := R1.mp (zB_ne0.mp h50)
         have n2 : ¬ hHeld S 5 = 0 := fun z => (show ¬ bE 18 μ from zB_eq0.mp h39) (E2.mpr z)
         rw [opSh_b (by omega) (by omega) (by rw [f1]; decide) n2 (by
           by_cases z : hHeld S 5 = 2
           · refine Or.inr (Or.inr (fun y => q (And.intro (R2.mpr z) ?_)))
             exact (show μ.1 18 2 = _ from (xsh2 hS hok (show 5 < 6 by omega) z).1).trans (y.symm.trans (show μ.1 17 2 = _ from (xsh2 hS hok (show 4 < 6 by omega) f1).1).symm)
           · exact Or.inr (Or.inl (xsh1 hok (by omega) n2 z)))]
         exact ⟨rfl, hS, onlyX.rf⟩)
      | (have q : ¬ bR 17 μ := zB_eq0.mp h50
         have n1 : ¬ hHeld S 4 = 0 := fun z => (show ¬ bE 17 μ from zB_eq0.mp h31) (E1.mpr z)
         have n2 : ¬ hHeld S 5 = 0 := fun z => (show ¬ bE 18 μ from zB_eq0.mp h39) (E2.mpr z)
         rw [opSh_b (by omega) (by omega) n1 n2 (Or.inl (xsh1 hok (by omega) n1 (fun z => q (R1.mpr z))))]
         exact ⟨rfl, hS, onlyX.rf⟩)
      | (have q : bE 18 μ := zB_ne0.mp h39
         rw [opSh_a (by omega) (by omega) (Or.inr (E2.mp q))]
         exact ⟨rfl, hS, onlyX.rf⟩)
      | (have q : bE 17 μ := zB_ne0.mp h31
         rw [opSh_a (by omega) (by omega) (Or.inl (E1.mp q))]
         exact ⟨rfl, hS, onlyX.rf⟩)
  · refine zb X_shift_s34 rfl ?_
    refine zcallV X_shift_d36 k10_97 (by omega) (x_isEmpty_5) rfl rfl rfl (Nat.le_of_ble_eq_true rfl) ?_
    rintro _ μx ⟨rfl, hx⟩
    rw [hx]
    clear hx μx
    refine z_eq X_shift_d39 (tgt := 45) rfl (fun h39 => ?_) (fun h39 => ?_)
    · refine zb X_shift_s45 rfl ?_
      refine zcallV X_shift_d47 k10_357 (by omega) (x_isRow_4) rfl rfl rfl (Nat.le_of_ble_eq_true rfl) ?_
      rintro _ μx ⟨rfl, hx⟩
      rw [hx]
      clear hx μx
      refine z_eq X_shift_d50 (tgt := 66) rfl (fun h50 => ?_) (fun h50 => ?_)
      · refine zb X_shift_s66 rfl ?_
        refine z_ret X_shift_d68 rfl ?_
        first
          | (have f := fin_shift (s := 4) (p := 5) (a := x) (b := y) (N := N) hS (by omega) (by omega) (by omega)
             rw [cN, cx, cy]
             exact ⟨rfl, f.1, f.2⟩)
          | (have q : ¬ bP 18 j n μ := zB_eq0.mp h89
             rw [opSh_c (by omega) (by omega) f1 f2 hsrt (fun z => q (P2.mpr (And.intro z.2.2.1 (And.intro z.1 (by rw [← ew]; exact z.2.2.2.2)))))]
             exact ⟨rfl, hS, onlyX.rf⟩)
          | (have q : ¬ bP 17 i n μ := zB_eq0.mp h77
             rw [opSh_c (by omega) (by omega) f1 f2 hsrt (fun z => q (P1.mpr (And.intro z.2.1 (And.intro z.1 (by rw [← em]; exact z.2.2.2.1)))))]
             exact ⟨rfl, hS, onlyX.rf⟩)
          | (have q := zB_eq0.mp h63
             have f1 : hHeld S 4 = 2 := R1.mp (zB_ne0.mp h50)
             have n2 : ¬ hHeld S 5 = 0 := fun z => (show ¬ bE 18 μ from zB_eq0.mp h39) (E2.mpr z)
             rw [opSh_b (by omega) (by omega) (by rw [f1]; decide) n2 (by
               by_cases z : hHeld S 5 = 2
               · refine Or.inr (Or.inr (fun y => q (And.intro (R2.mpr z) ?_)))
                 exact (show μ.1 18 2 = _ from (xsh2 hS hok (show 5 < 6 by omega) z).1).trans (y.symm.trans (show μ.1 17 2 = _ from (xsh2 hS hok (show 4 < 6 by omega) f1).1).symm)
               · exact Or.inr (Or.inl (xsh1 hok (by omega) n2 z)))]
             exact ⟨rfl, hS, onlyX.rf⟩)
          | (have q : ¬ bR 17 μ := zB_eq0.mp h50
             have n1 : ¬ hHeld S 4 = 0 := fun z => (show ¬ bE 17 μ from zB_eq0.mp h31) (E1.mpr z)
             have n2 : ¬ hHeld S 5 = 0 := fun z => (show ¬ bE 18 μ from zB_eq0.mp h39) (E2.mpr z)
             rw [opSh_b (by omega) (by omega) n1 n2 (Or.inl (xsh1 hok (by omega) n1 (fun z => q (R1.mpr z))))]
             exact ⟨rfl, hS, onlyX.rf⟩)
          | (have q : bE 18 μ := zB_ne0.mp h39
             rw [opSh_a (by omega) (by omega) (Or.inr (E2.mp q))]
             exact ⟨rfl, hS, onlyX.rf⟩)
          | (have q : bE 17 μ := zB_ne0.mp h31
             rw [opSh_a (by omega) (by omega) (Or.inl (E1.mp q))]
             exact ⟨rfl, hS, onlyX.rf⟩)
      · refine zb X_shift_s53 rfl ?_
        refine zcallV X_shift_d60 k10_101 (by omega) (x_isRowOf_5 _ (by omega)) rfl rfl rfl (Nat.le_of_ble_eq_true rfl) ?_
        rintro _ μx ⟨rfl, hx⟩
        rw [hx]
        clear hx μx
        refine z_ne X_shift_d63 (tgt := 69) rfl (fun h63 => ?_) (fun h63 => ?_)
        · have f1 : hHeld S 4 = 2 := R1.mp (zB_ne0.mp h50)
          have f2 : hHeld S 5 = 2 := R2.mp (zB_ne0.mp h63).1
          obtain ⟨a1, a2, m, hm, em⟩ := xsh2 hS hok (show 4 < 6 by omega) f1
          obtain ⟨b1, b2, w, hw, ew⟩ := xsh2 hS hok (show 5 < 6 by omega) f2
          have hsrt : hSort S 4 = hSort S 5 := a1.symm.trans ((zB_ne0.mp h63).2.symm.trans b1)
          have P1 := bPn (i := i) (n := n) hm (a2.trans em)
          have P2 := bPn (i := j) (n := n) hw (b2.trans ew)
          refine zb X_shift_s69 rfl ?_
          refine zcallV X_shift_d74 k10_363 (by omega) (x_hasPlaces_4 _ _) rfl rfl rfl (Nat.le_of_ble_eq_true rfl) ?_
          rintro _ μx ⟨rfl, hx⟩
          rw [hx]
          clear hx μx
          refine z_eq X_shift_d77 (tgt := 92) rfl (fun h77 => ?_) (fun h77 => ?_)
          · refine zb X_shift_s92 rfl ?_
            refine z_ret X_shift_d94 rfl ?_
            first
              | (have f := fin_shift (s := 4) (p := 5) (a := x) (b := y) (N := N) hS (by omega) (by omega) (by omega)
                 rw [cN, cx, cy]
                 exact ⟨rfl, f.1, f.2⟩)
              | (have q : ¬ bP 18 j n μ := zB_eq0.mp h89
                 rw [opSh_c (by omega) (by omega) f1 f2 hsrt (fun z => q (P2.mpr (And.intro z.2.2.1 (And.intro z.1 (by rw [← ew]; exact z.2.2.2.2)))))]
                 exact ⟨rfl, hS, onlyX.rf⟩)
              | (have q : ¬ bP 17 i n μ := zB_eq0.mp h77
                 rw [opSh_c (by omega) (by omega) f1 f2 hsrt (fun z => q (P1.mpr (And.intro z.2.1 (And.intro z.1 (by rw [← em]; exact z.2.2.2.1)))))]
                 exact ⟨rfl, hS, onlyX.rf⟩)
              | (have q := zB_eq0.mp h63
                 have f1 : hHeld S 4 = 2 := R1.mp (zB_ne0.mp h50)
                 have n2 : ¬ hHeld S 5 = 0 := fun z => (show ¬ bE 18 μ from zB_eq0.mp h39) (E2.mpr z)
                 rw [opSh_b (by omega) (by omega) (by rw [f1]; decide) n2 (by
                   by_cases z : hHeld S 5 = 2
                   · refine Or.inr (Or.inr (fun y => q (And.intro (R2.mpr z) ?_)))
                     exact (show μ.1 18 2 = _ from (xsh2 hS hok (show 5 < 6 by omega) z).1).trans (y.symm.trans (show μ.1 17 2 = _ from (xsh2 hS hok (show 4 < 6 by omega) f1).1).symm)
                   · exact Or.inr (Or.inl (xsh1 hok (by omega) n2 z)))]
                 exact ⟨rfl, hS, onlyX.rf⟩)
              | (have q : ¬ bR 17 μ := zB_eq0.mp h50
                 have n1 : ¬ hHeld S 4 = 0 := fun z => (show ¬ bE 17 μ from zB_eq0.mp h31) (E1.mpr z)
                 have n2 : ¬ hHeld S 5 = 0 := fun z => (show ¬ bE 18 μ from zB_eq0.mp h39) (E2.mpr z)
                 rw [opSh_b (by omega) (by omega) n1 n2 (Or.inl (xsh1 hok (by omega) n1 (fun z => q (R1.mpr z))))]
                 exact ⟨rfl, hS, onlyX.rf⟩)
              | (have q : bE 18 μ := zB_ne0.mp h39
                 rw [opSh_a (by omega) (by omega) (Or.inr (E2.mp q))]
                 exact ⟨rfl, hS, onlyX.rf⟩)
              | (have q : bE 17 μ := zB_ne0.mp h31
                 rw [opSh_a (by omega) (by omega) (Or.inl (E1.mp q))]
                 exact ⟨rfl, hS, onlyX.rf⟩)
          · refine zb X_shift_s80 rfl ?_
            refine zcallV X_shift_d86 k10_363 (by omega) (x_hasPlaces_5 _ _) rfl rfl rfl (Nat.le_of_ble_eq_true rfl) ?_
            rintro _ μx ⟨rfl, hx⟩
            rw [hx]
            clear hx μx
            refine z_ne X_shift_d89 (tgt := 95) rfl (fun h89 => ?_) (fun h89 => ?_)
            · have g1 := P1.mp (zB_ne0.mp h77)
              have g2 := P2.mp (zB_ne0.mp h89)
              have hall : 0 ≤ n ∧ 0 ≤ i ∧ 0 ≤ j ∧ i ≤ hSize S 4 - n ∧ j ≤ hSize S 5 - n := by
                exact ⟨g1.2.1, g1.1, g2.1, by rw [em]; exact g1.2.2, by rw [ew]; exact g2.2.2⟩
              rw [opSh_d (by omega) (by omega) f1 f2 hsrt hall]
              clear hall
              obtain ⟨N, hN, rfl⟩ := nI_of (Int32.not_lt.mpr g1.2.1)
              obtain ⟨x, hx, rfl⟩ := nI_of (Int32.not_lt.mpr g1.1)
              obtain ⟨y, hy, rfl⟩ := nI_of (Int32.not_lt.mpr g2.1)
              have k1 := (le_sub hx hm hN).mp g1.2.2
              have k2 := (le_sub hy hw hN).mp g2.2.2
              have cN : (nI N).toNatClampNeg = N := nI_clamp hN
              have cx : (nI x).toNatClampNeg = x := nI_clamp hx
              have cy : (nI y).toNatClampNeg = y := nI_clamp hy
              refine zb X_shift_s95 rfl ?_
              refine zcpL X_shift_d110 k10_366 (by omega) (Nat.le_of_ble_eq_true rfl) rfl rfl (nI_pos (by omega)) (nI_pos (by omega)) (nI_pos (by omega)) (by rw [cN, cx]; omega) (by rw [cN, cy]; omega) ?_
              refine zb X_shift_s113 rfl ?_
              refine z_ret X_shift_d115 rfl ?_
              first
                | (have f := fin_shift (s := 4) (p := 5) (a := x) (b := y) (N := N) hS (by omega) (by omega) (by omega)
                   rw [cN, cx, cy]
                   exact ⟨rfl, f.1, f.2⟩)
                | (have q : ¬ bP 18 j n μ := zB_eq0.mp h89
                   rw [opSh_c (by omega) (by omega) f1 f2 hsrt (fun z => q (P2.mpr (And.intro z.2.2.1 (And.intro z.1 (by rw [← ew]; exact z.2.2.2.2)))))]
                   exact ⟨rfl, hS, onlyX.rf⟩)
                | (have q : ¬ bP 17 i n μ := zB_eq0.mp h77
                   rw [opSh_c (by omega) (by omega) f1 f2 hsrt (fun z => q (P1.mpr (And.intro z.2.1 (And.intro z.1 (by rw [← em]; exact z.2.2.2.1)))))]
                   exact ⟨rfl, hS, onlyX.rf⟩)
                | (have q := zB_eq0.mp h63
                   have f1 : hHeld S 4 = 2 := R1.mp (zB_ne0.mp h50)
                   have n2 : ¬ hHeld S 5 = 0 := fun z => (show ¬ bE 18 μ from zB_eq0.mp h39) (E2.mpr z)
                   rw [opSh_b (by omega) (by omega) (by rw [f1]; decide) n2 (by
                     by_cases z : hHeld S 5 = 2
                     · refine Or.inr (Or.inr (fun y => q (And.intro (R2.mpr z) ?_)))
                       exact (show μ.1 18 2 = _ from (xsh2 hS hok (show 5 < 6 by omega) z).1).trans (y.symm.trans (show μ.1 17 2 = _ from (xsh2 hS hok (show 4 < 6 by omega) f1).1).symm)
                     · exact Or.inr (Or.inl (xsh1 hok (by omega) n2 z)))]
                   exact ⟨rfl, hS, onlyX.rf⟩)
                | (have q : ¬ bR 17 μ := zB_eq0.mp h50
                   have n1 : ¬ hHeld S 4 = 0 := fun z => (show ¬ bE 17 μ from zB_eq0.mp h31) (E1.mpr z)
                   have n2 : ¬ hHeld S 5 = 0 := fun z => (show ¬ bE 18 μ from zB_eq0.mp h39) (E2.mpr z)
                   rw [opSh_b (by omega) (by omega) n1 n2 (Or.inl (xsh1 hok (by omega) n1 (fun z => q (R1.mpr z))))]
                   exact ⟨rfl, hS, onlyX.rf⟩)
                | (have q : bE 18 μ := zB_ne0.mp h39
                   rw [opSh_a (by omega) (by omega) (Or.inr (E2.mp q))]
                   exact ⟨rfl, hS, onlyX.rf⟩)
                | (have q : bE 17 μ := zB_ne0.mp h31
                   rw [opSh_a (by omega) (by omega) (Or.inl (E1.mp q))]
                   exact ⟨rfl, hS, onlyX.rf⟩)
            · refine zb X_shift_s92 rfl ?_
              refine z_ret X_shift_d94 rfl ?_
              first
                | (have f := fin_shift (s := 4) (p := 5) (a := x) (b := y) (N := N) hS (by omega) (by omega) (by omega)
                   rw [cN, cx, cy]
                   exact ⟨rfl, f.1, f.2⟩)
                | (have q : ¬ bP 18 j n μ := zB_eq0.mp h89
                   rw [opSh_c (by omega) (by omega) f1 f2 hsrt (fun z => q (P2.mpr (And.intro z.2.2.1 (And.intro z.1 (by rw [← ew]; exact z.2.2.2.2)))))]
                   exact ⟨rfl, hS, onlyX.rf⟩)
                | (have q : ¬ bP 17 i n μ := zB_eq0.mp h77
                   rw [opSh_c (by omega) (by omega) f1 f2 hsrt (fun z => q (P1.mpr (And.intro z.2.1 (And.intro z.1 (by rw [← em]; exact z.2.2.2.1)))))]
                   exact ⟨rfl, hS, onlyX.rf⟩)
                | (have q := zB_eq0.mp h63
                   have f1 : hHeld S 4 = 2 := R1.mp (zB_ne0.mp h50)
                   have n2 : ¬ hHeld S 5 = 0 := fun z => (show ¬ bE 18 μ from zB_eq0.mp h39) (E2.mpr z)
                   rw [opSh_b (by omega) (by omega) (by rw [f1]; decide) n2 (by
                     by_cases z : hHeld S 5 = 2
                     · refine Or.inr (Or.inr (fun y => q (And.intro (R2.mpr z) ?_)))
                       exact (show μ.1 18 2 = _ from (xsh2 hS hok (show 5 < 6 by omega) z).1).trans (y.symm.trans (show μ.1 17 2 = _ from (xsh2 hS hok (show 4 < 6 by omega) f1).1).symm)
                     · exact Or.inr (Or.inl (xsh1 hok (by omega) n2 z)))]
                   exact ⟨rfl, hS, onlyX.rf⟩)
                | (have q : ¬ bR 17 μ := zB_eq0.mp h50
                   have n1 : ¬ hHeld S 4 = 0 := fun z => (show ¬ bE 17 μ from zB_eq0.mp h31) (E1.mpr z)
                   have n2 : ¬ hHeld S 5 = 0 := fun z => (show ¬ bE 18 μ from zB_eq0.mp h39) (E2.mpr z)
                   rw [opSh_b (by omega) (by omega) n1 n2 (Or.inl (xsh1 hok (by omega) n1 (fun z => q (R1.mpr z))))]
                   exact ⟨rfl, hS, onlyX.rf⟩)
                | (have q : bE 18 μ := zB_ne0.mp h39
                   rw [opSh_a (by omega) (by omega) (Or.inr (E2.mp q))]
                   exact ⟨rfl, hS, onlyX.rf⟩)
                | (have q : bE 17 μ := zB_ne0.mp h31
                   rw [opSh_a (by omega) (by omega) (Or.inl (E1.mp q))]
                   exact ⟨rfl, hS, onlyX.rf⟩)
        · refine zb X_shift_s66 rfl ?_
          refine z_ret X_shift_d68 rfl ?_
          first
            | (have f := fin_shift (s := 4) (p := 5) (a := x) (b := y) (N := N) hS (by omega) (by omega) (by omega)
               rw [cN, cx, cy]
               exact ⟨rfl, f.1, f.2⟩)
            | (have q : ¬ bP 18 j n μ := zB_eq0.mp h89
               rw [opSh_c (by omega) (by omega) f1 f2 hsrt (fun z => q (P2.mpr (And.intro z.2.2.1 (And.intro z.1 (by rw [← ew]; exact z.2.2.2.2)))))]
               exact ⟨rfl, hS, onlyX.rf⟩)
            | (have q : ¬ bP 17 i n μ := zB_eq0.mp h77
               rw [opSh_c (by omega) (by omega) f1 f2 hsrt (fun z => q (P1.mpr (And.intro z.2.1 (And.intro z.1 (by rw [← em]; exact z.2.2.2.1)))))]
               exact ⟨rfl, hS, onlyX.rf⟩)
            | (have q := zB_eq0.mp h63
               have f1 : hHeld S 4 = 2 := R1.mp (zB_ne0.mp h50)
               have n2 : ¬ hHeld S 5 = 0 := fun z => (show ¬ bE 18 μ from zB_eq0.mp h39) (E2.mpr z)
               rw [opSh_b (by omega) (by omega) (by rw [f1]; decide) n2 (by
                 by_cases z : hHeld S 5 = 2
                 · refine Or.inr (Or.inr (fun y => q (And.intro (R2.mpr z) ?_)))
                   exact (show μ.1 18 2 = _ from (xsh2 hS hok (show 5 < 6 by omega) z).1).trans (y.symm.trans (show μ.1 17 2 = _ from (xsh2 hS hok (show 4 < 6 by omega) f1).1).symm)
                 · exact Or.inr (Or.inl (xsh1 hok (by omega) n2 z)))]
               exact ⟨rfl, hS, onlyX.rf⟩)
            | (have q : ¬ bR 17 μ := zB_eq0.mp h50
               have n1 : ¬ hHeld S 4 = 0 := fun z => (show ¬ bE 17 μ from zB_eq0.mp h31) (E1.mpr z)
               have n2 : ¬ hHeld S 5 = 0 := fun z => (show ¬ bE 18 μ from zB_eq0.mp h39) (E2.mpr z)
               rw [opSh_b (by omega) (by omega) n1 n2 (Or.inl (xsh1 hok (by omega) n1 (fun z => q (R1.mpr z))))]
               exact ⟨rfl, hS, onlyX.rf⟩)
            | (have q : bE 18 μ := zB_ne0.mp h39
               rw [opSh_a (by omega) (by omega) (Or.inr (E2.mp q))]
               exact ⟨rfl, hS, onlyX.rf⟩)
            | (have q : bE 17 μ := zB_ne0.mp h31
               rw [opSh_a (by omega) (by omega) (Or.inl (E1.mp q))]
               exact ⟨rfl, hS, onlyX.rf⟩)
    · refine zb X_shift_s42 rfl ?_
      refine z_ret X_shift_d44 rfl ?_
      first
        | (have f := fin_shift (s := 4) (p := 5) (a := x) (b := y) (N := N) hS (by omega) (by omega) (by omega)
           rw [cN, cx, cy]
           exact ⟨rfl, f.1, f.2⟩)
        | (have q : ¬ bP 18 j n μ := zB_eq0.mp h89
           rw [opSh_c (by omega) (by omega) f1 f2 hsrt (fun z => q (P2.mpr (And.intro z.2.2.1 (And.intro z.1 (by rw [← ew]; exact z.2.2.2.2)))))]
           exact ⟨rfl, hS, onlyX.rf⟩)
        | (have q : ¬ bP 17 i n μ := zB_eq0.mp h77
           rw [opSh_c (by omega) (by omega) f1 f2 hsrt (fun z => q (P1.mpr (And.intro z.2.1 (And.intro z.1 (by rw [← em]; exact z.2.2.2.1)))))]
           exact ⟨rfl, hS, onlyX.rf⟩)
        | (have q := zB_eq0.mp h63
           have f1 : hHeld S 4 = 2 := R1.mp (zB_ne0.mp h50)
           have n2 : ¬ hHeld S 5 = 0 := fun z => (show ¬ bE 18 μ from zB_eq0.mp h39) (E2.mpr z)
           rw [opSh_b (by omega) (by omega) (by rw [f1]; decide) n2 (by
             by_cases z : hHeld S 5 = 2
             · refine Or.inr (Or.inr (fun y => q (And.intro (R2.mpr z) ?_)))
               exact (show μ.1 18 2 = _ from (xsh2 hS hok (show 5 < 6 by omega) z).1).trans (y.symm.trans (show μ.1 17 2 = _ from (xsh2 hS hok (show 4 < 6 by omega) f1).1).symm)
             · exact Or.inr (Or.inl (xsh1 hok (by omega) n2 z)))]
           exact ⟨rfl, hS, onlyX.rf⟩)
        | (have q : ¬ bR 17 μ := zB_eq0.mp h50
           have n1 : ¬ hHeld S 4 = 0 := fun z => (show ¬ bE 17 μ from zB_eq0.mp h31) (E1.mpr z)
           have n2 : ¬ hHeld S 5 = 0 := fun z => (show ¬ bE 18 μ from zB_eq0.mp h39) (E2.mpr z)
           rw [opSh_b (by omega) (by omega) n1 n2 (Or.inl (xsh1 hok (by omega) n1 (fun z => q (R1.mpr z))))]
           exact ⟨rfl, hS, onlyX.rf⟩)
        | (have q : bE 18 μ := zB_ne0.mp h39
           rw [opSh_a (by omega) (by omega) (Or.inr (E2.mp q))]
           exact ⟨rfl, hS, onlyX.rf⟩)
        | (have q : bE 17 μ := zB_ne0.mp h31
           rw [opSh_a (by omega) (by omega) (Or.inl (E1.mp q))]
           exact ⟨rfl, hS, onlyX.rf⟩)

set_option maxRecDepth 100000 in
set_option maxHeartbeats 4000000 in
theorem xs_shift_5_0 {g : zG} {d : Nat} {S : zS} {μ : zMem} {i j n : Int32} (hd : 2 ≤ d) (hS : xS S μ) (hok : okH S) : zM g d X_shift [.ref 1, .int (nI 5), .int i, .int (nI 0), .int j, .int n] μ (pO xS onlyX (opShift S (nI 5) i (nI 0) j n) μ) := by
  refine zM_of (by decide +kernel) rfl rfl (Nat.le_of_ble_eq_true rfl) rfl ?_
  obtain ⟨ho, h2, hT, hC, hD, hI, hA, hH⟩ := hS
  have hS : xS S μ := ⟨ho, h2, hT, hC, hD, hI, hA, hH⟩
  have hb := ho.b
  have hv := ho.v
  have hB6 := ho.b6
  have hV12 := ho.v12
  have hz : zq sX μ μ := zq.rf
  have E1 := xshE (s := 5) hS hok (by omega)
  have E2 := xshE (s := 0) hS hok (by omega)
  have R1 := xshR (s := 5) hS hok (by omega)
  have R2 := xshR (s := 0) hS hok (by omega)
  refine zb X_shift_s0 rfl ?_
  refine zcallV X_shift_d2 k10_93 (by omega) (x_shelf_5 (by omega)) rfl rfl rfl (Nat.le_of_ble_eq_true rfl) ?_
  rintro _ μx ⟨rfl, hx⟩
  rw [hx]
  clear hx μx
  refine zb X_shift_s5 rfl ?_
  refine zcallV X_shift_d9 k10_93 (by omega) (x_shelf_0 (by omega)) rfl rfl rfl (Nat.le_of_ble_eq_true rfl) ?_
  rintro _ μx ⟨rfl, hx⟩
  rw [hx]
  clear hx μx
  refine zb X_shift_s12 rfl ?_
  refine z_null X_shift_d16 ?_
  refine zb X_shift_s19 rfl ?_
  refine z_nonnull X_shift_d21 (tgt := 26) rfl ?_
  refine zb X_shift_s26 rfl ?_
  refine zcallV X_shift_d28 k10_97 (by omega) (x_isEmpty_5) rfl rfl rfl (Nat.le_of_ble_eq_true rfl) ?_
  rintro _ μx ⟨rfl, hx⟩
  rw [hx]
  clear hx μx
  refine z_ne X_shift_d31 (tgt := 42) rfl (fun h31 => ?_) (fun h31 => ?_)
  · refine zb X_shift_s42 rfl ?_
    refine z_ret X_shift_d44 rfl ?_
    first
      | (have f := fin_shift (s := 5) (p := 0) (a := x) (b := y) (N := N) hS (by omega) (by omega) (by omega)
         rw [cN, cx, cy]
         exact ⟨rfl, f.1, f.2⟩)
      | (have q : ¬ bP 13 j n μ := zB_eq0.mp h89
         rw [opSh_c (by omega) (by omega) f1 f2 hsrt (fun z => q (P2.mpr (And.intro z.2.2.1 (And.intro z.1 (by rw [← ew]; exact z.2.2.2.2)))))]
         exact ⟨rfl, hS, onlyX.rf⟩)
      | (have q : ¬ bP 18 i n μ := zB_eq0.mp h77
         rw [opSh_c (by omega) (by omega) f1 f2 hsrt (fun z => q (P1.mpr (And.intro z.2.1 (And.intro z.1 (by rw [← em]; exact z.2.2.2.1)))))]
         exact ⟨rfl, hS, onlyX.rf⟩)
      | (have q := zB_eq0.mp h63
         have f1 : hHeld S 5 = 2 := R1.mp (zB_ne0.mp h50)
         have n2 : ¬ hHeld S 0 = 0 := fun z => (show ¬ bE 13 μ from zB_eq0.mp h39) (E2.mpr z)
         rw [opSh_b (by omega) (by omega) (by rw [f1]; decide) n2 (by
           by_cases z : hHeld S 0 = 2
           · refine Or.inr (Or.inr (fun y => q (And.intro (R2.mpr z) ?_)))
             exact (show μ.1 13 2 = _ from (xsh2 hS hok (show 0 < 6 by omega) z).1).trans (y.symm.trans (show μ.1 18 2 = _ from (xsh2 hS hok (show 5 < 6 by omega) f1).1).symm)
           · exact Or.inr (Or.inl (xsh1 hok (by omega) n2 z)))]
         exact ⟨rfl, hS, onlyX.rf⟩)
      | (have q : ¬ bR 18 μ := zB_eq0.mp h50
         have n1 : ¬ hHeld S 5 = 0 := fun z => (show ¬ bE 18 μ from zB_eq0.mp h31) (E1.mpr z)
         have n2 : ¬ hHeld S 0 = 0 := fun z => (show ¬ bE 13 μ from zB_eq0.mp h39) (E2.mpr z)
         rw [opSh_b (by omega) (by omega) n1 n2 (Or.inl (xsh1 hok (by omega) n1 (fun z => q (R1.mpr z))))]
         exact ⟨rfl, hS, onlyX.rf⟩)
      | (have q : bE 13 μ := zB_ne0.mp h39
         rw [opSh_a (by omega) (by omega) (Or.inr (E2.mp q))]
         exact ⟨rfl, hS, onlyX.rf⟩)
      | (have q : bE 18 μ := zB_ne0.mp h31
         rw [opSh_a (by omega) (by omega) (Or.inl (E1.mp q))]
         exact ⟨rfl, hS, onlyX.rf⟩)
  · refine zb X_shift_s34 rfl ?_
    refine zcallV X_shift_d36 k10_97 (by omega) (x_isEmpty_0) rfl rfl rfl (Nat.le_of_ble_eq_true rfl) ?_
    rintro _ μx ⟨rfl, hx⟩
    rw [hx]
    clear hx μx
    refine z_eq X_shift_d39 (tgt := 45) rfl (fun h39 => ?_) (fun h39 => ?_)
    · refine zb X_shift_s45 rfl ?_
      refine zcallV X_shift_d47 k10_357 (by omega) (x_isRow_5) rfl rfl rfl (Nat.le_of_ble_eq_true rfl) ?_
      rintro _ μx ⟨rfl, hx⟩
      rw [hx]
      clear hx μx
      refine z_eq X_shift_d50 (tgt := 66) rfl (fun h50 => ?_) (fun h50 => ?_)
      · refine zb X_shift_s66 rfl ?_
        refine z_ret X_shift_d68 rfl ?_
        first
          | (have f := fin_shift (s := 5) (p := 0) (a := x) (b := y) (N := N) hS (by omega) (by omega) (by omega)
             rw [cN, cx, cy]
             exact ⟨rfl, f.1, f.2⟩)
          | (have q : ¬ bP 13 j n μ := zB_eq0.mp h89
             rw [opSh_c (by omega) (by omega) f1 f2 hsrt (fun z => q (P2.mpr (And.intro z.2.2.1 (And.intro z.1 (by rw [← ew]; exact z.2.2.2.2)))))]
             exact ⟨rfl, hS, onlyX.rf⟩)
          | (have q : ¬ bP 18 i n μ := zB_eq0.mp h77
             rw [opSh_c (by omega) (by omega) f1 f2 hsrt (fun z => q (P1.mpr (And.intro z.2.1 (And.intro z.1 (by rw [← em]; exact z.2.2.2.1)))))]
             exact ⟨rfl, hS, onlyX.rf⟩)
          | (have q := zB_eq0.mp h63
             have f1 : hHeld S 5 = 2 := R1.mp (zB_ne0.mp h50)
             have n2 : ¬ hHeld S 0 = 0 := fun z => (show ¬ bE 13 μ from zB_eq0.mp h39) (E2.mpr z)
             rw [opSh_b (by omega) (by omega) (by rw [f1]; decide) n2 (by
               by_cases z : hHeld S 0 = 2
               · refine Or.inr (Or.inr (fun y => q (And.intro (R2.mpr z) ?_)))
                 exact (show μ.1 13 2 = _ from (xsh2 hS hok (show 0 < 6 by omega) z).1).trans (y.symm.trans (show μ.1 18 2 = _ from (xsh2 hS hok (show 5 < 6 by omega) f1).1).symm)
               · exact Or.inr (Or.inl (xsh1 hok (by omega) n2 z)))]
             exact ⟨rfl, hS, onlyX.rf⟩)
          | (have q : ¬ bR 18 μ := zB_eq0.mp h50
             have n1 : ¬ hHeld S 5 = 0 := fun z => (show ¬ bE 18 μ from zB_eq0.mp h31) (E1.mpr z)
             have n2 : ¬ hHeld S 0 = 0 := fun z => (show ¬ bE 13 μ from zB_eq0.mp h39) (E2.mpr z)
             rw [opSh_b (by omega) (by omega) n1 n2 (Or.inl (xsh1 hok (by omega) n1 (fun z => q (R1.mpr z))))]
             exact ⟨rfl, hS, onlyX.rf⟩)
          | (have q : bE 13 μ := zB_ne0.mp h39
             rw [opSh_a (by omega) (by omega) (Or.inr (E2.mp q))]
             exact ⟨rfl, hS, onlyX.rf⟩)
          | (have q : bE 18 μ := zB_ne0.mp h31
             rw [opSh_a (by omega) (by omega) (Or.inl (E1.mp q))]
             exact ⟨rfl, hS, onlyX.rf⟩)
      · refine zb X_shift_s53 rfl ?_
        refine zcallV X_shift_d60 k10_101 (by omega) (x_isRowOf_0 _ (by omega)) rfl rfl rfl (Nat.le_of_ble_eq_true rfl) ?_
        rintro _ μx ⟨rfl, hx⟩
        rw [hx]
        clear hx μx
        refine z_ne X_shift_d63 (tgt := 69) rfl (fun h63 => ?_) (fun h63 => ?_)
        · have f1 : hHeld S 5 = 2 := R1.mp (zB_ne0.mp h50)
          have f2 : hHeld S 0 = 2 := R2.mp (zB_ne0.mp h63).1
          obtain ⟨a1, a2, m, hm, em⟩ := xsh2 hS hok (show 5 < 6 by omega) f1
          obtain ⟨b1, b2, w, hw, ew⟩ := xsh2 hS hok (show 0 < 6 by omega) f2
          have hsrt : hSort S 5 = hSort S 0 := a1.symm.trans ((zB_ne0.mp h63).2.symm.trans b1)
          have P1 := bPn (i := i) (n := n) hm (a2.trans em)
          have P2 := bPn (i := j) (n := n) hw (b2.trans ew)
          refine zb X_shift_s69 rfl ?_
          refine zcallV X_shift_d74 k10_363 (by omega) (x_hasPlaces_5 _ _) rfl rfl rfl (Nat.le_of_ble_eq_true rfl) ?_
          rintro _ μx ⟨rfl, hx⟩
          rw [hx]
          clear hx μx
          refine z_eq X_shift_d77 (tgt := 92) rfl (fun h77 => ?_) (fun h77 => ?_)
          · refine zb X_shift_s92 rfl ?_
            refine z_ret X_shift_d94 rfl ?_
            first
              | (have f := fin_shift (s := 5) (p := 0) (a := x) (b := y) (N := N) hS (by omega) (by omega) (by omega)
                 rw [cN, cx, cy]
                 exact ⟨rfl, f.1, f.2⟩)
              | (have q : ¬ bP 13 j n μ := zB_eq0.mp h89
                 rw [opSh_c (by omega) (by omega) f1 f2 hsrt (fun z => q (P2.mpr (And.intro z.2.2.1 (And.intro z.1 (by rw [← ew]; exact z.2.2.2.2)))))]
                 exact ⟨rfl, hS, onlyX.rf⟩)
              | (have q : ¬ bP 18 i n μ := zB_eq0.mp h77
                 rw [opSh_c (by omega) (by omega) f1 f2 hsrt (fun z => q (P1.mpr (And.intro z.2.1 (And.intro z.1 (by rw [← em]; exact z.2.2.2.1)))))]
                 exact ⟨rfl, hS, onlyX.rf⟩)
              | (have q := zB_eq0.mp h63
                 have f1 : hHeld S 5 = 2 := R1.mp (zB_ne0.mp h50)
                 have n2 : ¬ hHeld S 0 = 0 := fun z => (show ¬ bE 13 μ from zB_eq0.mp h39) (E2.mpr z)
                 rw [opSh_b (by omega) (by omega) (by rw [f1]; decide) n2 (by
                   by_cases z : hHeld S 0 = 2
                   · refine Or.inr (Or.inr (fun y => q (And.intro (R2.mpr z) ?_)))
                     exact (show μ.1 13 2 = _ from (xsh2 hS hok (show 0 < 6 by omega) z).1).trans (y.symm.trans (show μ.1 18 2 = _ from (xsh2 hS hok (show 5 < 6 by omega) f1).1).symm)
                   · exact Or.inr (Or.inl (xsh1 hok (by omega) n2 z)))]
                 exact ⟨rfl, hS, onlyX.rf⟩)
              | (have q : ¬ bR 18 μ := zB_eq0.mp h50
                 have n1 : ¬ hHeld S 5 = 0 := fun z => (show ¬ bE 18 μ from zB_eq0.mp h31) (E1.mpr z)
                 have n2 : ¬ hHeld S 0 = 0 := fun z => (show ¬ bE 13 μ from zB_eq0.mp h39) (E2.mpr z)
                 rw [opSh_b (by omega) (by omega) n1 n2 (Or.inl (xsh1 hok (by omega) n1 (fun z => q (R1.mpr z))))]
                 exact ⟨rfl, hS, onlyX.rf⟩)
              | (have q : bE 13 μ := zB_ne0.mp h39
                 rw [opSh_a (by omega) (by omega) (Or.inr (E2.mp q))]
                 exact ⟨rfl, hS, onlyX.rf⟩)
              | (have q : bE 18 μ := zB_ne0.mp h31
                 rw [opSh_a (by omega) (by omega) (Or.inl (E1.mp q))]
                 exact ⟨rfl, hS, onlyX.rf⟩)
          · refine zb X_shift_s80 rfl ?_
            refine zcallV X_shift_d86 k10_363 (by omega) (x_hasPlaces_0 _ _) rfl rfl rfl (Nat.le_of_ble_eq_true rfl) ?_
            rintro _ μx ⟨rfl, hx⟩
            rw [hx]
            clear hx μx
            refine z_ne X_shift_d89 (tgt := 95) rfl (fun h89 => ?_) (fun h89 => ?_)
            · have g1 := P1.mp (zB_ne0.mp h77)
              have g2 := P2.mp (zB_ne0.mp h89)
              have hall : 0 ≤ n ∧ 0 ≤ i ∧ 0 ≤ j ∧ i ≤ hSize S 5 - n ∧ j ≤ hSize S 0 - n := by
                exact ⟨g1.2.1, g1.1, g2.1, by rw [em]; exact g1.2.2, by rw [ew]; exact g2.2.2⟩
              rw [opSh_d (by omega) (by omega) f1 f2 hsrt hall]
              clear hall
              obtain ⟨N, hN, rfl⟩ := nI_of (Int32.not_lt.mpr g1.2.1)
              obtain ⟨x, hx, rfl⟩ := nI_of (Int32.not_lt.mpr g1.1)
              obtain ⟨y, hy, rfl⟩ := nI_of (Int32.not_lt.mpr g2.1)
              have k1 := (le_sub hx hm hN).mp g1.2.2
              have k2 := (le_sub hy hw hN).mp g2.2.2
              have cN : (nI N).toNatClampNeg = N := nI_clamp hN
              have cx : (nI x).toNatClampNeg = x := nI_clamp hx
              have cy : (nI y).toNatClampNeg = y := nI_clamp hy
              refine zb X_shift_s95 rfl ?_
              refine zcpL X_shift_d110 k10_366 (by omega) (Nat.le_of_ble_eq_true rfl) rfl rfl (nI_pos (by omega)) (nI_pos (by omega)) (nI_pos (by omega)) (by rw [cN, cx]; omega) (by rw [cN, cy]; omega) ?_
              refine zb X_shift_s113 rfl ?_
              refine z_ret X_shift_d115 rfl ?_
              first
                | (have f := fin_shift (s := 5) (p := 0) (a := x) (b := y) (N := N) hS (by omega) (by omega) (by omega)
                   rw [cN, cx, cy]
                   exact ⟨rfl, f.1, f.2⟩)
                | (have q : ¬ bP 13 j n μ := zB_eq0.mp h89
                   rw [opSh_c (by omega) (by omega) f1 f2 hsrt (fun z => q (P2.mpr (And.intro z.2.2.1 (And.intro z.1 (by rw [← ew]; exact z.2.2.2.2)))))]
                   exact ⟨rfl, hS, onlyX.rf⟩)
                | (have q : ¬ bP 18 i n μ := zB_eq0.mp h77
                   rw [opSh_c (by omega) (by omega) f1 f2 hsrt (fun z => q (P1.mpr (And.intro z.2.1 (And.intro z.1 (by rw [← em]; exact z.2.2.2.1)))))]
                   exact ⟨rfl, hS, onlyX.rf⟩)
                | (have q := zB_eq0.mp h63
                   have f1 : hHeld S 5 = 2 := R1.mp (zB_ne0.mp h50)
                   have n2 : ¬ hHeld S 0 = 0 := fun z => (show ¬ bE 13 μ from zB_eq0.mp h39) (E2.mpr z)
                   rw [opSh_b (by omega) (by omega) (by rw [f1]; decide) n2 (by
                     by_cases z : hHeld S 0 = 2
                     · refine Or.inr (Or.inr (fun y => q (And.intro (R2.mpr z) ?_)))
                       exact (show μ.1 13 2 = _ from (xsh2 hS hok (show 0 < 6 by omega) z).1).trans (y.symm.trans (show μ.1 18 2 = _ from (xsh2 hS hok (show 5 < 6 by omega) f1).1).symm)
                     · exact Or.inr (Or.inl (xsh1 hok (by omega) n2 z)))]
                   exact ⟨rfl, hS, onlyX.rf⟩)
                | (have q : ¬ bR 18 μ := zB_eq0.mp h50
                   have n1 : ¬ hHeld S 5 = 0 := fun z => (show ¬ bE 18 μ from zB_eq0.mp h31) (E1.mpr z)
                   have n2 : ¬ hHeld S 0 = 0 := fun z => (show ¬ bE 13 μ from zB_eq0.mp h39) (E2.mpr z)
                   rw [opSh_b (by omega) (by omega) n1 n2 (Or.inl (xsh1 hok (by omega) n1 (fun z => q (R1.mpr z))))]
                   exact ⟨rfl, hS, onlyX.rf⟩)
                | (have q : bE 13 μ := zB_ne0.mp h39
                   rw [opSh_a (by omega) (by omega) (Or.inr (E2.mp q))]
                   exact ⟨rfl, hS, onlyX.rf⟩)
                | (have q : bE 18 μ := zB_ne0.mp h31
                   rw [opSh_a (by omega) (by omega) (Or.inl (E1.mp q))]
                   exact ⟨rfl, hS, onlyX.rf⟩)
            · refine zb X_shift_s92 rfl ?_
              refine z_ret X_shift_d94 rfl ?_
              first
                | (have f := fin_shift (s := 5) (p := 0) (a := x) (b := y) (N := N) hS (by omega) (by omega) (by omega)
                   rw [cN, cx, cy]
                   exact ⟨rfl, f.1, f.2⟩)
                | (have q : ¬ bP 13 j n μ := zB_eq0.mp h89
                   rw [opSh_c (by omega) (by omega) f1 f2 hsrt (fun z => q (P2.mpr (And.intro z.2.2.1 (And.intro z.1 (by rw [← ew]; exact z.2.2.2.2)))))]
                   exact ⟨rfl, hS, onlyX.rf⟩)
                | (have q : ¬ bP 18 i n μ := zB_eq0.mp h77
                   rw [opSh_c (by omega) (by omega) f1 f2 hsrt (fun z => q (P1.mpr (And.intro z.2.1 (And.intro z.1 (by rw [← em]; exact z.2.2.2.1)))))]
                   exact ⟨rfl, hS, onlyX.rf⟩)
                | (have q := zB_eq0.mp h63
                   have f1 : hHeld S 5 = 2 := R1.mp (zB_ne0.mp h50)
                   have n2 : ¬ hHeld S 0 = 0 := fun z => (show ¬ bE 13 μ from zB_eq0.mp h39) (E2.mpr z)
                   rw [opSh_b (by omega) (by omega) (by rw [f1]; decide) n2 (by
                     by_cases z : hHeld S 0 = 2
                     · refine Or.inr (Or.inr (fun y => q (And.intro (R2.mpr z) ?_)))
                       exact (show μ.1 13 2 = _ from (xsh2 hS hok (show 0 < 6 by omega) z).1).trans (y.symm.trans (show μ.1 18 2 = _ from (xsh2 hS hok (show 5 < 6 by omega) f1).1).symm)
                     · exact Or.inr (Or.inl (xsh1 hok (by omega) n2 z)))]
                   exact ⟨rfl, hS, onlyX.rf⟩)
                | (have q : ¬ bR 18 μ := zB_eq0.mp h50
                   have n1 : ¬ hHeld S 5 = 0 := fun z => (show ¬ bE 18 μ from zB_eq0.mp h31) (E1.mpr z)
                   have n2 : ¬ hHeld S 0 = 0 := fun z => (show ¬ bE 13 μ from zB_eq0.mp h39) (E2.mpr z)
                   rw [opSh_b (by omega) (by omega) n1 n2 (Or.inl (xsh1 hok (by omega) n1 (fun z => q (R1.mpr z))))]
                   exact ⟨rfl, hS, onlyX.rf⟩)
                | (have q : bE 13 μ := zB_ne0.mp h39
                   rw [opSh_a (by omega) (by omega) (Or.inr (E2.mp q))]
                   exact ⟨rfl, hS, onlyX.rf⟩)
                | (have q : bE 18 μ := zB_ne0.mp h31
                   rw [opSh_a (by omega) (by omega) (Or.inl (E1.mp q))]
                   exact ⟨rfl, hS, onlyX.rf⟩)
        · refine zb X_shift_s66 rfl ?_
          refine z_ret X_shift_d68 rfl ?_
          first
            | (have f := fin_shift (s := 5) (p := 0) (a := x) (b := y) (N := N) hS (by omega) (by omega) (by omega)
               rw [cN, cx, cy]
               exact ⟨rfl, f.1, f.2⟩)
            | (have q : ¬ bP 13 j n μ := zB_eq0.mp h89
               rw [opSh_c (by omega) (by omega) f1 f2 hsrt (fun z => q (P2.mpr (And.intro z.2.2.1 (And.intro z.1 (by rw [← ew]; exact z.2.2.2.2)))))]
               exact ⟨rfl, hS, onlyX.rf⟩)
            | (have q : ¬ bP 18 i n μ := zB_eq0.mp h77
               rw [opSh_c (by omega) (by omega) f1 f2 hsrt (fun z => q (P1.mpr (And.intro z.2.1 (And.intro z.1 (by rw [← em]; exact z.2.2.2.1)))))]
               exact ⟨rfl, hS, onlyX.rf⟩)
            | (have q := zB_eq0.mp h63
               have f1 : hHeld S 5 = 2 := R1.mp (zB_ne0.mp h50)
               have n2 : ¬ hHeld S 0 = 0 := fun z => (show ¬ bE 13 μ from zB_eq0.mp h39) (E2.mpr z)
               rw [opSh_b (by omega) (by omega) (by rw [f1]; decide) n2 (by
                 by_cases z : hHeld S 0 = 2
                 · refine Or.inr (Or.inr (fun y => q (And.intro (R2.mpr z) ?_)))
                   exact (show μ.1 13 2 = _ from (xsh2 hS hok (show 0 < 6 by omega) z).1).trans (y.symm.trans (show μ.1 18 2 = _ from (xsh2 hS hok (show 5 < 6 by omega) f1).1).symm)
                 · exact Or.inr (Or.inl (xsh1 hok (by omega) n2 z)))]
               exact ⟨rfl, hS, onlyX.rf⟩)
            | (have q : ¬ bR 18 μ := zB_eq0.mp h50
               have n1 : ¬ hHeld S 5 = 0 := fun z => (show ¬ bE 18 μ from zB_eq0.mp h31) (E1.mpr z)
               have n2 : ¬ hHeld S 0 = 0 := fun z => (show ¬ bE 13 μ from zB_eq0.mp h39) (E2.mpr z)
               rw [opSh_b (by omega) (by omega) n1 n2 (Or.inl (xsh1 hok (by omega) n1 (fun z => q (R1.mpr z))))]
               exact ⟨rfl, hS, onlyX.rf⟩)
            | (have q : bE 13 μ := zB_ne0.mp h39
               rw [opSh_a (by omega) (by omega) (Or.inr (E2.mp q))]
               exact ⟨rfl, hS, onlyX.rf⟩)
            | (have q : bE 18 μ := zB_ne0.mp h31
               rw [opSh_a (by omega) (by omega) (Or.inl (E1.mp q))]
               exact ⟨rfl, hS, onlyX.rf⟩)
    · refine zb X_shift_s42 rfl ?_
      refine z_ret X_shift_d44 rfl ?_
      first
        | (have f := fin_shift (s := 5) (p := 0) (a := x) (b := y) (N := N) hS (by omega) (by omega) (by omega)
           rw [cN, cx, cy]
           exact ⟨rfl, f.1, f.2⟩)
        | (have q : ¬ bP 13 j n μ := zB_eq0.mp h89
           rw [opSh_c (by omega) (by omega) f1 f2 hsrt (fun z => q (P2.mpr (And.intro z.2.2.1 (And.intro z.1 (by rw [← ew]; exact z.2.2.2.2)))))]
           exact ⟨rfl, hS, onlyX.rf⟩)
        | (have q : ¬ bP 18 i n μ := zB_eq0.mp h77
           rw [opSh_c (by omega) (by omega) f1 f2 hsrt (fun z => q (P1.mpr (And.intro z.2.1 (And.intro z.1 (by rw [← em]; exact z.2.2.2.1)))))]
           exact ⟨rfl, hS, onlyX.rf⟩)
        | (have q := zB_eq0.mp h63
           have f1 : hHeld S 5 = 2 := R1.mp (zB_ne0.mp h50)
           have n2 : ¬ hHeld S 0 = 0 := fun z => (show ¬ bE 13 μ from zB_eq0.mp h39) (E2.mpr z)
           rw [opSh_b (by omega) (by omega) (by rw [f1]; decide) n2 (by
             by_cases z : hHeld S 0 = 2
             · refine Or.inr (Or.inr (fun y => q (And.intro (R2.mpr z) ?_)))
               exact (show μ.1 13 2 = _ from (xsh2 hS hok (show 0 < 6 by omega) z).1).trans (y.symm.trans (show μ.1 18 2 = _ from (xsh2 hS hok (show 5 < 6 by omega) f1).1).symm)
             · exact Or.inr (Or.inl (xsh1 hok (by omega) n2 z)))]
           exact ⟨rfl, hS, onlyX.rf⟩)
        | (have q : ¬ bR 18 μ := zB_eq0.mp h50
           have n1 : ¬ hHeld S 5 = 0 := fun z => (show ¬ bE 18 μ from zB_eq0.mp h31) (E1.mpr z)
           have n2 : ¬ hHeld S 0 = 0 := fun z => (show ¬ bE 13 μ from zB_eq0.mp h39) (E2.mpr z)
           rw [opSh_b (by omega) (by omega) n1 n2 (Or.inl (xsh1 hok (by omega) n1 (fun z => q (R1.mpr z))))]
           exact ⟨rfl, hS, onlyX.rf⟩)
        | (have q : bE 13 μ := zB_ne0.mp h39
           rw [opSh_a (by omega) (by omega) (Or.inr (E2.mp q))]
           exact ⟨rfl, hS, onlyX.rf⟩)
        | (have q : bE 18 μ := zB_ne0.mp h31
           rw [opSh_a (by omega) (by omega) (Or.inl (E1.mp q))]
           exact ⟨rfl, hS, onlyX.rf⟩)

set_option maxRecDepth 100000 in
set_option maxHeartbeats 4000000 in
theorem xs_shift_5_1 {g : zG} {d : Nat} {S : zS} {μ : zMem} {i j n : Int32} (hd : 2 ≤ d) (hS : xS S μ) (hok : okH S) : zM g d X_shift [.ref 1, .int (nI 5), .int i, .int (nI 1), .int j, .int n] μ (pO xS onlyX (opShift S (nI 5) i (nI 1) j n) μ) := by
  refine zM_of (by decide +kernel) rfl rfl (Nat.le_of_ble_eq_true rfl) rfl ?_
  obtain ⟨ho, h2, hT, hC, hD, hI, hA, hH⟩ := hS
  have hS : xS S μ := ⟨ho, h2, hT, hC, hD, hI, hA, hH⟩
  have hb := ho.b
  have hv := ho.v
  have hB6 := ho.b6
  have hV12 := ho.v12
  have hz : zq sX μ μ := zq.rf
  have E1 := xshE (s := 5) hS hok (by omega)
  have E2 := xshE (s := 1) hS hok (by omega)
  have R1 := xshR (s := 5) hS hok (by omega)
  have R2 := xshR (s := 1) hS hok (by omega)
  refine zb X_shift_s0 rfl ?_
  refine zcallV X_shift_d2 k10_93 (by omega) (x_shelf_5 (by omega)) rfl rfl rfl (Nat.le_of_ble_eq_true rfl) ?_
  rintro _ μx ⟨rfl, hx⟩
  rw [hx]
  clear hx μx
  refine zb X_shift_s5 rfl ?_
  refine zcallV X_shift_d9 k10_93 (by omega) (x_shelf_1 (by omega)) rfl rfl rfl (Nat.le_of_ble_eq_true rfl) ?_
  rintro _ μx ⟨rfl, hx⟩
  rw [hx]
  clear hx μx
  refine zb X_shift_s12 rfl ?_
  refine z_null X_shift_d16 ?_
  refine zb X_shift_s19 rfl ?_
  refine z_nonnull X_shift_d21 (tgt := 26) rfl ?_
  refine zb X_shift_s26 rfl ?_
  refine zcallV X_shift_d28 k10_97 (by omega) (x_isEmpty_5) rfl rfl rfl (Nat.le_of_ble_eq_true rfl) ?_
  rintro _ μx ⟨rfl, hx⟩
  rw [hx]
  clear hx μx
  refine z_ne X_shift_d31 (tgt := 42) rfl (fun h31 => ?_) (fun h31 => ?_)
  · refine zb X_shift_s42 rfl ?_
    refine z_ret X_shift_d44 rfl ?_
    first
      | (have f := fin_shift (s := 5) (p := 1) (a := x) (b := y) (N := N) hS (by omega) (by omega) (by omega)
         rw [cN, cx, cy]
         exact ⟨rfl, f.1, f.2⟩)
      | (have q : ¬ bP 14 j n μ := zB_eq0.mp h89
         rw [opSh_c (by omega) (by omega) f1 f2 hsrt (fun z => q (P2.mpr (And.intro z.2.2.1 (And.intro z.1 (by rw [← ew]; exact z.2.2.2.2)))))]
         exact ⟨rfl, hS, onlyX.rf⟩)
      | (have q : ¬ bP 18 i n μ := zB_eq0.mp h77
         rw [opSh_c (by omega) (by omega) f1 f2 hsrt (fun z => q (P1.mpr (And.intro z.2.1 (And.intro z.1 (by rw [← em]; exact z.2.2.2.1)))))]
         exact ⟨rfl, hS, onlyX.rf⟩)
      | (have q := zB_eq0.mp h63
         have f1 : hHeld S 5 = 2 := R1.mp (zB_ne0.mp h50)
         have n2 : ¬ hHeld S 1 = 0 := fun z => (show ¬ bE 14 μ from zB_eq0.mp h39) (E2.mpr z)
         rw [opSh_b (by omega) (by omega) (by rw [f1]; decide) n2 (by
           by_cases z : hHeld S 1 = 2
           · refine Or.inr (Or.inr (fun y => q (And.intro (R2.mpr z) ?_)))
             exact (show μ.1 14 2 = _ from (xsh2 hS hok (show 1 < 6 by omega) z).1).trans (y.symm.trans (show μ.1 18 2 = _ from (xsh2 hS hok (show 5 < 6 by omega) f1).1).symm)
           · exact Or.inr (Or.inl (xsh1 hok (by omega) n2 z)))]
         exact ⟨rfl, hS, onlyX.rf⟩)
      | (have q : ¬ bR 18 μ := zB_eq0.mp h50
         have n1 : ¬ hHeld S 5 = 0 := fun z => (show ¬ bE 18 μ from zB_eq0.mp h31) (E1.mpr z)
         have n2 : ¬ hHeld S 1 = 0 := fun z => (show ¬ bE 14 μ from zB_eq0.mp h39) (E2.mpr z)
         rw [opSh_b (by omega) (by omega) n1 n2 (Or.inl (xsh1 hok (by omega) n1 (fun z => q (R1.mpr z))))]
         exact ⟨rfl, hS, onlyX.rf⟩)
      | (have q : bE 14 μ := zB_ne0.mp h39
         rw [opSh_a (by omega) (by omega) (Or.inr (E2.mp q))]
         exact ⟨rfl, hS, onlyX.rf⟩)
      | (have q : bE 18 μ := zB_ne0.mp h31
         rw [opSh_a (by omega) (by omega) (Or.inl (E1.mp q))]
         exact ⟨rfl, hS, onlyX.rf⟩)
  · refine zb X_shift_s34 rfl ?_
    refine zcallV X_shift_d36 k10_97 (by omega) (x_isEmpty_1) rfl rfl rfl (Nat.le_of_ble_eq_true rfl) ?_
    rintro _ μx ⟨rfl, hx⟩
    rw [hx]
    clear hx μx
    refine z_eq X_shift_d39 (tgt := 45) rfl (fun h39 => ?_) (fun h39 => ?_)
    · refine zb X_shift_s45 rfl ?_
      refine zcallV X_shift_d47 k10_357 (by omega) (x_isRow_5) rfl rfl rfl (Nat.le_of_ble_eq_true rfl) ?_
      rintro _ μx ⟨rfl, hx⟩
      rw [hx]
      clear hx μx
      refine z_eq X_shift_d50 (tgt := 66) rfl (fun h50 => ?_) (fun h50 => ?_)
      · refine zb X_shift_s66 rfl ?_
        refine z_ret X_shift_d68 rfl ?_
        first
          | (have f := fin_shift (s := 5) (p := 1) (a := x) (b := y) (N := N) hS (by omega) (by omega) (by omega)
             rw [cN, cx, cy]
             exact ⟨rfl, f.1, f.2⟩)
          | (have q : ¬ bP 14 j n μ := zB_eq0.mp h89
             rw [opSh_c (by omega) (by omega) f1 f2 hsrt (fun z => q (P2.mpr (And.intro z.2.2.1 (And.intro z.1 (by rw [← ew]; exact z.2.2.2.2)))))]
             exact ⟨rfl, hS, onlyX.rf⟩)
          | (have q : ¬ bP 18 i n μ := zB_eq0.mp h77
             rw [opSh_c (by omega) (by omega) f1 f2 hsrt (fun z => q (P1.mpr (And.intro z.2.1 (And.intro z.1 (by rw [← em]; exact z.2.2.2.1)))))]
             exact ⟨rfl, hS, onlyX.rf⟩)
          | (have q := zB_eq0.mp h63
             have f1 : hHeld S 5 = 2 := R1.mp (zB_ne0.mp h50)
             have n2 : ¬ hHeld S 1 = 0 := fun z => (show ¬ bE 14 μ from zB_eq0.mp h39) (E2.mpr z)
             rw [opSh_b (by omega) (by omega) (by rw [f1]; decide) n2 (by
               by_cases z : hHeld S 1 = 2
               · refine Or.inr (Or.inr (fun y => q (And.intro (R2.mpr z) ?_)))
                 exact (show μ.1 14 2 = _ from (xsh2 hS hok (show 1 < 6 by omega) z).1).trans (y.symm.trans (show μ.1 18 2 = _ from (xsh2 hS hok (show 5 < 6 by omega) f1).1).symm)
               · exact Or.inr (Or.inl (xsh1 hok (by omega) n2 z)))]
             exact ⟨rfl, hS, onlyX.rf⟩)
          | (have q : ¬ bR 18 μ := zB_eq0.mp h50
             have n1 : ¬ hHeld S 5 = 0 := fun z => (show ¬ bE 18 μ from zB_eq0.mp h31) (E1.mpr z)
             have n2 : ¬ hHeld S 1 = 0 := fun z => (show ¬ bE 14 μ from zB_eq0.mp h39) (E2.mpr z)
             rw [opSh_b (by omega) (by omega) n1 n2 (Or.inl (xsh1 hok (by omega) n1 (fun z => q (R1.mpr z))))]
             exact ⟨rfl, hS, onlyX.rf⟩)
          | (have q : bE 14 μ := zB_ne0.mp h39
             rw [opSh_a (by omega) (by omega) (Or.inr (E2.mp q))]
             exact ⟨rfl, hS, onlyX.rf⟩)
          | (have q : bE 18 μ := zB_ne0.mp h31
             rw [opSh_a (by omega) (by omega) (Or.inl (E1.mp q))]
             exact ⟨rfl, hS, onlyX.rf⟩)
      · refine zb X_shift_s53 rfl ?_
        refine zcallV X_shift_d60 k10_101 (by omega) (x_isRowOf_1 _ (by omega)) rfl rfl rfl (Nat.le_of_ble_eq_true rfl) ?_
        rintro _ μx ⟨rfl, hx⟩
        rw [hx]
        clear hx μx
        refine z_ne X_shift_d63 (tgt := 69) rfl (fun h63 => ?_) (fun h63 => ?_)
        · have f1 : hHeld S 5 = 2 := R1.mp (zB_ne0.mp h50)
          have f2 : hHeld S 1 = 2 := R2.mp (zB_ne0.mp h63).1
          obtain ⟨a1, a2, m, hm, em⟩ := xsh2 hS hok (show 5 < 6 by omega) f1
          obtain ⟨b1, b2, w, hw, ew⟩ := xsh2 hS hok (show 1 < 6 by omega) f2
          have hsrt : hSort S 5 = hSort S 1 := a1.symm.trans ((zB_ne0.mp h63).2.symm.trans b1)
          have P1 := bPn (i := i) (n := n) hm (a2.trans em)
          have P2 := bPn (i := j) (n := n) hw (b2.trans ew)
          refine zb X_shift_s69 rfl ?_
          refine zcallV X_shift_d74 k10_363 (by omega) (x_hasPlaces_5 _ _) rfl rfl rfl (Nat.le_of_ble_eq_true rfl) ?_
          rintro _ μx ⟨rfl, hx⟩
          rw [hx]
          clear hx μx
          refine z_eq X_shift_d77 (tgt := 92) rfl (fun h77 => ?_) (fun h77 => ?_)
          · refine zb X_shift_s92 rfl ?_
            refine z_ret X_shift_d94 rfl ?_
            first
              | (have f := fin_shift (s := 5) (p := 1) (a := x) (b := y) (N := N) hS (by omega) (by omega) (by omega)
                 rw [cN, cx, cy]
                 exact ⟨rfl, f.1, f.2⟩)
              | (have q : ¬ bP 14 j n μ := zB_eq0.mp h89
                 rw [opSh_c (by omega) (by omega) f1 f2 hsrt (fun z => q (P2.mpr (And.intro z.2.2.1 (And.intro z.1 (by rw [← ew]; exact z.2.2.2.2)))))]
                 exact ⟨rfl, hS, onlyX.rf⟩)
              | (have q : ¬ bP 18 i n μ := zB_eq0.mp h77
                 rw [opSh_c (by omega) (by omega) f1 f2 hsrt (fun z => q (P1.mpr (And.intro z.2.1 (And.intro z.1 (by rw [← em]; exact z.2.2.2.1)))))]
                 exact ⟨rfl, hS, onlyX.rf⟩)
              | (have q := zB_eq0.mp h63
                 have f1 : hHeld S 5 = 2 := R1.mp (zB_ne0.mp h50)
                 have n2 : ¬ hHeld S 1 = 0 := fun z => (show ¬ bE 14 μ from zB_eq0.mp h39) (E2.mpr z)
                 rw [opSh_b (by omega) (by omega) (by rw [f1]; decide) n2 (by
                   by_cases z : hHeld S 1 = 2
                   · refine Or.inr (Or.inr (fun y => q (And.intro (R2.mpr z) ?_)))
                     exact (show μ.1 14 2 = _ from (xsh2 hS hok (show 1 < 6 by omega) z).1).trans (y.symm.trans (show μ.1 18 2 = _ from (xsh2 hS hok (show 5 < 6 by omega) f1).1).symm)
                   · exact Or.inr (Or.inl (xsh1 hok (by omega) n2 z)))]
                 exact ⟨rfl, hS, onlyX.rf⟩)
              | (have q : ¬ bR 18 μ := zB_eq0.mp h50
                 have n1 : ¬ hHeld S 5 = 0 := fun z => (show ¬ bE 18 μ from zB_eq0.mp h31) (E1.mpr z)
                 have n2 : ¬ hHeld S 1 = 0 := fun z => (show ¬ bE 14 μ from zB_eq0.mp h39) (E2.mpr z)
                 rw [opSh_b (by omega) (by omega) n1 n2 (Or.inl (xsh1 hok (by omega) n1 (fun z => q (R1.mpr z))))]
                 exact ⟨rfl, hS, onlyX.rf⟩)
              | (have q : bE 14 μ := zB_ne0.mp h39
                 rw [opSh_a (by omega) (by omega) (Or.inr (E2.mp q))]
                 exact ⟨rfl, hS, onlyX.rf⟩)
              | (have q : bE 18 μ := zB_ne0.mp h31
                 rw [opSh_a (by omega) (by omega) (Or.inl (E1.mp q))]
                 exact ⟨rfl, hS, onlyX.rf⟩)
          · refine zb X_shift_s80 rfl ?_
            refine zcallV X_shift_d86 k10_363 (by omega) (x_hasPlaces_1 _ _) rfl rfl rfl (Nat.le_of_ble_eq_true rfl) ?_
            rintro _ μx ⟨rfl, hx⟩
            rw [hx]
            clear hx μx
            refine z_ne X_shift_d89 (tgt := 95) rfl (fun h89 => ?_) (fun h89 => ?_)
            · have g1 := P1.mp (zB_ne0.mp h77)
              have g2 := P2.mp (zB_ne0.mp h89)
              have hall : 0 ≤ n ∧ 0 ≤ i ∧ 0 ≤ j ∧ i ≤ hSize S 5 - n ∧ j ≤ hSize S 1 - n := by
                exact ⟨g1.2.1, g1.1, g2.1, by rw [em]; exact g1.2.2, by rw [ew]; exact g2.2.2⟩
              rw [opSh_d (by omega) (by omega) f1 f2 hsrt hall]
              clear hall
              obtain ⟨N, hN, rfl⟩ := nI_of (Int32.not_lt.mpr g1.2.1)
              obtain ⟨x, hx, rfl⟩ := nI_of (Int32.not_lt.mpr g1.1)
              obtain ⟨y, hy, rfl⟩ := nI_of (Int32.not_lt.mpr g2.1)
              have k1 := (le_sub hx hm hN).mp g1.2.2
              have k2 := (le_sub hy hw hN).mp g2.2.2
              have cN : (nI N).toNatClampNeg = N := nI_clamp hN
              have cx : (nI x).toNatClampNeg = x := nI_clamp hx
              have cy : (nI y).toNatClampNeg = y := nI_clamp hy
              refine zb X_shift_s95 rfl ?_
              refine zcpL X_shift_d110 k10_366 (by omega) (Nat.le_of_ble_eq_true rfl) rfl rfl (nI_pos (by omega)) (nI_pos (by omega)) (nI_pos (by omega)) (by rw [cN, cx]; omega) (by rw [cN, cy]; omega) ?_
              refine zb X_shift_s113 rfl ?_
              refine z_ret X_shift_d115 rfl ?_
              first
                | (have f := fin_shift (s := 5) (p := 1) (a := x) (b := y) (N := N) hS (by omega) (by omega) (by omega)
                   rw [cN, cx, cy]
                   exact ⟨rfl, f.1, f.2⟩)
                | (have q : ¬ bP 14 j n μ := zB_eq0.mp h89
                   rw [opSh_c (by omega) (by omega) f1 f2 hsrt (fun z => q (P2.mpr (And.intro z.2.2.1 (And.intro z.1 (by rw [← ew]; exact z.2.2.2.2)))))]
                   exact ⟨rfl, hS, onlyX.rf⟩)
                | (have q : ¬ bP 18 i n μ := zB_eq0.mp h77
                   rw [opSh_c (by omega) (by omega) f1 f2 hsrt (fun z => q (P1.mpr (And.intro z.2.1 (And.intro z.1 (by rw [← em]; exact z.2.2.2.1)))))]
                   exact ⟨rfl, hS, onlyX.rf⟩)
                | (have q := zB_eq0.mp h63
                   have f1 : hHeld S 5 = 2 := R1.mp (zB_ne0.mp h50)
                   have n2 : ¬ hHeld S 1 = 0 := fun z => (show ¬ bE 14 μ from zB_eq0.mp h39) (E2.mpr z)
                   rw [opSh_b (by omega) (by omega) (by rw [f1]; decide) n2 (by
                     by_cases z : hHeld S 1 = 2
                     · refine Or.inr (Or.inr (fun y => q (And.intro (R2.mpr z) ?_)))
                       exact (show μ.1 14 2 = _ from (xsh2 hS hok (show 1 < 6 by omega) z).1).trans (y.symm.trans (show μ.1 18 2 = _ from (xsh2 hS hok (show 5 < 6 by omega) f1).1).symm)
                     · exact Or.inr (Or.inl (xsh1 hok (by omega) n2 z)))]
                   exact ⟨rfl, hS, onlyX.rf⟩)
                | (have q : ¬ bR 18 μ := zB_eq0.mp h50
                   have n1 : ¬ hHeld S 5 = 0 := fun z => (show ¬ bE 18 μ from zB_eq0.mp h31) (E1.mpr z)
                   have n2 : ¬ hHeld S 1 = 0 := fun z => (show ¬ bE 14 μ from zB_eq0.mp h39) (E2.mpr z)
                   rw [opSh_b (by omega) (by omega) n1 n2 (Or.inl (xsh1 hok (by omega) n1 (fun z => q (R1.mpr z))))]
                   exact ⟨rfl, hS, onlyX.rf⟩)
                | (have q : bE 14 μ := zB_ne0.mp h39
                   rw [opSh_a (by omega) (by omega) (Or.inr (E2.mp q))]
                   exact ⟨rfl, hS, onlyX.rf⟩)
                | (have q : bE 18 μ := zB_ne0.mp h31
                   rw [opSh_a (by omega) (by omega) (Or.inl (E1.mp q))]
                   exact ⟨rfl, hS, onlyX.rf⟩)
            · refine zb X_shift_s92 rfl ?_
              refine z_ret X_shift_d94 rfl ?_
              first
                | (have f := fin_shift (s := 5) (p := 1) (a := x) (b := y) (N := N) hS (by omega) (by omega) (by omega)
                   rw [cN, cx, cy]
                   exact ⟨rfl, f.1, f.2⟩)
                | (have q : ¬ bP 14 j n μ := zB_eq0.mp h89
                   rw [opSh_c (by omega) (by omega) f1 f2 hsrt (fun z => q (P2.mpr (And.intro z.2.2.1 (And.intro z.1 (by rw [← ew]; exact z.2.2.2.2)))))]
                   exact ⟨rfl, hS, onlyX.rf⟩)
                | (have q : ¬ bP 18 i n μ := zB_eq0.mp h77
                   rw [opSh_c (by omega) (by omega) f1 f2 hsrt (fun z => q (P1.mpr (And.intro z.2.1 (And.intro z.1 (by rw [← em]; exact z.2.2.2.1)))))]
                   exact ⟨rfl, hS, onlyX.rf⟩)
                | (have q := zB_eq0.mp h63
                   have f1 : hHeld S 5 = 2 := R1.mp (zB_ne0.mp h50)
                   have n2 : ¬ hHeld S 1 = 0 := fun z => (show ¬ bE 14 μ from zB_eq0.mp h39) (E2.mpr z)
                   rw [opSh_b (by omega) (by omega) (by rw [f1]; decide) n2 (by
                     by_cases z : hHeld S 1 = 2
                     · refine Or.inr (Or.inr (fun y => q (And.intro (R2.mpr z) ?_)))
                       exact (show μ.1 14 2 = _ from (xsh2 hS hok (show 1 < 6 by omega) z).1).trans (y.symm.trans (show μ.1 18 2 = _ from (xsh2 hS hok (show 5 < 6 by omega) f1).1).symm)
                     · exact Or.inr (Or.inl (xsh1 hok (by omega) n2 z)))]
                   exact ⟨rfl, hS, onlyX.rf⟩)
                | (have q : ¬ bR 18 μ := zB_eq0.mp h50
                   have n1 : ¬ hHeld S 5 = 0 := fun z => (show ¬ bE 18 μ from zB_eq0.mp h31) (E1.mpr z)
                   have n2 : ¬ hHeld S 1 = 0 := fun z => (show ¬ bE 14 μ from zB_eq0.mp h39) (E2.mpr z)
                   rw [opSh_b (by omega) (by omega) n1 n2 (Or.inl (xsh1 hok (by omega) n1 (fun z => q (R1.mpr z))))]
                   exact ⟨rfl, hS, onlyX.rf⟩)
                | (have q : bE 14 μ := zB_ne0.mp h39
                   rw [opSh_a (by omega) (by omega) (Or.inr (E2.mp q))]
                   exact ⟨rfl, hS, onlyX.rf⟩)
                | (have q : bE 18 μ := zB_ne0.mp h31
                   rw [opSh_a (by omega) (by omega) (Or.inl (E1.mp q))]
                   exact ⟨rfl, hS, onlyX.rf⟩)
        · refine zb X_shift_s66 rfl ?_
          refine z_ret X_shift_d68 rfl ?_
          first
            | (have f := fin_shift (s := 5) (p := 1) (a := x) (b := y) (N := N) hS (by omega) (by omega) (by omega)
               rw [cN, cx, cy]
               exact ⟨rfl, f.1, f.2⟩)
            | (have q : ¬ bP 14 j n μ := zB_eq0.mp h89
               rw [opSh_c (by omega) (by omega) f1 f2 hsrt (fun z => q (P2.mpr (And.intro z.2.2.1 (And.intro z.1 (by rw [← ew]; exact z.2.2.2.2)))))]
               exact ⟨rfl, hS, onlyX.rf⟩)
            | (have q : ¬ bP 18 i n μ := zB_eq0.mp h77
               rw [opSh_c (by omega) (by omega) f1 f2 hsrt (fun z => q (P1.mpr (And.intro z.2.1 (And.intro z.1 (by rw [← em]; exact z.2.2.2.1)))))]
               exact ⟨rfl, hS, onlyX.rf⟩)
            | (have q := zB_eq0.mp h63
               have f1 : hHeld S 5 = 2 := R1.mp (zB_ne0.mp h50)
               have n2 : ¬ hHeld S 1 = 0 := fun z => (show ¬ bE 14 μ from zB_eq0.mp h39) (E2.mpr z)
               rw [opSh_b (by omega) (by omega) (by rw [f1]; decide) n2 (by
                 by_cases z : hHeld S 1 = 2
                 · refine Or.inr (Or.inr (fun y => q (And.intro (R2.mpr z) ?_)))
                   exact (show μ.1 14 2 = _ from (xsh2 hS hok (show 1 < 6 by omega) z).1).trans (y.symm.trans (show μ.1 18 2 = _ from (xsh2 hS hok (show 5 < 6 by omega) f1).1).symm)
                 · exact Or.inr (Or.inl (xsh1 hok (by omega) n2 z)))]
               exact ⟨rfl, hS, onlyX.rf⟩)
            | (have q : ¬ bR 18 μ := zB_eq0.mp h50
               have n1 : ¬ hHeld S 5 = 0 := fun z => (show ¬ bE 18 μ from zB_eq0.mp h31) (E1.mpr z)
               have n2 : ¬ hHeld S 1 = 0 := fun z => (show ¬ bE 14 μ from zB_eq0.mp h39) (E2.mpr z)
               rw [opSh_b (by omega) (by omega) n1 n2 (Or.inl (xsh1 hok (by omega) n1 (fun z => q (R1.mpr z))))]
               exact ⟨rfl, hS, onlyX.rf⟩)
            | (have q : bE 14 μ := zB_ne0.mp h39
               rw [opSh_a (by omega) (by omega) (Or.inr (E2.mp q))]
               exact ⟨rfl, hS, onlyX.rf⟩)
            | (have q : bE 18 μ := zB_ne0.mp h31
               rw [opSh_a (by omega) (by omega) (Or.inl (E1.mp q))]
               exact ⟨rfl, hS, onlyX.rf⟩)
    · refine zb X_shift_s42 rfl ?_
      refine z_ret X_shift_d44 rfl ?_
      first
        | (have f := fin_shift (s := 5) (p := 1) (a := x) (b := y) (N := N) hS (by omega) (by omega) (by omega)
           rw [cN, cx, cy]
           exact ⟨rfl, f.1, f.2⟩)
        | (have q : ¬ bP 14 j n μ := zB_eq0.mp h89
           rw [opSh_c (by omega) (by omega) f1 f2 hsrt (fun z => q (P2.mpr (And.intro z.2.2.1 (And.intro z.1 (by rw [← ew]; exact z.2.2.2.2)))))]
           exact ⟨rfl, hS, onlyX.rf⟩)
        | (have q : ¬ bP 18 i n μ := zB_eq0.mp h77
           rw [opSh_c (by omega) (by omega) f1 f2 hsrt (fun z => q (P1.mpr (And.intro z.2.1 (And.intro z.1 (by rw [← em]; exact z.2.2.2.1)))))]
           exact ⟨rfl, hS, onlyX.rf⟩)
        | (have q := zB_eq0.mp h63
           have f1 : hHeld S 5 = 2 := R1.mp (zB_ne0.mp h50)
           have n2 : ¬ hHeld S 1 = 0 := fun z => (show ¬ bE 14 μ from zB_eq0.mp h39) (E2.mpr z)
           rw [opSh_b (by omega) (by omega) (by rw [f1]; decide) n2 (by
             by_cases z : hHeld S 1 = 2
             · refine Or.inr (Or.inr (fun y => q (And.intro (R2.mpr z) ?_)))
               exact (show μ.1 14 2 = _ from (xsh2 hS hok (show 1 < 6 by omega) z).1).trans (y.symm.trans (show μ.1 18 2 = _ from (xsh2 hS hok (show 5 < 6 by omega) f1).1).symm)
             · exact Or.inr (Or.inl (xsh1 hok (by omega) n2 z)))]
           exact ⟨rfl, hS, onlyX.rf⟩)
        | (have q : ¬ bR 18 μ := zB_eq0.mp h50
           have n1 : ¬ hHeld S 5 = 0 := fun z => (show ¬ bE 18 μ from zB_eq0.mp h31) (E1.mpr z)
           have n2 : ¬ hHeld S 1 = 0 := fun z => (show ¬ bE 14 μ from zB_eq0.mp h39) (E2.mpr z)
           rw [opSh_b (by omega) (by omega) n1 n2 (Or.inl (xsh1 hok (by omega) n1 (fun z => q (R1.mpr z))))]
           exact ⟨rfl, hS, onlyX.rf⟩)
        | (have q : bE 14 μ := zB_ne0.mp h39
           rw [opSh_a (by omega) (by omega) (Or.inr (E2.mp q))]
           exact ⟨rfl, hS, onlyX.rf⟩)
        | (have q : bE 18 μ := zB_ne0.mp h31
           rw [opSh_a (by omega) (by omega) (Or.inl (E1.mp q))]
           exact ⟨rfl, hS, onlyX.rf⟩)

set_option maxRecDepth 100000 in
set_option maxHeartbeats 4000000 in
theorem xs_shift_5_2 {g : zG} {d : Nat} {S : zS} {μ : zMem} {i j n : Int32} (hd : 2 ≤ d) (hS : xS S μ) (hok : okH S) : zM g d X_shift [.ref 1, .int (nI 5), .int i, .int (nI 2), .int j, .int n] μ (pO xS onlyX (opShift S (nI 5) i (nI 2) j n) μ) := by
  refine zM_of (by decide +kernel) rfl rfl (Nat.le_of_ble_eq_true rfl) rfl ?_
  obtain ⟨ho, h2, hT, hC, hD, hI, hA, hH⟩ := hS
  have hS : xS S μ := ⟨ho, h2, hT, hC, hD, hI, hA, hH⟩
  have hb := ho.b
  have hv := ho.v
  have hB6 := ho.b6
  have hV12 := ho.v12
  have hz : zq sX μ μ := zq.rf
  have E1 := xshE (s := 5) hS hok (by omega)
  have E2 := xshE (s := 2) hS hok (by omega)
  have R1 := xshR (s := 5) hS hok (by omega)
  have R2 := xshR (s := 2) hS hok (by omega)
  refine zb X_shift_s0 rfl ?_
  refine zcallV X_shift_d2 k10_93 (by omega) (x_shelf_5 (by omega)) rfl rfl rfl (Nat.le_of_ble_eq_true rfl) ?_
  rintro _ μx ⟨rfl, hx⟩
  rw [hx]
  clear hx μx
  refine zb X_shift_s5 rfl ?_
  refine zcallV X_shift_d9 k10_93 (by omega) (x_shelf_2 (by omega)) rfl rfl rfl (Nat.le_of_ble_eq_true rfl) ?_
  rintro _ μx ⟨rfl, hx⟩
  rw [hx]
  clear hx μx
  refine zb X_shift_s12 rfl ?_
  refine z_null X_shift_d16 ?_
  refine zb X_shift_s19 rfl ?_
  refine z_nonnull X_shift_d21 (tgt := 26) rfl ?_
  refine zb X_shift_s26 rfl ?_
  refine zcallV X_shift_d28 k10_97 (by omega) (x_isEmpty_5) rfl rfl rfl (Nat.le_of_ble_eq_true rfl) ?_
  rintro _ μx ⟨rfl, hx⟩
  rw [hx]
  clear hx μx
  refine z_ne X_shift_d31 (tgt := 42) rfl (fun h31 => ?_) (fun h31 => ?_)
  · refine zb X_shift_s42 rfl ?_
    refine z_ret X_shift_d44 rfl ?_
    first
      | (have f := fin_shift (s := 5) (p := 2) (a := x) (b := y) (N := N) hS (by omega) (by omega) (by omega)
         rw [cN, cx, cy]
         exact ⟨rfl, f.1, f.2⟩)
      | (have q : ¬ bP 15 j n μ := zB_eq0.mp h89
         rw [opSh_c (by omega) (by omega) f1 f2 hsrt (fun z => q (P2.mpr (And.intro z.2.2.1 (And.intro z.1 (by rw [← ew]; exact z.2.2.2.2)))))]
         exact ⟨rfl, hS, onlyX.rf⟩)
      | (have q : ¬ bP 18 i n μ := zB_eq0.mp h77
         rw [opSh_c (by omega) (by omega) f1 f2 hsrt (fun z => q (P1.mpr (And.intro z.2.1 (And.intro z.1 (by rw [← em]; exact z.2.2.2.1)))))]
         exact ⟨rfl, hS, onlyX.rf⟩)
      | (have q := zB_eq0.mp h63
         have f1 : hHeld S 5 = 2 := R1.mp (zB_ne0.mp h50)
         have n2 : ¬ hHeld S 2 = 0 := fun z => (show ¬ bE 15 μ from zB_eq0.mp h39) (E2.mpr z)
         rw [opSh_b (by omega) (by omega) (by rw [f1]; decide) n2 (by
           by_cases z : hHeld S 2 = 2
           · refine Or.inr (Or.inr (fun y => q (And.intro (R2.mpr z) ?_)))
             exact (show μ.1 15 2 = _ from (xsh2 hS hok (show 2 < 6 by omega) z).1).trans (y.symm.trans (show μ.1 18 2 = _ from (xsh2 hS hok (show 5 < 6 by omega) f1).1).symm)
           · exact Or.inr (Or.inl (xsh1 hok (by omega) n2 z)))]
         exact ⟨rfl, hS, onlyX.rf⟩)
      | (have q : ¬ bR 18 μ := zB_eq0.mp h50
         have n1 : ¬ hHeld S 5 = 0 := fun z => (show ¬ bE 18 μ from zB_eq0.mp h31) (E1.mpr z)
         have n2 : ¬ hHeld S 2 = 0 := fun z => (show ¬ bE 15 μ from zB_eq0.mp h39) (E2.mpr z)
         rw [opSh_b (by omega) (by omega) n1 n2 (Or.inl (xsh1 hok (by omega) n1 (fun z => q (R1.mpr z))))]
         exact ⟨rfl, hS, onlyX.rf⟩)
      | (have q : bE 15 μ := zB_ne0.mp h39
         rw [opSh_a (by omega) (by omega) (Or.inr (E2.mp q))]
         exact ⟨rfl, hS, onlyX.rf⟩)
      | (have q : bE 18 μ := zB_ne0.mp h31
         rw [opSh_a (by omega) (by omega) (Or.inl (E1.mp q))]
         exact ⟨rfl, hS, onlyX.rf⟩)
  · refine zb X_shift_s34 rfl ?_
    refine zcallV X_shift_d36 k10_97 (by omega) (x_isEmpty_2) rfl rfl rfl (Nat.le_of_ble_eq_true rfl) ?_
    rintro _ μx ⟨rfl, hx⟩
    rw [hx]
    clear hx μx
    refine z_eq X_shift_d39 (tgt := 45) rfl (fun h39 => ?_) (fun h39 => ?_)
    · refine zb X_shift_s45 rfl ?_
      refine zcallV X_shift_d47 k10_357 (by omega) (x_isRow_5) rfl rfl rfl (Nat.le_of_ble_eq_true rfl) ?_
      rintro _ μx ⟨rfl, hx⟩
      rw [hx]
      clear hx μx
      refine z_eq X_shift_d50 (tgt := 66) rfl (fun h50 => ?_) (fun h50 => ?_)
      · refine zb X_shift_s66 rfl ?_
        refine z_ret X_shift_d68 rfl ?_
        first
          | (have f := fin_shift (s := 5) (p := 2) (a := x) (b := y) (N := N) hS (by omega) (by omega) (by omega)
             rw [cN, cx, cy]
             exact ⟨rfl, f.1, f.2⟩)
          | (have q : ¬ bP 15 j n μ := zB_eq0.mp h89
             rw [opSh_c (by omega) (by omega) f1 f2 hsrt (fun z => q (P2.mpr (And.intro z.2.2.1 (And.intro z.1 (by rw [← ew]; exact z.2.2.2.2)))))]
             exact ⟨rfl, hS, onlyX.rf⟩)
          | (have q : ¬ bP 18 i n μ := zB_eq0.mp h77
             rw [opSh_c (by omega) (by omega) f1 f2 hsrt (fun z => q (P1.mpr (And.intro z.2.1 (And.intro z.1 (by rw [← em]; exact z.2.2.2.1)))))]
             exact ⟨rfl, hS, onlyX.rf⟩)
          | (have q := zB_eq0.mp h63
             have f1 : hHeld S 5 = 2 := R1.mp (zB_ne0.mp h50)
             have n2 : ¬ hHeld S 2 = 0 := fun z => (show ¬ bE 15 μ from zB_eq0.mp h39) (E2.mpr z)
             rw [opSh_b (by omega) (by omega) (by rw [f1]; decide) n2 (by
               by_cases z : hHeld S 2 = 2
               · refine Or.inr (Or.inr (fun y => q (And.intro (R2.mpr z) ?_)))
                 exact (show μ.1 15 2 = _ from (xsh2 hS hok (show 2 < 6 by omega) z).1).trans (y.symm.trans (show μ.1 18 2 = _ from (xsh2 hS hok (show 5 < 6 by omega) f1).1).symm)
               · exact Or.inr (Or.inl (xsh1 hok (by omega) n2 z)))]
             exact ⟨rfl, hS, onlyX.rf⟩)
          | (have q : ¬ bR 18 μ := zB_eq0.mp h50
             have n1 : ¬ hHeld S 5 = 0 := fun z => (show ¬ bE 18 μ from zB_eq0.mp h31) (E1.mpr z)
             have n2 : ¬ hHeld S 2 = 0 := fun z => (show ¬ bE 15 μ from zB_eq0.mp h39) (E2.mpr z)
             rw [opSh_b (by omega) (by omega) n1 n2 (Or.inl (xsh1 hok (by omega) n1 (fun z => q (R1.mpr z))))]
             exact ⟨rfl, hS, onlyX.rf⟩)
          | (have q : bE 15 μ := zB_ne0.mp h39
             rw [opSh_a (by omega) (by omega) (Or.inr (E2.mp q))]
             exact ⟨rfl, hS, onlyX.rf⟩)
          | (have q : bE 18 μ := zB_ne0.mp h31
             rw [opSh_a (by omega) (by omega) (Or.inl (E1.mp q))]
             exact ⟨rfl, hS, onlyX.rf⟩)
      · refine zb X_shift_s53 rfl ?_
        refine zcallV X_shift_d60 k10_101 (by omega) (x_isRowOf_2 _ (by omega)) rfl rfl rfl (Nat.le_of_ble_eq_true rfl) ?_
        rintro _ μx ⟨rfl, hx⟩
        rw [hx]
        clear hx μx
        refine z_ne X_shift_d63 (tgt := 69) rfl (fun h63 => ?_) (fun h63 => ?_)
        · have f1 : hHeld S 5 = 2 := R1.mp (zB_ne0.mp h50)
          have f2 : hHeld S 2 = 2 := R2.mp (zB_ne0.mp h63).1
          obtain ⟨a1, a2, m, hm, em⟩ := xsh2 hS hok (show 5 < 6 by omega) f1
          obtain ⟨b1, b2, w, hw, ew⟩ := xsh2 hS hok (show 2 < 6 by omega) f2
          have hsrt : hSort S 5 = hSort S 2 := a1.symm.trans ((zB_ne0.mp h63).2.symm.trans b1)
          have P1 := bPn (i := i) (n := n) hm (a2.trans em)
          have P2 := bPn (i := j) (n := n) hw (b2.trans ew)
          refine zb X_shift_s69 rfl ?_
          refine zcallV X_shift_d74 k10_363 (by omega) (x_hasPlaces_5 _ _) rfl rfl rfl (Nat.le_of_ble_eq_true rfl) ?_
          rintro _ μx ⟨rfl, hx⟩
          rw [hx]
          clear hx μx
          refine z_eq X_shift_d77 (tgt := 92) rfl (fun h77 => ?_) (fun h77 => ?_)
          · refine zb X_shift_s92 rfl ?_
            refine z_ret X_shift_d94 rfl ?_
            first
              | (have f := fin_shift (s := 5) (p := 2) (a := x) (b := y) (N := N) hS (by omega) (by omega) (by omega)
                 rw [cN, cx, cy]
                 exact ⟨rfl, f.1, f.2⟩)
              | (have q : ¬ bP 15 j n μ := zB_eq0.mp h89
                 rw [opSh_c (by omega) (by omega) f1 f2 hsrt (fun z => q (P2.mpr (And.intro z.2.2.1 (And.intro z.1 (by rw [← ew]; exact z.2.2.2.2)))))]
                 exact ⟨rfl, hS, onlyX.rf⟩)
              | (have q : ¬ bP 18 i n μ := zB_eq0.mp h77
                 rw [opSh_c (by omega) (by omega) f1 f2 hsrt (fun z => q (P1.mpr (And.intro z.2.1 (And.intro z.1 (by rw [← em]; exact z.2.2.2.1)))))]
                 exact ⟨rfl, hS, onlyX.rf⟩)
              | (have q := zB_eq0.mp h63
                 have f1 : hHeld S 5 = 2 := R1.mp (zB_ne0.mp h50)
                 have n2 : ¬ hHeld S 2 = 0 := fun z => (show ¬ bE 15 μ from zB_eq0.mp h39) (E2.mpr z)
                 rw [opSh_b (by omega) (by omega) (by rw [f1]; decide) n2 (by
                   by_cases z : hHeld S 2 = 2
                   · refine Or.inr (Or.inr (fun y => q (And.intro (R2.mpr z) ?_)))
                     exact (show μ.1 15 2 = _ from (xsh2 hS hok (show 2 < 6 by omega) z).1).trans (y.symm.trans (show μ.1 18 2 = _ from (xsh2 hS hok (show 5 < 6 by omega) f1).1).symm)
                   · exact Or.inr (Or.inl (xsh1 hok (by omega) n2 z)))]
                 exact ⟨rfl, hS, onlyX.rf⟩)
              | (have q : ¬ bR 18 μ := zB_eq0.mp h50
                 have n1 : ¬ hHeld S 5 = 0 := fun z => (show ¬ bE 18 μ from zB_eq0.mp h31) (E1.mpr z)
                 have n2 : ¬ hHeld S 2 = 0 := fun z => (show ¬ bE 15 μ from zB_eq0.mp h39) (E2.mpr z)
                 rw [opSh_b (by omega) (by omega) n1 n2 (Or.inl (xsh1 hok (by omega) n1 (fun z => q (R1.mpr z))))]
                 exact ⟨rfl, hS, onlyX.rf⟩)
              | (have q : bE 15 μ := zB_ne0.mp h39
                 rw [opSh_a (by omega) (by omega) (Or.inr (E2.mp q))]
                 exact ⟨rfl, hS, onlyX.rf⟩)
              | (have q : bE 18 μ := zB_ne0.mp h31
                 rw [opSh_a (by omega) (by omega) (Or.inl (E1.mp q))]
                 exact ⟨rfl, hS, onlyX.rf⟩)
          · refine zb X_shift_s80 rfl ?_
            refine zcallV X_shift_d86 k10_363 (by omega) (x_hasPlaces_2 _ _) rfl rfl rfl (Nat.le_of_ble_eq_true rfl) ?_
            rintro _ μx ⟨rfl, hx⟩
            rw [hx]
            clear hx μx
            refine z_ne X_shift_d89 (tgt := 95) rfl (fun h89 => ?_) (fun h89 => ?_)
            · have g1 := P1.mp (zB_ne0.mp h77)
              have g2 := P2.mp (zB_ne0.mp h89)
              have hall : 0 ≤ n ∧ 0 ≤ i ∧ 0 ≤ j ∧ i ≤ hSize S 5 - n ∧ j ≤ hSize S 2 - n := by
                exact ⟨g1.2.1, g1.1, g2.1, by rw [em]; exact g1.2.2, by rw [ew]; exact g2.2.2⟩
              rw [opSh_d (by omega) (by omega) f1 f2 hsrt hall]
              clear hall
              obtain ⟨N, hN, rfl⟩ := nI_of (Int32.not_lt.mpr g1.2.1)
              obtain ⟨x, hx, rfl⟩ := nI_of (Int32.not_lt.mpr g1.1)
              obtain ⟨y, hy, rfl⟩ := nI_of (Int32.not_lt.mpr g2.1)
              have k1 := (le_sub hx hm hN).mp g1.2.2
              have k2 := (le_sub hy hw hN).mp g2.2.2
              have cN : (nI N).toNatClampNeg = N := nI_clamp hN
              have cx : (nI x).toNatClampNeg = x := nI_clamp hx
              have cy : (nI y).toNatClampNeg = y := nI_clamp hy
              refine zb X_shift_s95 rfl ?_
              refine zcpL X_shift_d110 k10_366 (by omega) (Nat.le_of_ble_eq_true rfl) rfl rfl (nI_pos (by omega)) (nI_pos (by omega)) (nI_pos (by omega)) (by rw [cN, cx]; omega) (by rw [cN, cy]; omega) ?_
              refine zb X_shift_s113 rfl ?_
              refine z_ret X_shift_d115 rfl ?_
              first
                | (have f := fin_shift (s := 5) (p := 2) (a := x) (b := y) (N := N) hS (by omega) (by omega) (by omega)
                   rw [cN, cx, cy]
                   exact ⟨rfl, f.1, f.2⟩)
                | (have q : ¬ bP 15 j n μ := zB_eq0.mp h89
                   rw [opSh_c (by omega) (by omega) f1 f2 hsrt (fun z => q (P2.mpr (And.intro z.2.2.1 (And.intro z.1 (by rw [← ew]; exact z.2.2.2.2)))))]
                   exact ⟨rfl, hS, onlyX.rf⟩)
                | (have q : ¬ bP 18 i n μ := zB_eq0.mp h77
                   rw [opSh_c (by omega) (by omega) f1 f2 hsrt (fun z => q (P1.mpr (And.intro z.2.1 (And.intro z.1 (by rw [← em]; exact z.2.2.2.1)))))]
                   exact ⟨rfl, hS, onlyX.rf⟩)
                | (have q := zB_eq0.mp h63
                   have f1 : hHeld S 5 = 2 := R1.mp (zB_ne0.mp h50)
                   have n2 : ¬ hHeld S 2 = 0 := fun z => (show ¬ bE 15 μ from zB_eq0.mp h39) (E2.mpr z)
                   rw [opSh_b (by omega) (by omega) (by rw [f1]; decide) n2 (by
                     by_cases z : hHeld S 2 = 2
                     · refine Or.inr (Or.inr (fun y => q (And.intro (R2.mpr z) ?_)))
                       exact (show μ.1 15 2 = _ from (xsh2 hS hok (show 2 < 6 by omega) z).1).trans (y.symm.trans (show μ.1 18 2 = _ from (xsh2 hS hok (show 5 < 6 by omega) f1).1).symm)
                     · exact Or.inr (Or.inl (xsh1 hok (by omega) n2 z)))]
                   exact ⟨rfl, hS, onlyX.rf⟩)
                | (have q : ¬ bR 18 μ := zB_eq0.mp h50
                   have n1 : ¬ hHeld S 5 = 0 := fun z => (show ¬ bE 18 μ from zB_eq0.mp h31) (E1.mpr z)
                   have n2 : ¬ hHeld S 2 = 0 := fun z => (show ¬ bE 15 μ from zB_eq0.mp h39) (E2.mpr z)
                   rw [opSh_b (by omega) (by omega) n1 n2 (Or.inl (xsh1 hok (by omega) n1 (fun z => q (R1.mpr z))))]
                   exact ⟨rfl, hS, onlyX.rf⟩)
                | (have q : bE 15 μ := zB_ne0.mp h39
                   rw [opSh_a (by omega) (by omega) (Or.inr (E2.mp q))]
                   exact ⟨rfl, hS, onlyX.rf⟩)
                | (have q : bE 18 μ := zB_ne0.mp h31
                   rw [opSh_a (by omega) (by omega) (Or.inl (E1.mp q))]
                   exact ⟨rfl, hS, onlyX.rf⟩)
            · refine zb X_shift_s92 rfl ?_
              refine z_ret X_shift_d94 rfl ?_
              first
                | (have f := fin_shift (s := 5) (p := 2) (a := x) (b := y) (N := N) hS (by omega) (by omega) (by omega)
                   rw [cN, cx, cy]
                   exact ⟨rfl, f.1, f.2⟩)
                | (have q : ¬ bP 15 j n μ := zB_eq0.mp h89
                   rw [opSh_c (by omega) (by omega) f1 f2 hsrt (fun z => q (P2.mpr (And.intro z.2.2.1 (And.intro z.1 (by rw [← ew]; exact z.2.2.2.2)))))]
                   exact ⟨rfl, hS, onlyX.rf⟩)
                | (have q : ¬ bP 18 i n μ := zB_eq0.mp h77
                   rw [opSh_c (by omega) (by omega) f1 f2 hsrt (fun z => q (P1.mpr (And.intro z.2.1 (And.intro z.1 (by rw [← em]; exact z.2.2.2.1)))))]
                   exact ⟨rfl, hS, onlyX.rf⟩)
                | (have q := zB_eq0.mp h63
                   have f1 : hHeld S 5 = 2 := R1.mp (zB_ne0.mp h50)
                   have n2 : ¬ hHeld S 2 = 0 := fun z => (show ¬ bE 15 μ from zB_eq0.mp h39) (E2.mpr z)
                   rw [opSh_b (by omega) (by omega) (by rw [f1]; decide) n2 (by
                     by_cases z : hHeld S 2 = 2
                     · refine Or.inr (Or.inr (fun y => q (And.intro (R2.mpr z) ?_)))
                       exact (show μ.1 15 2 = _ from (xsh2 hS hok (show 2 < 6 by omega) z).1).trans (y.symm.trans (show μ.1 18 2 = _ from (xsh2 hS hok (show 5 < 6 by omega) f1).1).symm)
                     · exact Or.inr (Or.inl (xsh1 hok (by omega) n2 z)))]
                   exact ⟨rfl, hS, onlyX.rf⟩)
                | (have q : ¬ bR 18 μ := zB_eq0.mp h50
                   have n1 : ¬ hHeld S 5 = 0 := fun z => (show ¬ bE 18 μ from zB_eq0.mp h31) (E1.mpr z)
                   have n2 : ¬ hHeld S 2 = 0 := fun z => (show ¬ bE 15 μ from zB_eq0.mp h39) (E2.mpr z)
                   rw [opSh_b (by omega) (by omega) n1 n2 (Or.inl (xsh1 hok (by omega) n1 (fun z => q (R1.mpr z))))]
                   exact ⟨rfl, hS, onlyX.rf⟩)
                | (have q : bE 15 μ := zB_ne0.mp h39
                   rw [opSh_a (by omega) (by omega) (Or.inr (E2.mp q))]
                   exact ⟨rfl, hS, onlyX.rf⟩)
                | (have q : bE 18 μ := zB_ne0.mp h31
                   rw [opSh_a (by omega) (by omega) (Or.inl (E1.mp q))]
                   exact ⟨rfl, hS, onlyX.rf⟩)
        · refine zb X_shift_s66 rfl ?_
          refine z_ret X_shift_d68 rfl ?_
          first
            | (have f := fin_shift (s := 5) (p := 2) (a := x) (b := y) (N := N) hS (by omega) (by omega) (by omega)
               rw [cN, cx, cy]
               exact ⟨rfl, f.1, f.2⟩)
            | (have q : ¬ bP 15 j n μ := zB_eq0.mp h89
               rw [opSh_c (by omega) (by omega) f1 f2 hsrt (fun z => q (P2.mpr (And.intro z.2.2.1 (And.intro z.1 (by rw [← ew]; exact z.2.2.2.2)))))]
               exact ⟨rfl, hS, onlyX.rf⟩)
            | (have q : ¬ bP 18 i n μ := zB_eq0.mp h77
               rw [opSh_c (by omega) (by omega) f1 f2 hsrt (fun z => q (P1.mpr (And.intro z.2.1 (And.intro z.1 (by rw [← em]; exact z.2.2.2.1)))))]
               exact ⟨rfl, hS, onlyX.rf⟩)
            | (have q := zB_eq0.mp h63
               have f1 : hHeld S 5 = 2 := R1.mp (zB_ne0.mp h50)
               have n2 : ¬ hHeld S 2 = 0 := fun z => (show ¬ bE 15 μ from zB_eq0.mp h39) (E2.mpr z)
               rw [opSh_b (by omega) (by omega) (by rw [f1]; decide) n2 (by
                 by_cases z : hHeld S 2 = 2
                 · refine Or.inr (Or.inr (fun y => q (And.intro (R2.mpr z) ?_)))
                   exact (show μ.1 15 2 = _ from (xsh2 hS hok (show 2 < 6 by omega) z).1).trans (y.symm.trans (show μ.1 18 2 = _ from (xsh2 hS hok (show 5 < 6 by omega) f1).1).symm)
                 · exact Or.inr (Or.inl (xsh1 hok (by omega) n2 z)))]
               exact ⟨rfl, hS, onlyX.rf⟩)
            | (have q : ¬ bR 18 μ := zB_eq0.mp h50
               have n1 : ¬ hHeld S 5 = 0 := fun z => (show ¬ bE 18 μ from zB_eq0.mp h31) (E1.mpr z)
               have n2 : ¬ hHeld S 2 = 0 := fun z => (show ¬ bE 15 μ from zB_eq0.mp h39) (E2.mpr z)
               rw [opSh_b (by omega) (by omega) n1 n2 (Or.inl (xsh1 hok (by omega) n1 (fun z => q (R1.mpr z))))]
               exact ⟨rfl, hS, onlyX.rf⟩)
            | (have q : bE 15 μ := zB_ne0.mp h39
               rw [opSh_a (by omega) (by omega) (Or.inr (E2.mp q))]
               exact ⟨rfl, hS, onlyX.rf⟩)
            | (have q : bE 18 μ := zB_ne0.mp h31
               rw [opSh_a (by omega) (by omega) (Or.inl (E1.mp q))]
               exact ⟨rfl, hS, onlyX.rf⟩)
    · refine zb X_shift_s42 rfl ?_
      refine z_ret X_shift_d44 rfl ?_
      first
        | (have f := fin_shift (s := 5) (p := 2) (a := x) (b := y) (N := N) hS (by omega) (by omega) (by omega)
           rw [cN, cx, cy]
           exact ⟨rfl, f.1, f.2⟩)
        | (have q : ¬ bP 15 j n μ := zB_eq0.mp h89
           rw [opSh_c (by omega) (by omega) f1 f2 hsrt (fun z => q (P2.mpr (And.intro z.2.2.1 (And.intro z.1 (by rw [← ew]; exact z.2.2.2.2)))))]
           exact ⟨rfl, hS, onlyX.rf⟩)
        | (have q : ¬ bP 18 i n μ := zB_eq0.mp h77
           rw [opSh_c (by omega) (by omega) f1 f2 hsrt (fun z => q (P1.mpr (And.intro z.2.1 (And.intro z.1 (by rw [← em]; exact z.2.2.2.1)))))]
           exact ⟨rfl, hS, onlyX.rf⟩)
        | (have q := zB_eq0.mp h63
           have f1 : hHeld S 5 = 2 := R1.mp (zB_ne0.mp h50)
           have n2 : ¬ hHeld S 2 = 0 := fun z => (show ¬ bE 15 μ from zB_eq0.mp h39) (E2.mpr z)
           rw [opSh_b (by omega) (by omega) (by rw [f1]; decide) n2 (by
             by_cases z : hHeld S 2 = 2
             · refine Or.inr (Or.inr (fun y => q (And.intro (R2.mpr z) ?_)))
               exact (show μ.1 15 2 = _ from (xsh2 hS hok (show 2 < 6 by omega) z).1).trans (y.symm.trans (show μ.1 18 2 = _ from (xsh2 hS hok (show 5 < 6 by omega) f1).1).symm)
             · exact Or.inr (Or.inl (xsh1 hok (by omega) n2 z)))]
           exact ⟨rfl, hS, onlyX.rf⟩)
        | (have q : ¬ bR 18 μ := zB_eq0.mp h50
           have n1 : ¬ hHeld S 5 = 0 := fun z => (show ¬ bE 18 μ from zB_eq0.mp h31) (E1.mpr z)
           have n2 : ¬ hHeld S 2 = 0 := fun z => (show ¬ bE 15 μ from zB_eq0.mp h39) (E2.mpr z)
           rw [opSh_b (by omega) (by omega) n1 n2 (Or.inl (xsh1 hok (by omega) n1 (fun z => q (R1.mpr z))))]
           exact ⟨rfl, hS, onlyX.rf⟩)
        | (have q : bE 15 μ := zB_ne0.mp h39
           rw [opSh_a (by omega) (by omega) (Or.inr (E2.mp q))]
           exact ⟨rfl, hS, onlyX.rf⟩)
        | (have q : bE 18 μ := zB_ne0.mp h31
           rw [opSh_a (by omega) (by omega) (Or.inl (E1.mp q))]
           exact ⟨rfl, hS, onlyX.rf⟩)

set_option maxRecDepth 100000 in
set_option maxHeartbeats 4000000 in
theorem xs_shift_5_3 {g : zG} {d : Nat} {S : zS} {μ : zMem} {i j n : Int32} (hd : 2 ≤ d) (hS : xS S μ) (hok : okH S) : zM g d X_shift [.ref 1, .int (nI 5), .int i, .int (nI 3), .int j, .int n] μ (pO xS onlyX (opShift S (nI 5) i (nI 3) j n) μ) := by
  refine zM_of (by decide +kernel) rfl rfl (Nat.le_of_ble_eq_true rfl) rfl ?_
  obtain ⟨ho, h2, hT, hC, hD, hI, hA, hH⟩ := hS
  have hS : xS S μ := ⟨ho, h2, hT, hC, hD, hI, hA, hH⟩
  have hb := ho.b
  have hv := ho.v
  have hB6 := ho.b6
  have hV12 := ho.v12
  have hz : zq sX μ μ := zq.rf
  have E1 := xshE (s := 5) hS hok (by omega)
  have E2 := xshE (s := 3) hS hok (by omega)
  have R1 := xshR (s := 5) hS hok (by omega)
  have R2 := xshR (s := 3) hS hok (by omega)
  refine zb X_shift_s0 rfl ?_
  refine zcallV X_shift_d2 k10_93 (by omega) (x_shelf_5 (by omega)) rfl rfl rfl (Nat.le_of_ble_eq_true rfl) ?_
  rintro _ μx ⟨rfl, hx⟩
  rw [hx]
  clear hx μx
  refine zb X_shift_s5 rfl ?_
  refine zcallV X_shift_d9 k10_93 (by omega) (x_shelf_3 (by omega)) rfl rfl rfl (Nat.le_of_ble_eq_true rfl) ?_
  rintro _ μx ⟨rfl, hx⟩
  rw [hx]
  clear hx μx
  refine zb X_shift_s12 rfl ?_
  refine z_null X_shift_d16 ?_
  refine zb X_shift_s19 rfl ?_
  refine z_nonnull X_shift_d21 (tgt := 26) rfl ?_
  refine zb X_shift_s26 rfl ?_
  refine zcallV X_shift_d28 k10_97 (by omega) (x_isEmpty_5) rfl rfl rfl (Nat.le_of_ble_eq_true rfl) ?_
  rintro _ μx ⟨rfl, hx⟩
  rw [hx]
  clear hx μx
  refine z_ne X_shift_d31 (tgt := 42) rfl (fun h31 => ?_) (fun h31 => ?_)
  · refine zb X_shift_s42 rfl ?_
    refine z_ret X_shift_d44 rfl ?_
    first
      | (have f := fin_shift (s := 5) (p := 3) (a := x) (b := y) (N := N) hS (by omega) (by omega) (by omega)
         rw [cN, cx, cy]
         exact ⟨rfl, f.1, f.2⟩)
      | (have q : ¬ bP 16 j n μ := zB_eq0.mp h89
         rw [opSh_c (by omega) (by omega) f1 f2 hsrt (fun z => q (P2.mpr (And.intro z.2.2.1 (And.intro z.1 (by rw [← ew]; exact z.2.2.2.2)))))]
         exact ⟨rfl, hS, onlyX.rf⟩)
      | (have q : ¬ bP 18 i n μ := zB_eq0.mp h77
         rw [opSh_c (by omega) (by omega) f1 f2 hsrt (fun z => q (P1.mpr (And.intro z.2.1 (And.intro z.1 (by rw [← em]; exact z.2.2.2.1)))))]
         exact ⟨rfl, hS, onlyX.rf⟩)
      | (have q := zB_eq0.mp h63
         have f1 : hHeld S 5 = 2 := R1.mp (zB_ne0.mp h50)
         have n2 : ¬ hHeld S 3 = 0 := fun z => (show ¬ bE 16 μ from zB_eq0.mp h39) (E2.mpr z)
         rw [opSh_b (by omega) (by omega) (by rw [f1]; decide) n2 (by
           by_cases z : hHeld S 3 = 2
           · refine Or.inr (Or.inr (fun y => q (And.intro (R2.mpr z) ?_)))
             exact (show μ.1 16 2 = _ from (xsh2 hS hok (show 3 < 6 by omega) z).1).trans (y.symm.trans (show μ.1 18 2 = _ from (xsh2 hS hok (show 5 < 6 by omega) f1).1).symm)
           · exact Or.inr (Or.inl (xsh1 hok (by omega) n2 z)))]
         exact ⟨rfl, hS, onlyX.rf⟩)
      | (have q : ¬ bR 18 μ := zB_eq0.mp h50
         have n1 : ¬ hHeld S 5 = 0 := fun z => (show ¬ bE 18 μ from zB_eq0.mp h31) (E1.mpr z)
         have n2 : ¬ hHeld S 3 = 0 := fun z => (show ¬ bE 16 μ from zB_eq0.mp h39) (E2.mpr z)
         rw [opSh_b (by omega) (by omega) n1 n2 (Or.inl (xsh1 hok (by omega) n1 (fun z => q (R1.mpr z))))]
         exact ⟨rfl, hS, onlyX.rf⟩)
      | (have q : bE 16 μ := zB_ne0.mp h39
         rw [opSh_a (by omega) (by omega) (Or.inr (E2.mp q))]
         exact ⟨rfl, hS, onlyX.rf⟩)
      | (have q : bE 18 μ := zB_ne0.mp h31
         rw [opSh_a (by omega) (by omega) (Or.inl (E1.mp q))]
         exact ⟨rfl, hS, onlyX.rf⟩)
  · refine zb X_shift_s34 rfl ?_
    refine zcallV X_shift_d36 k10_97 (by omega) (x_isEmpty_3) rfl rfl rfl (Nat.le_of_ble_eq_true rfl) ?_
    rintro _ μx ⟨rfl, hx⟩
    rw [hx]
    clear hx μx
    refine z_eq X_shift_d39 (tgt := 45) rfl (fun h39 => ?_) (fun h39 => ?_)
    · refine zb X_shift_s45 rfl ?_
      refine zcallV X_shift_d47 k10_357 (by omega) (x_isRow_5) rfl rfl rfl (Nat.le_of_ble_eq_true rfl) ?_
      rintro _ μx ⟨rfl, hx⟩
      rw [hx]
      clear hx μx
      refine z_eq X_shift_d50 (tgt := 66) rfl (fun h50 => ?_) (fun h50 => ?_)
      · refine zb X_shift_s66 rfl ?_
        refine z_ret X_shift_d68 rfl ?_
        first
          | (have f := fin_shift (s := 5) (p := 3) (a := x) (b := y) (N := N) hS (by omega) (by omega) (by omega)
             rw [cN, cx, cy]
             exact ⟨rfl, f.1, f.2⟩)
          | (have q : ¬ bP 16 j n μ := zB_eq0.mp h89
             rw [opSh_c (by omega) (by omega) f1 f2 hsrt (fun z => q (P2.mpr (And.intro z.2.2.1 (And.intro z.1 (by rw [← ew]; exact z.2.2.2.2)))))]
             exact ⟨rfl, hS, onlyX.rf⟩)
          | (have q : ¬ bP 18 i n μ := zB_eq0.mp h77
             rw [opSh_c (by omega) (by omega) f1 f2 hsrt (fun z => q (P1.mpr (And.intro z.2.1 (And.intro z.1 (by rw [← em]; exact z.2.2.2.1)))))]
             exact ⟨rfl, hS, onlyX.rf⟩)
          | (have q := zB_eq0.mp h63
             have f1 : hHeld S 5 = 2 := R1.mp (zB_ne0.mp h50)
             have n2 : ¬ hHeld S 3 = 0 := fun z => (show ¬ bE 16 μ from zB_eq0.mp h39) (E2.mpr z)
             rw [opSh_b (by omega) (by omega) (by rw [f1]; decide) n2 (by
               by_cases z : hHeld S 3 = 2
               · refine Or.inr (Or.inr (fun y => q (And.intro (R2.mpr z) ?_)))
                 exact (show μ.1 16 2 = _ from (xsh2 hS hok (show 3 < 6 by omega) z).1).trans (y.symm.trans (show μ.1 18 2 = _ from (xsh2 hS hok (show 5 < 6 by omega) f1).1).symm)
               · exact Or.inr (Or.inl (xsh1 hok (by omega) n2 z)))]
             exact ⟨rfl, hS, onlyX.rf⟩)
          | (have q : ¬ bR 18 μ := zB_eq0.mp h50
             have n1 : ¬ hHeld S 5 = 0 := fun z => (show ¬ bE 18 μ from zB_eq0.mp h31) (E1.mpr z)
             have n2 : ¬ hHeld S 3 = 0 := fun z => (show ¬ bE 16 μ from zB_eq0.mp h39) (E2.mpr z)
             rw [opSh_b (by omega) (by omega) n1 n2 (Or.inl (xsh1 hok (by omega) n1 (fun z => q (R1.mpr z))))]
             exact ⟨rfl, hS, onlyX.rf⟩)
          | (have q : bE 16 μ := zB_ne0.mp h39
             rw [opSh_a (by omega) (by omega) (Or.inr (E2.mp q))]
             exact ⟨rfl, hS, onlyX.rf⟩)
          | (have q : bE 18 μ := zB_ne0.mp h31
             rw [opSh_a (by omega) (by omega) (Or.inl (E1.mp q))]
             exact ⟨rfl, hS, onlyX.rf⟩)
      · refine zb X_shift_s53 rfl ?_
        refine zcallV X_shift_d60 k10_101 (by omega) (x_isRowOf_3 _ (by omega)) rfl rfl rfl (Nat.le_of_ble_eq_true rfl) ?_
        rintro _ μx ⟨rfl, hx⟩
        rw [hx]
        clear hx μx
        refine z_ne X_shift_d63 (tgt := 69) rfl (fun h63 => ?_) (fun h63 => ?_)
        · have f1 : hHeld S 5 = 2 := R1.mp (zB_ne0.mp h50)
          have f2 : hHeld S 3 = 2 := R2.mp (zB_ne0.mp h63).1
          obtain ⟨a1, a2, m, hm, em⟩ := xsh2 hS hok (show 5 < 6 by omega) f1
          obtain ⟨b1, b2, w, hw, ew⟩ := xsh2 hS hok (show 3 < 6 by omega) f2
          have hsrt : hSort S 5 = hSort S 3 := a1.symm.trans ((zB_ne0.mp h63).2.symm.trans b1)
          have P1 := bPn (i := i) (n := n) hm (a2.trans em)
          have P2 := bPn (i := j) (n := n) hw (b2.trans ew)
          refine zb X_shift_s69 rfl ?_
          refine zcallV X_shift_d74 k10_363 (by omega) (x_hasPlaces_5 _ _) rfl rfl rfl (Nat.le_of_ble_eq_true rfl) ?_
          rintro _ μx ⟨rfl, hx⟩
          rw [hx]
          clear hx μx
          refine z_eq X_shift_d77 (tgt := 92) rfl (fun h77 => ?_) (fun h77 => ?_)
          · refine zb X_shift_s92 rfl ?_
            refine z_ret X_shift_d94 rfl ?_
            first
              | (have f := fin_shift (s := 5) (p := 3) (a := x) (b := y) (N := N) hS (by omega) (by omega) (by omega)
                 rw [cN, cx, cy]
                 exact ⟨rfl, f.1, f.2⟩)
              | (have q : ¬ bP 16 j n μ := zB_eq0.mp h89
                 rw [opSh_c (by omega) (by omega) f1 f2 hsrt (fun z => q (P2.mpr (And.intro z.2.2.1 (And.intro z.1 (by rw [← ew]; exact z.2.2.2.2)))))]
                 exact ⟨rfl, hS, onlyX.rf⟩)
              | (have q : ¬ bP 18 i n μ := zB_eq0.mp h77
                 rw [opSh_c (by omega) (by omega) f1 f2 hsrt (fun z => q (P1.mpr (And.intro z.2.1 (And.intro z.1 (by rw [← em]; exact z.2.2.2.1)))))]
                 exact ⟨rfl, hS, onlyX.rf⟩)
              | (have q := zB_eq0.mp h63
                 have f1 : hHeld S 5 = 2 := R1.mp (zB_ne0.mp h50)
                 have n2 : ¬ hHeld S 3 = 0 := fun z => (show ¬ bE 16 μ from zB_eq0.mp h39) (E2.mpr z)
                 rw [opSh_b (by omega) (by omega) (by rw [f1]; decide) n2 (by
                   by_cases z : hHeld S 3 = 2
                   · refine Or.inr (Or.inr (fun y => q (And.intro (R2.mpr z) ?_)))
                     exact (show μ.1 16 2 = _ from (xsh2 hS hok (show 3 < 6 by omega) z).1).trans (y.symm.trans (show μ.1 18 2 = _ from (xsh2 hS hok (show 5 < 6 by omega) f1).1).symm)
                   · exact Or.inr (Or.inl (xsh1 hok (by omega) n2 z)))]
                 exact ⟨rfl, hS, onlyX.rf⟩)
              | (have q : ¬ bR 18 μ := zB_eq0.mp h50
                 have n1 : ¬ hHeld S 5 = 0 := fun z => (show ¬ bE 18 μ from zB_eq0.mp h31) (E1.mpr z)
                 have n2 : ¬ hHeld S 3 = 0 := fun z => (show ¬ bE 16 μ from zB_eq0.mp h39) (E2.mpr z)
                 rw [opSh_b (by omega) (by omega) n1 n2 (Or.inl (xsh1 hok (by omega) n1 (fun z => q (R1.mpr z))))]
                 exact ⟨rfl, hS, onlyX.rf⟩)
              | (have q : bE 16 μ := zB_ne0.mp h39
                 rw [opSh_a (by omega) (by omega) (Or.inr (E2.mp q))]
                 exact ⟨rfl, hS, onlyX.rf⟩)
              | (have q : bE 18 μ := zB_ne0.mp h31
                 rw [opSh_a (by omega) (by omega) (Or.inl (E1.mp q))]
                 exact ⟨rfl, hS, onlyX.rf⟩)
          · refine zb X_shift_s80 rfl ?_
            refine zcallV X_shift_d86 k10_363 (by omega) (x_hasPlaces_3 _ _) rfl rfl rfl (Nat.le_of_ble_eq_true rfl) ?_
            rintro _ μx ⟨rfl, hx⟩
            rw [hx]
            clear hx μx
            refine z_ne X_shift_d89 (tgt := 95) rfl (fun h89 => ?_) (fun h89 => ?_)
            · have g1 := P1.mp (zB_ne0.mp h77)
              have g2 := P2.mp (zB_ne0.mp h89)
              have hall : 0 ≤ n ∧ 0 ≤ i ∧ 0 ≤ j ∧ i ≤ hSize S 5 - n ∧ j ≤ hSize S 3 - n := by
                exact ⟨g1.2.1, g1.1, g2.1, by rw [em]; exact g1.2.2, by rw [ew]; exact g2.2.2⟩
              rw [opSh_d (by omega) (by omega) f1 f2 hsrt hall]
              clear hall
              obtain ⟨N, hN, rfl⟩ := nI_of (Int32.not_lt.mpr g1.2.1)
              obtain ⟨x, hx, rfl⟩ := nI_of (Int32.not_lt.mpr g1.1)
              obtain ⟨y, hy, rfl⟩ := nI_of (Int32.not_lt.mpr g2.1)
              have k1 := (le_sub hx hm hN).mp g1.2.2
              have k2 := (le_sub hy hw hN).mp g2.2.2
              have cN : (nI N).toNatClampNeg = N := nI_clamp hN
              have cx : (nI x).toNatClampNeg = x := nI_clamp hx
              have cy : (nI y).toNatClampNeg = y := nI_clamp hy
              refine zb X_shift_s95 rfl ?_
              refine zcpL X_shift_d110 k10_366 (by omega) (Nat.le_of_ble_eq_true rfl) rfl rfl (nI_pos (by omega)) (nI_pos (by omega)) (nI_pos (by omega)) (by rw [cN, cx]; omega) (by rw [cN, cy]; omega) ?_
              refine zb X_shift_s113 rfl ?_
              refine z_ret X_shift_d115 rfl ?_
              first
                | (have f := fin_shift (s := 5) (p := 3) (a := x) (b := y) (N := N) hS (by omega) (by omega) (by omega)
                   rw [cN, cx, cy]
                   exact ⟨rfl, f.1, f.2⟩)
                | (have q : ¬ bP 16 j n μ := zB_eq0.mp h89
                   rw [opSh_c (by omega) (by omega) f1 f2 hsrt (fun z => q (P2.mpr (And.intro z.2.2.1 (And.intro z.1 (by rw [← ew]; exact z.2.2.2.2)))))]
                   exact ⟨rfl, hS, onlyX.rf⟩)
                | (have q : ¬ bP 18 i n μ := zB_eq0.mp h77
                   rw [opSh_c (by omega) (by omega) f1 f2 hsrt (fun z => q (P1.mpr (And.intro z.2.1 (And.intro z.1 (by rw [← em]; exact z.2.2.2.1)))))]
                   exact ⟨rfl, hS, onlyX.rf⟩)
                | (have q := zB_eq0.mp h63
                   have f1 : hHeld S 5 = 2 := R1.mp (zB_ne0.mp h50)
                   have n2 : ¬ hHeld S 3 = 0 := fun z => (show ¬ bE 16 μ from zB_eq0.mp h39) (E2.mpr z)
                   rw [opSh_b (by omega) (by omega) (by rw [f1]; decide) n2 (by
                     by_cases z : hHeld S 3 = 2
                     · refine Or.inr (Or.inr (fun y => q (And.intro (R2.mpr z) ?_)))
                       exact (show μ.1 16 2 = _ from (xsh2 hS hok (show 3 < 6 by omega) z).1).trans (y.symm.trans (show μ.1 18 2 = _ from (xsh2 hS hok (show 5 < 6 by omega) f1).1).symm)
                     · exact Or.inr (Or.inl (xsh1 hok (by omega) n2 z)))]
                   exact ⟨rfl, hS, onlyX.rf⟩)
                | (have q : ¬ bR 18 μ := zB_eq0.mp h50
                   have n1 : ¬ hHeld S 5 = 0 := fun z => (show ¬ bE 18 μ from zB_eq0.mp h31) (E1.mpr z)
                   have n2 : ¬ hHeld S 3 = 0 := fun z => (show ¬ bE 16 μ from zB_eq0.mp h39) (E2.mpr z)
                   rw [opSh_b (by omega) (by omega) n1 n2 (Or.inl (xsh1 hok (by omega) n1 (fun z => q (R1.mpr z))))]
                   exact ⟨rfl, hS, onlyX.rf⟩)
                | (have q : bE 16 μ := zB_ne0.mp h39
                   rw [opSh_a (by omega) (by omega) (Or.inr (E2.mp q))]
                   exact ⟨rfl, hS, onlyX.rf⟩)
                | (have q : bE 18 μ := zB_ne0.mp h31
                   rw [opSh_a (by omega) (by omega) (Or.inl (E1.mp q))]
                   exact ⟨rfl, hS, onlyX.rf⟩)
            · refine zb X_shift_s92 rfl ?_
              refine z_ret X_shift_d94 rfl ?_
              first
                | (have f := fin_shift (s := 5) (p := 3) (a := x) (b := y) (N := N) hS (by omega) (by omega) (by omega)
                   rw [cN, cx, cy]
                   exact ⟨rfl, f.1, f.2⟩)
                | (have q : ¬ bP 16 j n μ := zB_eq0.mp h89
                   rw [opSh_c (by omega) (by omega) f1 f2 hsrt (fun z => q (P2.mpr (And.intro z.2.2.1 (And.intro z.1 (by rw [← ew]; exact z.2.2.2.2)))))]
                   exact ⟨rfl, hS, onlyX.rf⟩)
                | (have q : ¬ bP 18 i n μ := zB_eq0.mp h77
                   rw [opSh_c (by omega) (by omega) f1 f2 hsrt (fun z => q (P1.mpr (And.intro z.2.1 (And.intro z.1 (by rw [← em]; exact z.2.2.2.1)))))]
                   exact ⟨rfl, hS, onlyX.rf⟩)
                | (have q := zB_eq0.mp h63
                   have f1 : hHeld S 5 = 2 := R1.mp (zB_ne0.mp h50)
                   have n2 : ¬ hHeld S 3 = 0 := fun z => (show ¬ bE 16 μ from zB_eq0.mp h39) (E2.mpr z)
                   rw [opSh_b (by omega) (by omega) (by rw [f1]; decide) n2 (by
                     by_cases z : hHeld S 3 = 2
                     · refine Or.inr (Or.inr (fun y => q (And.intro (R2.mpr z) ?_)))
                       exact (show μ.1 16 2 = _ from (xsh2 hS hok (show 3 < 6 by omega) z).1).trans (y.symm.trans (show μ.1 18 2 = _ from (xsh2 hS hok (show 5 < 6 by omega) f1).1).symm)
                     · exact Or.inr (Or.inl (xsh1 hok (by omega) n2 z)))]
                   exact ⟨rfl, hS, onlyX.rf⟩)
                | (have q : ¬ bR 18 μ := zB_eq0.mp h50
                   have n1 : ¬ hHeld S 5 = 0 := fun z => (show ¬ bE 18 μ from zB_eq0.mp h31) (E1.mpr z)
                   have n2 : ¬ hHeld S 3 = 0 := fun z => (show ¬ bE 16 μ from zB_eq0.mp h39) (E2.mpr z)
                   rw [opSh_b (by omega) (by omega) n1 n2 (Or.inl (xsh1 hok (by omega) n1 (fun z => q (R1.mpr z))))]
                   exact ⟨rfl, hS, onlyX.rf⟩)
                | (have q : bE 16 μ := zB_ne0.mp h39
                   rw [opSh_a (by omega) (by omega) (Or.inr (E2.mp q))]
                   exact ⟨rfl, hS, onlyX.rf⟩)
                | (have q : bE 18 μ := zB_ne0.mp h31
                   rw [opSh_a (by omega) (by omega) (Or.inl (E1.mp q))]
                   exact ⟨rfl, hS, onlyX.rf⟩)
        · refine zb X_shift_s66 rfl ?_
          refine z_ret X_shift_d68 rfl ?_
          first
            | (have f := fin_shift (s := 5) (p := 3) (a := x) (b := y) (N := N) hS (by omega) (by omega) (by omega)
               rw [cN, cx, cy]
               exact ⟨rfl, f.1, f.2⟩)
            | (have q : ¬ bP 16 j n μ := zB_eq0.mp h89
               rw [opSh_c (by omega) (by omega) f1 f2 hsrt (fun z => q (P2.mpr (And.intro z.2.2.1 (And.intro z.1 (by rw [← ew]; exact z.2.2.2.2)))))]
               exact ⟨rfl, hS, onlyX.rf⟩)
            | (have q : ¬ bP 18 i n μ := zB_eq0.mp h77
               rw [opSh_c (by omega) (by omega) f1 f2 hsrt (fun z => q (P1.mpr (And.intro z.2.1 (And.intro z.1 (by rw [← em]; exact z.2.2.2.1)))))]
               exact ⟨rfl, hS, onlyX.rf⟩)
            | (have q := zB_eq0.mp h63
               have f1 : hHeld S 5 = 2 := R1.mp (zB_ne0.mp h50)
               have n2 : ¬ hHeld S 3 = 0 := fun z => (show ¬ bE 16 μ from zB_eq0.mp h39) (E2.mpr z)
               rw [opSh_b (by omega) (by omega) (by rw [f1]; decide) n2 (by
                 by_cases z : hHeld S 3 = 2
                 · refine Or.inr (Or.inr (fun y => q (And.intro (R2.mpr z) ?_)))
                   exact (show μ.1 16 2 = _ from (xsh2 hS hok (show 3 < 6 by omega) z).1).trans (y.symm.trans (show μ.1 18 2 = _ from (xsh2 hS hok (show 5 < 6 by omega) f1).1).symm)
                 · exact Or.inr (Or.inl (xsh1 hok (by omega) n2 z)))]
               exact ⟨rfl, hS, onlyX.rf⟩)
            | (have q : ¬ bR 18 μ := zB_eq0.mp h50
               have n1 : ¬ hHeld S 5 = 0 := fun z => (show ¬ bE 18 μ from zB_eq0.mp h31) (E1.mpr z)
               have n2 : ¬ hHeld S 3 = 0 := fun z => (show ¬ bE 16 μ from zB_eq0.mp h39) (E2.mpr z)
               rw [opSh_b (by omega) (by omega) n1 n2 (Or.inl (xsh1 hok (by omega) n1 (fun z => q (R1.mpr z))))]
               exact ⟨rfl, hS, onlyX.rf⟩)
            | (have q : bE 16 μ := zB_ne0.mp h39
               rw [opSh_a (by omega) (by omega) (Or.inr (E2.mp q))]
               exact ⟨rfl, hS, onlyX.rf⟩)
            | (have q : bE 18 μ := zB_ne0.mp h31
               rw [opSh_a (by omega) (by omega) (Or.inl (E1.mp q))]
               exact ⟨rfl, hS, onlyX.rf⟩)
    · refine zb X_shift_s42 rfl ?_
      refine z_ret X_shift_d44 rfl ?_
      first
        | (have f := fin_shift (s := 5) (p := 3) (a := x) (b := y) (N := N) hS (by omega) (by omega) (by omega)
           rw [cN, cx, cy]
           exact ⟨rfl, f.1, f.2⟩)
        | (have q : ¬ bP 16 j n μ := zB_eq0.mp h89
           rw [opSh_c (by omega) (by omega) f1 f2 hsrt (fun z => q (P2.mpr (And.intro z.2.2.1 (And.intro z.1 (by rw [← ew]; exact z.2.2.2.2)))))]
           exact ⟨rfl, hS, onlyX.rf⟩)
        | (have q : ¬ bP 18 i n μ := zB_eq0.mp h77
           rw [opSh_c (by omega) (by omega) f1 f2 hsrt (fun z => q (P1.mpr (And.intro z.2.1 (And.intro z.1 (by rw [← em]; exact z.2.2.2.1)))))]
           exact ⟨rfl, hS, onlyX.rf⟩)
        | (have q := zB_eq0.mp h63
           have f1 : hHeld S 5 = 2 := R1.mp (zB_ne0.mp h50)
           have n2 : ¬ hHeld S 3 = 0 := fun z => (show ¬ bE 16 μ from zB_eq0.mp h39) (E2.mpr z)
           rw [opSh_b (by omega) (by omega) (by rw [f1]; decide) n2 (by
             by_cases z : hHeld S 3 = 2
             · refine Or.inr (Or.inr (fun y => q (And.intro (R2.mpr z) ?_)))
               exact (show μ.1 16 2 = _ from (xsh2 hS hok (show 3 < 6 by omega) z).1).trans (y.symm.trans (show μ.1 18 2 = _ from (xsh2 hS hok (show 5 < 6 by omega) f1).1).symm)
             · exact Or.inr (Or.inl (xsh1 hok (by omega) n2 z)))]
           exact ⟨rfl, hS, onlyX.rf⟩)
        | (have q : ¬ bR 18 μ := zB_eq0.mp h50
           have n1 : ¬ hHeld S 5 = 0 := fun z => (show ¬ bE 18 μ from zB_eq0.mp h31) (E1.mpr z)
           have n2 : ¬ hHeld S 3 = 0 := fun z => (show ¬ bE 16 μ from zB_eq0.mp h39) (E2.mpr z)
           rw [opSh_b (by omega) (by omega) n1 n2 (Or.inl (xsh1 hok (by omega) n1 (fun z => q (R1.mpr z))))]
           exact ⟨rfl, hS, onlyX.rf⟩)
        | (have q : bE 16 μ := zB_ne0.mp h39
           rw [opSh_a (by omega) (by omega) (Or.inr (E2.mp q))]
           exact ⟨rfl, hS, onlyX.rf⟩)
        | (have q : bE 18 μ := zB_ne0.mp h31
           rw [opSh_a (by omega) (by omega) (Or.inl (E1.mp q))]
           exact ⟨rfl, hS, onlyX.rf⟩)

set_option maxRecDepth 100000 in
set_option maxHeartbeats 4000000 in
theorem xs_shift_5_4 {g : zG} {d : Nat} {S : zS} {μ : zMem} {i j n : Int32} (hd : 2 ≤ d) (hS : xS S μ) (hok : okH S) : zM g d X_shift [.ref 1, .int (nI 5), .int i, .int (nI 4), .int j, .int n] μ (pO xS onlyX (opShift S (nI 5) i (nI 4) j n) μ) := by
  refine zM_of (by decide +kernel) rfl rfl (Nat.le_of_ble_eq_true rfl) rfl ?_
  obtain ⟨ho, h2, hT, hC, hD, hI, hA, hH⟩ := hS
  have hS : xS S μ := ⟨ho, h2, hT, hC, hD, hI, hA, hH⟩
  have hb := ho.b
  have hv := ho.v
  have hB6 := ho.b6
  have hV12 := ho.v12
  have hz : zq sX μ μ := zq.rf
  have E1 := xshE (s := 5) hS hok (by omega)
  have E2 := xshE (s := 4) hS hok (by omega)
  have R1 := xshR (s := 5) hS hok (by omega)
  have R2 := xshR (s := 4) hS hok (by omega)
  refine zb X_shift_s0 rfl ?_
  refine zcallV X_shift_d2 k10_93 (by omega) (x_shelf_5 (by omega)) rfl rfl rfl (Nat.le_of_ble_eq_true rfl) ?_
  rintro _ μx ⟨rfl, hx⟩
  rw [hx]
  clear hx μx
  refine zb X_shift_s5 rfl ?_
  refine zcallV X_shift_d9 k10_93 (by omega) (x_shelf_4 (by omega)) rfl rfl rfl (Nat.le_of_ble_eq_true rfl) ?_
  rintro _ μx ⟨rfl, hx⟩
  rw [hx]
  clear hx μx
  refine zb X_shift_s12 rfl ?_
  refine z_null X_shift_d16 ?_
  refine zb X_shift_s19 rfl ?_
  refine z_nonnull X_shift_d21 (tgt := 26) rfl ?_
  refine zb X_shift_s26 rfl ?_
  refine zcallV X_shift_d28 k10_97 (by omega) (x_isEmpty_5) rfl rfl rfl (Nat.le_of_ble_eq_true rfl) ?_
  rintro _ μx ⟨rfl, hx⟩
  rw [hx]
  clear hx μx
  refine z_ne X_shift_d31 (tgt := 42) rfl (fun h31 => ?_) (fun h31 => ?_)
  · refine zb X_shift_s42 rfl ?_
    refine z_ret X_shift_d44 rfl ?_
    first
      | (have f := fin_shift (s := 5) (p := 4) (a := x) (b := y) (N := N) hS (by omega) (by omega) (by omega)
         rw [cN, cx, cy]
         exact ⟨rfl, f.1, f.2⟩)
      | (have q : ¬ bP 17 j n μ := zB_eq0.mp h89
         rw [opSh_c (by omega) (by omega) f1 f2 hsrt (fun z => q (P2.mpr (And.intro z.2.2.1 (And.intro z.1 (by rw [← ew]; exact z.2.2.2.2)))))]
         exact ⟨rfl, hS, onlyX.rf⟩)
      | (have q : ¬ bP 18 i n μ := zB_eq0.mp h77
         rw [opSh_c (by omega) (by omega) f1 f2 hsrt (fun z => q (P1.mpr (And.intro z.2.1 (And.intro z.1 (by rw [← em]; exact z.2.2.2.1)))))]
         exact ⟨rfl, hS, onlyX.rf⟩)
      | (have q := zB_eq0.mp h63
         have f1 : hHeld S 5 = 2 := R1.mp (zB_ne0.mp h50)
         have n2 : ¬ hHeld S 4 = 0 := fun z => (show ¬ bE 17 μ from zB_eq0.mp h39) (E2.mpr z)
         rw [opSh_b (by omega) (by omega) (by rw [f1]; decide) n2 (by
           by_cases z : hHeld S 4 = 2
           · refine Or.inr (Or.inr (fun y => q (And.intro (R2.mpr z) ?_)))
             exact (show μ.1 17 2 = _ from (xsh2 hS hok (show 4 < 6 by omega) z).1).trans (y.symm.trans (show μ.1 18 2 = _ from (xsh2 hS hok (show 5 < 6 by omega) f1).1).symm)
           · exact Or.inr (Or.inl (xsh1 hok (by omega) n2 z)))]
         exact ⟨rfl, hS, onlyX.rf⟩)
      | (have q : ¬ bR 18 μ := zB_eq0.mp h50
         have n1 : ¬ hHeld S 5 = 0 := fun z => (show ¬ bE 18 μ from zB_eq0.mp h31) (E1.mpr z)
         have n2 : ¬ hHeld S 4 = 0 := fun z => (show ¬ bE 17 μ from zB_eq0.mp h39) (E2.mpr z)
         rw [opSh_b (by omega) (by omega) n1 n2 (Or.inl (xsh1 hok (by omega) n1 (fun z => q (R1.mpr z))))]
         exact ⟨rfl, hS, onlyX.rf⟩)
      | (have q : bE 17 μ := zB_ne0.mp h39
         rw [opSh_a (by omega) (by omega) (Or.inr (E2.mp q))]
         exact ⟨rfl, hS, onlyX.rf⟩)
      | (have q : bE 18 μ := zB_ne0.mp h31
         rw [opSh_a (by omega) (by omega) (Or.inl (E1.mp q))]
         exact ⟨rfl, hS, onlyX.rf⟩)
  · refine zb X_shift_s34 rfl ?_
    refine zcallV X_shift_d36 k10_97 (by omega) (x_isEmpty_4) rfl rfl rfl (Nat.le_of_ble_eq_true rfl) ?_
    rintro _ μx ⟨rfl, hx⟩
    rw [hx]
    clear hx μx
    refine z_eq X_shift_d39 (tgt := 45) rfl (fun h39 => ?_) (fun h39 => ?_)
    · refine zb X_shift_s45 rfl ?_
      refine zcallV X_shift_d47 k10_357 (by omega) (x_isRow_5) rfl rfl rfl (Nat.le_of_ble_eq_true rfl) ?_
      rintro _ μx ⟨rfl, hx⟩
      rw [hx]
      clear hx μx
      refine z_eq X_shift_d50 (tgt := 66) rfl (fun h50 => ?_) (fun h50 => ?_)
      · refine zb X_shift_s66 rfl ?_
        refine z_ret X_shift_d68 rfl ?_
        first
          | (have f := fin_shift (s := 5) (p := 4) (a := x) (b := y) (N := N) hS (by omega) (by omega) (by omega)
             rw [cN, cx, cy]
             exact ⟨rfl, f.1, f.2⟩)
          | (have q : ¬ bP 17 j n μ := zB_eq0.mp h89
             rw [opSh_c (by omega) (by omega) f1 f2 hsrt (fun z => q (P2.mpr (And.intro z.2.2.1 (And.intro z.1 (by rw [← ew]; exact z.2.2.2.2)))))]
             exact ⟨rfl, hS, onlyX.rf⟩)
          | (have q : ¬ bP 18 i n μ := zB_eq0.mp h77
             rw [opSh_c (by omega) (by omega) f1 f2 hsrt (fun z => q (P1.mpr (And.intro z.2.1 (And.intro z.1 (by rw [← em]; exact z.2.2.2.1)))))]
             exact ⟨rfl, hS, onlyX.rf⟩)
          | (have q := zB_eq0.mp h63
             have f1 : hHeld S 5 = 2 := R1.mp (zB_ne0.mp h50)
             have n2 : ¬ hHeld S 4 = 0 := fun z => (show ¬ bE 17 μ from zB_eq0.mp h39) (E2.mpr z)
             rw [opSh_b (by omega) (by omega) (by rw [f1]; decide) n2 (by
               by_cases z : hHeld S 4 = 2
               · refine Or.inr (Or.inr (fun y => q (And.intro (R2.mpr z) ?_)))
                 exact (show μ.1 17 2 = _ from (xsh2 hS hok (show 4 < 6 by omega) z).1).trans (y.symm.trans (show μ.1 18 2 = _ from (xsh2 hS hok (show 5 < 6 by omega) f1).1).symm)
               · exact Or.inr (Or.inl (xsh1 hok (by omega) n2 z)))]
             exact ⟨rfl, hS, onlyX.rf⟩)
          | (have q : ¬ bR 18 μ := zB_eq0.mp h50
             have n1 : ¬ hHeld S 5 = 0 := fun z => (show ¬ bE 18 μ from zB_eq0.mp h31) (E1.mpr z)
             have n2 : ¬ hHeld S 4 = 0 := fun z => (show ¬ bE 17 μ from zB_eq0.mp h39) (E2.mpr z)
             rw [opSh_b (by omega) (by omega) n1 n2 (Or.inl (xsh1 hok (by omega) n1 (fun z => q (R1.mpr z))))]
             exact ⟨rfl, hS, onlyX.rf⟩)
          | (have q : bE 17 μ := zB_ne0.mp h39
             rw [opSh_a (by omega) (by omega) (Or.inr (E2.mp q))]
             exact ⟨rfl, hS, onlyX.rf⟩)
          | (have q : bE 18 μ := zB_ne0.mp h31
             rw [opSh_a (by omega) (by omega) (Or.inl (E1.mp q))]
             exact ⟨rfl, hS, onlyX.rf⟩)
      · refine zb X_shift_s53 rfl ?_
        refine zcallV X_shift_d60 k10_101 (by omega) (x_isRowOf_4 _ (by omega)) rfl rfl rfl (Nat.le_of_ble_eq_true rfl) ?_
        rintro _ μx ⟨rfl, hx⟩
        rw [hx]
        clear hx μx
        refine z_ne X_shift_d63 (tgt := 69) rfl (fun h63 => ?_) (fun h63 => ?_)
        · have f1 : hHeld S 5 = 2 := R1.mp (zB_ne0.mp h50)
          have f2 : hHeld S 4 = 2 := R2.mp (zB_ne0.mp h63).1
          obtain ⟨a1, a2, m, hm, em⟩ := xsh2 hS hok (show 5 < 6 by omega) f1
          obtain ⟨b1, b2, w, hw, ew⟩ := xsh2 hS hok (show 4 < 6 by omega) f2
          have hsrt : hSort S 5 = hSort S 4 := a1.symm.trans ((zB_ne0.mp h63).2.symm.trans b1)
          have P1 := bPn (i := i) (n := n) hm (a2.trans em)
          have P2 := bPn (i := j) (n := n) hw (b2.trans ew)
          refine zb X_shift_s69 rfl ?_
          refine zcallV X_shift_d74 k10_363 (by omega) (x_hasPlaces_5 _ _) rfl rfl rfl (Nat.le_of_ble_eq_true rfl) ?_
          rintro _ μx ⟨rfl, hx⟩
          rw [hx]
          clear hx μx
          refine z_eq X_shift_d77 (tgt := 92) rfl (fun h77 => ?_) (fun h77 => ?_)
          · refine zb X_shift_s92 rfl ?_
            refine z_ret X_shift_d94 rfl ?_
            first
              | (have f := fin_shift (s := 5) (p := 4) (a := x) (b := y) (N := N) hS (by omega) (by omega) (by omega)
                 rw [cN, cx, cy]
                 exact ⟨rfl, f.1, f.2⟩)
              | (have q : ¬ bP 17 j n μ := zB_eq0.mp h89
                 rw [opSh_c (by omega) (by omega) f1 f2 hsrt (fun z => q (P2.mpr (And.intro z.2.2.1 (And.intro z.1 (by rw [← ew]; exact z.2.2.2.2)))))]
                 exact ⟨rfl, hS, onlyX.rf⟩)
              | (have q : ¬ bP 18 i n μ := zB_eq0.mp h77
                 rw [opSh_c (by omega) (by omega) f1 f2 hsrt (fun z => q (P1.mpr (And.intro z.2.1 (And.intro z.1 (by rw [← em]; exact z.2.2.2.1)))))]
                 exact ⟨rfl, hS, onlyX.rf⟩)
              | (have q := zB_eq0.mp h63
                 have f1 : hHeld S 5 = 2 := R1.mp (zB_ne0.mp h50)
                 have n2 : ¬ hHeld S 4 = 0 := fun z => (show ¬ bE 17 μ from zB_eq0.mp h39) (E2.mpr z)
                 rw [opSh_b (by omega) (by omega) (by rw [f1]; decide) n2 (by
                   by_cases z : hHeld S 4 = 2
                   · refine Or.inr (Or.inr (fun y => q (And.intro (R2.mpr z) ?_)))
                     exact (show μ.1 17 2 = _ from (xsh2 hS hok (show 4 < 6 by omega) z).1).trans (y.symm.trans (show μ.1 18 2 = _ from (xsh2 hS hok (show 5 < 6 by omega) f1).1).symm)
                   · exact Or.inr (Or.inl (xsh1 hok (by omega) n2 z)))]
                 exact ⟨rfl, hS, onlyX.rf⟩)
              | (have q : ¬ bR 18 μ := zB_eq0.mp h50
                 have n1 : ¬ hHeld S 5 = 0 := fun z => (show ¬ bE 18 μ from zB_eq0.mp h31) (E1.mpr z)
                 have n2 : ¬ hHeld S 4 = 0 := fun z => (show ¬ bE 17 μ from zB_eq0.mp h39) (E2.mpr z)
                 rw [opSh_b (by omega) (by omega) n1 n2 (Or.inl (xsh1 hok (by omega) n1 (fun z => q (R1.mpr z))))]
                 exact ⟨rfl, hS, onlyX.rf⟩)
              | (have q : bE 17 μ := zB_ne0.mp h39
                 rw [opSh_a (by omega) (by omega) (Or.inr (E2.mp q))]
                 exact ⟨rfl, hS, onlyX.rf⟩)
              | (have q : bE 18 μ := zB_ne0.mp h31
                 rw [opSh_a (by omega) (by omega) (Or.inl (E1.mp q))]
                 exact ⟨rfl, hS, onlyX.rf⟩)
          · refine zb X_shift_s80 rfl ?_
            refine zcallV X_shift_d86 k10_363 (by omega) (x_hasPlaces_4 _ _) rfl rfl rfl (Nat.le_of_ble_eq_true rfl) ?_
            rintro _ μx ⟨rfl, hx⟩
            rw [hx]
            clear hx μx
            refine z_ne X_shift_d89 (tgt := 95) rfl (fun h89 => ?_) (fun h89 => ?_)
            · have g1 := P1.mp (zB_ne0.mp h77)
              have g2 := P2.mp (zB_ne0.mp h89)
              have hall : 0 ≤ n ∧ 0 ≤ i ∧ 0 ≤ j ∧ i ≤ hSize S 5 - n ∧ j ≤ hSize S 4 - n := by
                exact ⟨g1.2.1, g1.1, g2.1, by rw [em]; exact g1.2.2, by rw [ew]; exact g2.2.2⟩
              rw [opSh_d (by omega) (by omega) f1 f2 hsrt hall]
              clear hall
              obtain ⟨N, hN, rfl⟩ := nI_of (Int32.not_lt.mpr g1.2.1)
              obtain ⟨x, hx, rfl⟩ := nI_of (Int32.not_lt.mpr g1.1)
              obtain ⟨y, hy, rfl⟩ := nI_of (Int32.not_lt.mpr g2.1)
              have k1 := (le_sub hx hm hN).mp g1.2.2
              have k2 := (le_sub hy hw hN).mp g2.2.2
              have cN : (nI N).toNatClampNeg = N := nI_clamp hN
              have cx : (nI x).toNatClampNeg = x := nI_clamp hx
              have cy : (nI y).toNatClampNeg = y := nI_clamp hy
              refine zb X_shift_s95 rfl ?_
              refine zcpL X_shift_d110 k10_366 (by omega) (Nat.le_of_ble_eq_true rfl) rfl rfl (nI_pos (by omega)) (nI_pos (by omega)) (nI_pos (by omega)) (by rw [cN, cx]; omega) (by rw [cN, cy]; omega) ?_
              refine zb X_shift_s113 rfl ?_
              refine z_ret X_shift_d115 rfl ?_
              first
                | (have f := fin_shift (s := 5) (p := 4) (a := x) (b := y) (N := N) hS (by omega) (by omega) (by omega)
                   rw [cN, cx, cy]
                   exact ⟨rfl, f.1, f.2⟩)
                | (have q : ¬ bP 17 j n μ := zB_eq0.mp h89
                   rw [opSh_c (by omega) (by omega) f1 f2 hsrt (fun z => q (P2.mpr (And.intro z.2.2.1 (And.intro z.1 (by rw [← ew]; exact z.2.2.2.2)))))]
                   exact ⟨rfl, hS, onlyX.rf⟩)
                | (have q : ¬ bP 18 i n μ := zB_eq0.mp h77
                   rw [opSh_c (by omega) (by omega) f1 f2 hsrt (fun z => q (P1.mpr (And.intro z.2.1 (And.intro z.1 (by rw [← em]; exact z.2.2.2.1)))))]
                   exact ⟨rfl, hS, onlyX.rf⟩)
                | (have q := zB_eq0.mp h63
                   have f1 : hHeld S 5 = 2 := R1.mp (zB_ne0.mp h50)
                   have n2 : ¬ hHeld S 4 = 0 := fun z => (show ¬ bE 17 μ from zB_eq0.mp h39) (E2.mpr z)
                   rw [opSh_b (by omega) (by omega) (by rw [f1]; decide) n2 (by
                     by_cases z : hHeld S 4 = 2
                     · refine Or.inr (Or.inr (fun y => q (And.intro (R2.mpr z) ?_)))
                       exact (show μ.1 17 2 = _ from (xsh2 hS hok (show 4 < 6 by omega) z).1).trans (y.symm.trans (show μ.1 18 2 = _ from (xsh2 hS hok (show 5 < 6 by omega) f1).1).symm)
                     · exact Or.inr (Or.inl (xsh1 hok (by omega) n2 z)))]
                   exact ⟨rfl, hS, onlyX.rf⟩)
                | (have q : ¬ bR 18 μ := zB_eq0.mp h50
                   have n1 : ¬ hHeld S 5 = 0 := fun z => (show ¬ bE 18 μ from zB_eq0.mp h31) (E1.mpr z)
                   have n2 : ¬ hHeld S 4 = 0 := fun z => (show ¬ bE 17 μ from zB_eq0.mp h39) (E2.mpr z)
                   rw [opSh_b (by omega) (by omega) n1 n2 (Or.inl (xsh1 hok (by omega) n1 (fun z => q (R1.mpr z))))]
                   exact ⟨rfl, hS, onlyX.rf⟩)
                | (have q : bE 17 μ := zB_ne0.mp h39
                   rw [opSh_a (by omega) (by omega) (Or.inr (E2.mp q))]
                   exact ⟨rfl, hS, onlyX.rf⟩)
                | (have q : bE 18 μ := zB_ne0.mp h31
                   rw [opSh_a (by omega) (by omega) (Or.inl (E1.mp q))]
                   exact ⟨rfl, hS, onlyX.rf⟩)
            · refine zb X_shift_s92 rfl ?_
              refine z_ret X_shift_d94 rfl ?_
              first
                | (have f := fin_shift (s := 5) (p := 4) (a := x) (b := y) (N := N) hS (by omega) (by omega) (by omega)
                   rw [cN, cx, cy]
                   exact ⟨rfl, f.1, f.2⟩)
                | (have q : ¬ bP 17 j n μ := zB_eq0.mp h89
                   rw [opSh_c (by omega) (by omega) f1 f2 hsrt (fun z => q (P2.mpr (And.intro z.2.2.1 (And.intro z.1 (by rw [← ew]; exact z.2.2.2.2)))))]
                   exact ⟨rfl, hS, onlyX.rf⟩)
                | (have q : ¬ bP 18 i n μ := zB_eq0.mp h77
                   rw [opSh_c (by omega) (by omega) f1 f2 hsrt (fun z => q (P1.mpr (And.intro z.2.1 (And.intro z.1 (by rw [← em]; exact z.2.2.2.1)))))]
                   exact ⟨rfl, hS, onlyX.rf⟩)
                | (have q := zB_eq0.mp h63
                   have f1 : hHeld S 5 = 2 := R1.mp (zB_ne0.mp h50)
                   have n2 : ¬ hHeld S 4 = 0 := fun z => (show ¬ bE 17 μ from zB_eq0.mp h39) (E2.mpr z)
                   rw [opSh_b (by omega) (by omega) (by rw [f1]; decide) n2 (by
                     by_cases z : hHeld S 4 = 2
                     · refine Or.inr (Or.inr (fun y => q (And.intro (R2.mpr z) ?_)))
                       exact (show μ.1 17 2 = _ from (xsh2 hS hok (show 4 < 6 by omega) z).1).trans (y.symm.trans (show μ.1 18 2 = _ from (xsh2 hS hok (show 5 < 6 by omega) f1).1).symm)
                     · exact Or.inr (Or.inl (xsh1 hok (by omega) n2 z)))]
                   exact ⟨rfl, hS, onlyX.rf⟩)
                | (have q : ¬ bR 18 μ := zB_eq0.mp h50
                   have n1 : ¬ hHeld S 5 = 0 := fun z => (show ¬ bE 18 μ from zB_eq0.mp h31) (E1.mpr z)
                   have n2 : ¬ hHeld S 4 = 0 := fun z => (show ¬ bE 17 μ from zB_eq0.mp h39) (E2.mpr z)
                   rw [opSh_b (by omega) (by omega) n1 n2 (Or.inl (xsh1 hok (by omega) n1 (fun z => q (R1.mpr z))))]
                   exact ⟨rfl, hS, onlyX.rf⟩)
                | (have q : bE 17 μ := zB_ne0.mp h39
                   rw [opSh_a (by omega) (by omega) (Or.inr (E2.mp q))]
                   exact ⟨rfl, hS, onlyX.rf⟩)
                | (have q : bE 18 μ := zB_ne0.mp h31
                   rw [opSh_a (by omega) (by omega) (Or.inl (E1.mp q))]
                   exact ⟨rfl, hS, onlyX.rf⟩)
        · refine zb X_shift_s66 rfl ?_
          refine z_ret X_shift_d68 rfl ?_
          first
            | (have f := fin_shift (s := 5) (p := 4) (a := x) (b := y) (N := N) hS (by omega) (by omega) (by omega)
               rw [cN, cx, cy]
               exact ⟨rfl, f.1, f.2⟩)
            | (have q : ¬ bP 17 j n μ := zB_eq0.mp h89
               rw [opSh_c (by omega) (by omega) f1 f2 hsrt (fun z => q (P2.mpr (And.intro z.2.2.1 (And.intro z.1 (by rw [← ew]; exact z.2.2.2.2)))))]
               exact ⟨rfl, hS, onlyX.rf⟩)
            | (have q : ¬ bP 18 i n μ := zB_eq0.mp h77
               rw [opSh_c (by omega) (by omega) f1 f2 hsrt (fun z => q (P1.mpr (And.intro z.2.1 (And.intro z.1 (by rw [← em]; exact z.2.2.2.1)))))]
               exact ⟨rfl, hS, onlyX.rf⟩)
            | (have q := zB_eq0.mp h63
               have f1 : hHeld S 5 = 2 := R1.mp (zB_ne0.mp h50)
               have n2 : ¬ hHeld S 4 = 0 := fun z => (show ¬ bE 17 μ from zB_eq0.mp h39) (E2.mpr z)
               rw [opSh_b (by omega) (by omega) (by rw [f1]; decide) n2 (by
                 by_cases z : hHeld S 4 = 2
                 · refine Or.inr (Or.inr (fun y => q (And.intro (R2.mpr z) ?_)))
                   exact (show μ.1 17 2 = _ from (xsh2 hS hok (show 4 < 6 by omega) z).1).trans (y.symm.trans (show μ.1 18 2 = _ from (xsh2 hS hok (show 5 < 6 by omega) f1).1).symm)
                 · exact Or.inr (Or.inl (xsh1 hok (by omega) n2 z)))]
               exact ⟨rfl, hS, onlyX.rf⟩)
            | (have q : ¬ bR 18 μ := zB_eq0.mp h50
               have n1 : ¬ hHeld S 5 = 0 := fun z => (show ¬ bE 18 μ from zB_eq0.mp h31) (E1.mpr z)
               have n2 : ¬ hHeld S 4 = 0 := fun z => (show ¬ bE 17 μ from zB_eq0.mp h39) (E2.mpr z)
               rw [opSh_b (by omega) (by omega) n1 n2 (Or.inl (xsh1 hok (by omega) n1 (fun z => q (R1.mpr z))))]
               exact ⟨rfl, hS, onlyX.rf⟩)
            | (have q : bE 17 μ := zB_ne0.mp h39
               rw [opSh_a (by omega) (by omega) (Or.inr (E2.mp q))]
               exact ⟨rfl, hS, onlyX.rf⟩)
            | (have q : bE 18 μ := zB_ne0.mp h31
               rw [opSh_a (by omega) (by omega) (Or.inl (E1.mp q))]
               exact ⟨rfl, hS, onlyX.rf⟩)
    · refine zb X_shift_s42 rfl ?_
      refine z_ret X_shift_d44 rfl ?_
      first
        | (have f := fin_shift (s := 5) (p := 4) (a := x) (b := y) (N := N) hS (by omega) (by omega) (by omega)
           rw [cN, cx, cy]
           exact ⟨rfl, f.1, f.2⟩)
        | (have q : ¬ bP 17 j n μ := zB_eq0.mp h89
           rw [opSh_c (by omega) (by omega) f1 f2 hsrt (fun z => q (P2.mpr (And.intro z.2.2.1 (And.intro z.1 (by rw [← ew]; exact z.2.2.2.2)))))]
           exact ⟨rfl, hS, onlyX.rf⟩)
        | (have q : ¬ bP 18 i n μ := zB_eq0.mp h77
           rw [opSh_c (by omega) (by omega) f1 f2 hsrt (fun z => q (P1.mpr (And.intro z.2.1 (And.intro z.1 (by rw [← em]; exact z.2.2.2.1)))))]
           exact ⟨rfl, hS, onlyX.rf⟩)
        | (have q := zB_eq0.mp h63
           have f1 : hHeld S 5 = 2 := R1.mp (zB_ne0.mp h50)
           have n2 : ¬ hHeld S 4 = 0 := fun z => (show ¬ bE 17 μ from zB_eq0.mp h39) (E2.mpr z)
           rw [opSh_b (by omega) (by omega) (by rw [f1]; decide) n2 (by
             by_cases z : hHeld S 4 = 2
             · refine Or.inr (Or.inr (fun y => q (And.intro (R2.mpr z) ?_)))
               exact (show μ.1 17 2 = _ from (xsh2 hS hok (show 4 < 6 by omega) z).1).trans (y.symm.trans (show μ.1 18 2 = _ from (xsh2 hS hok (show 5 < 6 by omega) f1).1).symm)
             · exact Or.inr (Or.inl (xsh1 hok (by omega) n2 z)))]
           exact ⟨rfl, hS, onlyX.rf⟩)
        | (have q : ¬ bR 18 μ := zB_eq0.mp h50
           have n1 : ¬ hHeld S 5 = 0 := fun z => (show ¬ bE 18 μ from zB_eq0.mp h31) (E1.mpr z)
           have n2 : ¬ hHeld S 4 = 0 := fun z => (show ¬ bE 17 μ from zB_eq0.mp h39) (E2.mpr z)
           rw [opSh_b (by omega) (by omega) n1 n2 (Or.inl (xsh1 hok (by omega) n1 (fun z => q (R1.mpr z))))]
           exact ⟨rfl, hS, onlyX.rf⟩)
        | (have q : bE 17 μ := zB_ne0.mp h39
           rw [opSh_a (by omega) (by omega) (Or.inr (E2.mp q))]
           exact ⟨rfl, hS, onlyX.rf⟩)
        | (have q : bE 18 μ := zB_ne0.mp h31
           rw [opSh_a (by omega) (by omega) (Or.inl (E1.mp q))]
           exact ⟨rfl, hS, onlyX.rf⟩)

set_option maxRecDepth 100000 in
set_option maxHeartbeats 4000000 in
theorem xs_shift_5_5 {g : zG} {d : Nat} {S : zS} {μ : zMem} {i j n : Int32} (hd : 2 ≤ d) (hS : xS S μ) (hok : okH S) : zM g d X_shift [.ref 1, .int (nI 5), .int i, .int (nI 5), .int j, .int n] μ (pO xS onlyX (opShift S (nI 5) i (nI 5) j n) μ) := by
  refine zM_of (by decide +kernel) rfl rfl (Nat.le_of_ble_eq_true rfl) rfl ?_
  obtain ⟨ho, h2, hT, hC, hD, hI, hA, hH⟩ := hS
  have hS : xS S μ := ⟨ho, h2, hT, hC, hD, hI, hA, hH⟩
  have hb := ho.b
  have hv := ho.v
  have hB6 := ho.b6
  have hV12 := ho.v12
  have hz : zq sX μ μ := zq.rf
  have E1 := xshE (s := 5) hS hok (by omega)
  have E2 := xshE (s := 5) hS hok (by omega)
  have R1 := xshR (s := 5) hS hok (by omega)
  have R2 := xshR (s := 5) hS hok (by omega)
  refine zb X_shift_s0 rfl ?_
  refine zcallV X_shift_d2 k10_93 (by omega) (x_shelf_5 (by omega)) rfl rfl rfl (Nat.le_of_ble_eq_true rfl) ?_
  rintro _ μx ⟨rfl, hx⟩
  rw [hx]
  clear hx μx
  refine zb X_shift_s5 rfl ?_
  refine zcallV X_shift_d9 k10_93 (by omega) (x_shelf_5 (by omega)) rfl rfl rfl (Nat.le_of_ble_eq_true rfl) ?_
  rintro _ μx ⟨rfl, hx⟩
  rw [hx]
  clear hx μx
  refine zb X_shift_s12 rfl ?_
  refine z_null X_shift_d16 ?_
  refine zb X_shift_s19 rfl ?_
  refine z_nonnull X_shift_d21 (tgt := 26) rfl ?_
  refine zb X_shift_s26 rfl ?_
  refine zcallV X_shift_d28 k10_97 (by omega) (x_isEmpty_5) rfl rfl rfl (Nat.le_of_ble_eq_true rfl) ?_
  rintro _ μx ⟨rfl, hx⟩
  rw [hx]
  clear hx μx
  refine z_ne X_shift_d31 (tgt := 42) rfl (fun h31 => ?_) (fun h31 => ?_)
  · refine zb X_shift_s42 rfl ?_
    refine z_ret X_shift_d44 rfl ?_
    first
      | (have f := fin_shift (s := 5) (p := 5) (a := x) (b := y) (N := N) hS (by omega) (by omega) (by omega)
         rw [cN, cx, cy]
         exact ⟨rfl, f.1, f.2⟩)
      | (have q : ¬ bP 18 j n μ := zB_eq0.mp h89
         rw [opSh_c (by omega) (by omega) f1 f2 hsrt (fun z => q (P2.mpr (And.intro z.2.2.1 (And.intro z.1 (by rw [← ew]; exact z.2.2.2.2)))))]
         exact ⟨rfl, hS, onlyX.rf⟩)
      | (have q : ¬ bP 18 i n μ := zB_eq0.mp h77
         rw [opSh_c (by omega) (by omega) f1 f2 hsrt (fun z => q (P1.mpr (And.intro z.2.1 (And.intro z.1 (by rw [← em]; exact z.2.2.2.1)))))]
         exact ⟨rfl, hS, onlyX.rf⟩)
      | (have q := zB_eq0.mp h63
         have f1 : hHeld S 5 = 2 := R1.mp (zB_ne0.mp h50)
         have n2 : ¬ hHeld S 5 = 0 := fun z => (show ¬ bE 18 μ from zB_eq0.mp h39) (E2.mpr z)
         rw [opSh_b (by omega) (by omega) (by rw [f1]; decide) n2 (by
           by_cases z : hHeld S 5 = 2
           · refine Or.inr (Or.inr (fun y => q (And.intro (R2.mpr z) ?_)))
             exact (show μ.1 18 2 = _ from (xsh2 hS hok (show 5 < 6 by omega) z).1).trans (y.symm.trans (show μ.1 18 2 = _ from (xsh2 hS hok (show 5 < 6 by omega) f1).1).symm)
           · exact Or.inr (Or.inl (xsh1 hok (by omega) n2 z)))]
         exact ⟨rfl, hS, onlyX.rf⟩)
      | (have q : ¬ bR 18 μ := zB_eq0.mp h50
         have n1 : ¬ hHeld S 5 = 0 := fun z => (show ¬ bE 18 μ from zB_eq0.mp h31) (E1.mpr z)
         have n2 : ¬ hHeld S 5 = 0 := fun z => (show ¬ bE 18 μ from zB_eq0.mp h39) (E2.mpr z)
         rw [opSh_b (by omega) (by omega) n1 n2 (Or.inl (xsh1 hok (by omega) n1 (fun z => q (R1.mpr z))))]
         exact ⟨rfl, hS, onlyX.rf⟩)
      | (have q : bE 18 μ := zB_ne0.mp h39
         rw [opSh_a (by omega) (by omega) (Or.inr (E2.mp q))]
         exact ⟨rfl, hS, onlyX.rf⟩)
      | (have q : bE 18 μ := zB_ne0.mp h31
         rw [opSh_a (by omega) (by omega) (Or.inl (E1.mp q))]
         exact ⟨rfl, hS, onlyX.rf⟩)
  · refine zb X_shift_s34 rfl ?_
    refine zcallV X_shift_d36 k10_97 (by omega) (x_isEmpty_5) rfl rfl rfl (Nat.le_of_ble_eq_true rfl) ?_
    rintro _ μx ⟨rfl, hx⟩
    rw [hx]
    clear hx μx
    refine z_eq X_shift_d39 (tgt := 45) rfl (fun h39 => ?_) (fun h39 => ?_)
    · refine zb X_shift_s45 rfl ?_
      refine zcallV X_shift_d47 k10_357 (by omega) (x_isRow_5) rfl rfl rfl (Nat.le_of_ble_eq_true rfl) ?_
      rintro _ μx ⟨rfl, hx⟩
      rw [hx]
      clear hx μx
      refine z_eq X_shift_d50 (tgt := 66) rfl (fun h50 => ?_) (fun h50 => ?_)
      · refine zb X_shift_s66 rfl ?_
        refine z_ret X_shift_d68 rfl ?_
        first
          | (have f := fin_shift (s := 5) (p := 5) (a := x) (b := y) (N := N) hS (by omega) (by omega) (by omega)
             rw [cN, cx, cy]
             exact ⟨rfl, f.1, f.2⟩)
          | (have q : ¬ bP 18 j n μ := zB_eq0.mp h89
             rw [opSh_c (by omega) (by omega) f1 f2 hsrt (fun z => q (P2.mpr (And.intro z.2.2.1 (And.intro z.1 (by rw [← ew]; exact z.2.2.2.2)))))]
             exact ⟨rfl, hS, onlyX.rf⟩)
          | (have q : ¬ bP 18 i n μ := zB_eq0.mp h77
             rw [opSh_c (by omega) (by omega) f1 f2 hsrt (fun z => q (P1.mpr (And.intro z.2.1 (And.intro z.1 (by rw [← em]; exact z.2.2.2.1)))))]
             exact ⟨rfl, hS, onlyX.rf⟩)
          | (have q := zB_eq0.mp h63
             have f1 : hHeld S 5 = 2 := R1.mp (zB_ne0.mp h50)
             have n2 : ¬ hHeld S 5 = 0 := fun z => (show ¬ bE 18 μ from zB_eq0.mp h39) (E2.mpr z)
             rw [opSh_b (by omega) (by omega) (by rw [f1]; decide) n2 (by
               by_cases z : hHeld S 5 = 2
               · refine Or.inr (Or.inr (fun y => q (And.intro (R2.mpr z) ?_)))
                 exact (show μ.1 18 2 = _ from (xsh2 hS hok (show 5 < 6 by omega) z).1).trans (y.symm.trans (show μ.1 18 2 = _ from (xsh2 hS hok (show 5 < 6 by omega) f1).1).symm)
               · exact Or.inr (Or.inl (xsh1 hok (by omega) n2 z)))]
             exact ⟨rfl, hS, onlyX.rf⟩)
          | (have q : ¬ bR 18 μ := zB_eq0.mp h50
             have n1 : ¬ hHeld S 5 = 0 := fun z => (show ¬ bE 18 μ from zB_eq0.mp h31) (E1.mpr z)
             have n2 : ¬ hHeld S 5 = 0 := fun z => (show ¬ bE 18 μ from zB_eq0.mp h39) (E2.mpr z)
             rw [opSh_b (by omega) (by omega) n1 n2 (Or.inl (xsh1 hok (by omega) n1 (fun z => q (R1.mpr z))))]
             exact ⟨rfl, hS, onlyX.rf⟩)
          | (have q : bE 18 μ := zB_ne0.mp h39
             rw [opSh_a (by omega) (by omega) (Or.inr (E2.mp q))]
             exact ⟨rfl, hS, onlyX.rf⟩)
          | (have q : bE 18 μ := zB_ne0.mp h31
             rw [opSh_a (by omega) (by omega) (Or.inl (E1.mp q))]
             exact ⟨rfl, hS, onlyX.rf⟩)
      · refine zb X_shift_s53 rfl ?_
        refine zcallV X_shift_d60 k10_101 (by omega) (x_isRowOf_5 _ (by omega)) rfl rfl rfl (Nat.le_of_ble_eq_true rfl) ?_
        rintro _ μx ⟨rfl, hx⟩
        rw [hx]
        clear hx μx
        refine z_ne X_shift_d63 (tgt := 69) rfl (fun h63 => ?_) (fun h63 => ?_)
        · have f1 : hHeld S 5 = 2 := R1.mp (zB_ne0.mp h50)
          have f2 : hHeld S 5 = 2 := R2.mp (zB_ne0.mp h63).1
          obtain ⟨a1, a2, m, hm, em⟩ := xsh2 hS hok (show 5 < 6 by omega) f1
          obtain ⟨b1, b2, w, hw, ew⟩ := xsh2 hS hok (show 5 < 6 by omega) f2
          have hsrt : hSort S 5 = hSort S 5 := a1.symm.trans ((zB_ne0.mp h63).2.symm.trans b1)
          have P1 := bPn (i := i) (n := n) hm (a2.trans em)
          have P2 := bPn (i := j) (n := n) hw (b2.trans ew)
          refine zb X_shift_s69 rfl ?_
          refine zcallV X_shift_d74 k10_363 (by omega) (x_hasPlaces_5 _ _) rfl rfl rfl (Nat.le_of_ble_eq_true rfl) ?_
          rintro _ μx ⟨rfl, hx⟩
          rw [hx]
          clear hx μx
          refine z_eq X_shift_d77 (tgt := 92) rfl (fun h77 => ?_) (fun h77 => ?_)
          · refine zb X_shift_s92 rfl ?_
            refine z_ret X_shift_d94 rfl ?_
            first
              | (have f := fin_shift (s := 5) (p := 5) (a := x) (b := y) (N := N) hS (by omega) (by omega) (by omega)
                 rw [cN, cx, cy]
                 exact ⟨rfl, f.1, f.2⟩)
              | (have q : ¬ bP 18 j n μ := zB_eq0.mp h89
                 rw [opSh_c (by omega) (by omega) f1 f2 hsrt (fun z => q (P2.mpr (And.intro z.2.2.1 (And.intro z.1 (by rw [← ew]; exact z.2.2.2.2)))))]
                 exact ⟨rfl, hS, onlyX.rf⟩)
              | (have q : ¬ bP 18 i n μ := zB_eq0.mp h77
                 rw [opSh_c (by omega) (by omega) f1 f2 hsrt (fun z => q (P1.mpr (And.intro z.2.1 (And.intro z.1 (by rw [← em]; exact z.2.2.2.1)))))]
                 exact ⟨rfl, hS, onlyX.rf⟩)
              | (have q := zB_eq0.mp h63
                 have f1 : hHeld S 5 = 2 := R1.mp (zB_ne0.mp h50)
                 have n2 : ¬ hHeld S 5 = 0 := fun z => (show ¬ bE 18 μ from zB_eq0.mp h39) (E2.mpr z)
                 rw [opSh_b (by omega) (by omega) (by rw [f1]; decide) n2 (by
                   by_cases z : hHeld S 5 = 2
                   · refine Or.inr (Or.inr (fun y => q (And.intro (R2.mpr z) ?_)))
                     exact (show μ.1 18 2 = _ from (xsh2 hS hok (show 5 < 6 by omega) z).1).trans (y.symm.trans (show μ.1 18 2 = _ from (xsh2 hS hok (show 5 < 6 by omega) f1).1).symm)
                   · exact Or.inr (Or.inl (xsh1 hok (by omega) n2 z)))]
                 exact ⟨rfl, hS, onlyX.rf⟩)
              | (have q : ¬ bR 18 μ := zB_eq0.mp h50
                 have n1 : ¬ hHeld S 5 = 0 := fun z => (show ¬ bE 18 μ from zB_eq0.mp h31) (E1.mpr z)
                 have n2 : ¬ hHeld S 5 = 0 := fun z => (show ¬ bE 18 μ from zB_eq0.mp h39) (E2.mpr z)
                 rw [opSh_b (by omega) (by omega) n1 n2 (Or.inl (xsh1 hok (by omega) n1 (fun z => q (R1.mpr z))))]
                 exact ⟨rfl, hS, onlyX.rf⟩)
              | (have q : bE 18 μ := zB_ne0.mp h39
                 rw [opSh_a (by omega) (by omega) (Or.inr (E2.mp q))]
                 exact ⟨rfl, hS, onlyX.rf⟩)
              | (have q : bE 18 μ := zB_ne0.mp h31
                 rw [opSh_a (by omega) (by omega) (Or.inl (E1.mp q))]
                 exact ⟨rfl, hS, onlyX.rf⟩)
          · refine zb X_shift_s80 rfl ?_
            refine zcallV X_shift_d86 k10_363 (by omega) (x_hasPlaces_5 _ _) rfl rfl rfl (Nat.le_of_ble_eq_true rfl) ?_
            rintro _ μx ⟨rfl, hx⟩
            rw [hx]
            clear hx μx
            refine z_ne X_shift_d89 (tgt := 95) rfl (fun h89 => ?_) (fun h89 => ?_)
            · have g1 := P1.mp (zB_ne0.mp h77)
              have g2 := P2.mp (zB_ne0.mp h89)
              have hall : 0 ≤ n ∧ 0 ≤ i ∧ 0 ≤ j ∧ i ≤ hSize S 5 - n ∧ j ≤ hSize S 5 - n := by
                exact ⟨g1.2.1, g1.1, g2.1, by rw [em]; exact g1.2.2, by rw [ew]; exact g2.2.2⟩
              rw [opSh_d (by omega) (by omega) f1 f2 hsrt hall]
              clear hall
              obtain ⟨N, hN, rfl⟩ := nI_of (Int32.not_lt.mpr g1.2.1)
              obtain ⟨x, hx, rfl⟩ := nI_of (Int32.not_lt.mpr g1.1)
              obtain ⟨y, hy, rfl⟩ := nI_of (Int32.not_lt.mpr g2.1)
              have k1 := (le_sub hx hm hN).mp g1.2.2
              have k2 := (le_sub hy hw hN).mp g2.2.2
              have cN : (nI N).toNatClampNeg = N := nI_clamp hN
              have cx : (nI x).toNatClampNeg = x := nI_clamp hx
              have cy : (nI y).toNatClampNeg = y := nI_clamp hy
              refine zb X_shift_s95 rfl ?_
              refine zcpL X_shift_d110 k10_366 (by omega) (Nat.le_of_ble_eq_true rfl) rfl rfl (nI_pos (by omega)) (nI_pos (by omega)) (nI_pos (by omega)) (by rw [cN, cx]; omega) (by rw [cN, cy]; omega) ?_
              refine zb X_shift_s113 rfl ?_
              refine z_ret X_shift_d115 rfl ?_
              first
                | (have f := fin_shift (s := 5) (p := 5) (a := x) (b := y) (N := N) hS (by omega) (by omega) (by omega)
                   rw [cN, cx, cy]
                   exact ⟨rfl, f.1, f.2⟩)
                | (have q : ¬ bP 18 j n μ := zB_eq0.mp h89
                   rw [opSh_c (by omega) (by omega) f1 f2 hsrt (fun z => q (P2.mpr (And.intro z.2.2.1 (And.intro z.1 (by rw [← ew]; exact z.2.2.2.2)))))]
                   exact ⟨rfl, hS, onlyX.rf⟩)
                | (have q : ¬ bP 18 i n μ := zB_eq0.mp h77
                   rw [opSh_c (by omega) (by omega) f1 f2 hsrt (fun z => q (P1.mpr (And.intro z.2.1 (And.intro z.1 (by rw [← em]; exact z.2.2.2.1)))))]
                   exact ⟨rfl, hS, onlyX.rf⟩)
                | (have q := zB_eq0.mp h63
                   have f1 : hHeld S 5 = 2 := R1.mp (zB_ne0.mp h50)
                   have n2 : ¬ hHeld S 5 = 0 := fun z => (show ¬ bE 18 μ from zB_eq0.mp h39) (E2.mpr z)
                   rw [opSh_b (by omega) (by omega) (by rw [f1]; decide) n2 (by
                     by_cases z : hHeld S 5 = 2
                     · refine Or.inr (Or.inr (fun y => q (And.intro (R2.mpr z) ?_)))
                       exact (show μ.1 18 2 = _ from (xsh2 hS hok (show 5 < 6 by omega) z).1).trans (y.symm.trans (show μ.1 18 2 = _ from (xsh2 hS hok (show 5 < 6 by omega) f1).1).symm)
                     · exact Or.inr (Or.inl (xsh1 hok (by omega) n2 z)))]
                   exact ⟨rfl, hS, onlyX.rf⟩)
                | (have q : ¬ bR 18 μ := zB_eq0.mp h50
                   have n1 : ¬ hHeld S 5 = 0 := fun z => (show ¬ bE 18 μ from zB_eq0.mp h31) (E1.mpr z)
                   have n2 : ¬ hHeld S 5 = 0 := fun z => (show ¬ bE 18 μ from zB_eq0.mp h39) (E2.mpr z)
                   rw [opSh_b (by omega) (by omega) n1 n2 (Or.inl (xsh1 hok (by omega) n1 (fun z => q (R1.mpr z))))]
                   exact ⟨rfl, hS, onlyX.rf⟩)
                | (have q : bE 18 μ := zB_ne0.mp h39
                   rw [opSh_a (by omega) (by omega) (Or.inr (E2.mp q))]
                   exact ⟨rfl, hS, onlyX.rf⟩)
                | (have q : bE 18 μ := zB_ne0.mp h31
                   rw [opSh_a (by omega) (by omega) (Or.inl (E1.mp q))]
                   exact ⟨rfl, hS, onlyX.rf⟩)
            · refine zb X_shift_s92 rfl ?_
              refine z_ret X_shift_d94 rfl ?_
              first
                | (have f := fin_shift (s := 5) (p := 5) (a := x) (b := y) (N := N) hS (by omega) (by omega) (by omega)
                   rw [cN, cx, cy]
                   exact ⟨rfl, f.1, f.2⟩)
                | (have q : ¬ bP 18 j n μ := zB_eq0.mp h89
                   rw [opSh_c (by omega) (by omega) f1 f2 hsrt (fun z => q (P2.mpr (And.intro z.2.2.1 (And.intro z.1 (by rw [← ew]; exact z.2.2.2.2)))))]
                   exact ⟨rfl, hS, onlyX.rf⟩)
                | (have q : ¬ bP 18 i n μ := zB_eq0.mp h77
                   rw [opSh_c (by omega) (by omega) f1 f2 hsrt (fun z => q (P1.mpr (And.intro z.2.1 (And.intro z.1 (by rw [← em]; exact z.2.2.2.1)))))]
                   exact ⟨rfl, hS, onlyX.rf⟩)
                | (have q := zB_eq0.mp h63
                   have f1 : hHeld S 5 = 2 := R1.mp (zB_ne0.mp h50)
                   have n2 : ¬ hHeld S 5 = 0 := fun z => (show ¬ bE 18 μ from zB_eq0.mp h39) (E2.mpr z)
                   rw [opSh_b (by omega) (by omega) (by rw [f1]; decide) n2 (by
                     by_cases z : hHeld S 5 = 2
                     · refine Or.inr (Or.inr (fun y => q (And.intro (R2.mpr z) ?_)))
                       exact (show μ.1 18 2 = _ from (xsh2 hS hok (show 5 < 6 by omega) z).1).trans (y.symm.trans (show μ.1 18 2 = _ from (xsh2 hS hok (show 5 < 6 by omega) f1).1).symm)
                     · exact Or.inr (Or.inl (xsh1 hok (by omega) n2 z)))]
                   exact ⟨rfl, hS, onlyX.rf⟩)
                | (have q : ¬ bR 18 μ := zB_eq0.mp h50
                   have n1 : ¬ hHeld S 5 = 0 := fun z => (show ¬ bE 18 μ from zB_eq0.mp h31) (E1.mpr z)
                   have n2 : ¬ hHeld S 5 = 0 := fun z => (show ¬ bE 18 μ from zB_eq0.mp h39) (E2.mpr z)
                   rw [opSh_b (by omega) (by omega) n1 n2 (Or.inl (xsh1 hok (by omega) n1 (fun z => q (R1.mpr z))))]
                   exact ⟨rfl, hS, onlyX.rf⟩)
                | (have q : bE 18 μ := zB_ne0.mp h39
                   rw [opSh_a (by omega) (by omega) (Or.inr (E2.mp q))]
                   exact ⟨rfl, hS, onlyX.rf⟩)
                | (have q : bE 18 μ := zB_ne0.mp h31
                   rw [opSh_a (by omega) (by omega) (Or.inl (E1.mp q))]
                   exact ⟨rfl, hS, onlyX.rf⟩)
        · refine zb X_shift_s66 rfl ?_
          refine z_ret X_shift_d68 rfl ?_
          first
            | (have f := fin_shift (s := 5) (p := 5) (a := x) (b := y) (N := N) hS (by omega) (by omega) (by omega)
               rw [cN, cx, cy]
               exact ⟨rfl, f.1, f.2⟩)
            | (have q : ¬ bP 18 j n μ := zB_eq0.mp h89
               rw [opSh_c (by omega) (by omega) f1 f2 hsrt (fun z => q (P2.mpr (And.intro z.2.2.1 (And.intro z.1 (by rw [← ew]; exact z.2.2.2.2)))))]
               exact ⟨rfl, hS, onlyX.rf⟩)
            | (have q : ¬ bP 18 i n μ := zB_eq0.mp h77
               rw [opSh_c (by omega) (by omega) f1 f2 hsrt (fun z => q (P1.mpr (And.intro z.2.1 (And.intro z.1 (by rw [← em]; exact z.2.2.2.1)))))]
               exact ⟨rfl, hS, onlyX.rf⟩)
            | (have q := zB_eq0.mp h63
               have f1 : hHeld S 5 = 2 := R1.mp (zB_ne0.mp h50)
               have n2 : ¬ hHeld S 5 = 0 := fun z => (show ¬ bE 18 μ from zB_eq0.mp h39) (E2.mpr z)
               rw [opSh_b (by omega) (by omega) (by rw [f1]; decide) n2 (by
                 by_cases z : hHeld S 5 = 2
                 · refine Or.inr (Or.inr (fun y => q (And.intro (R2.mpr z) ?_)))
                   exact (show μ.1 18 2 = _ from (xsh2 hS hok (show 5 < 6 by omega) z).1).trans (y.symm.trans (show μ.1 18 2 = _ from (xsh2 hS hok (show 5 < 6 by omega) f1).1).symm)
                 · exact Or.inr (Or.inl (xsh1 hok (by omega) n2 z)))]
               exact ⟨rfl, hS, onlyX.rf⟩)
            | (have q : ¬ bR 18 μ := zB_eq0.mp h50
               have n1 : ¬ hHeld S 5 = 0 := fun z => (show ¬ bE 18 μ from zB_eq0.mp h31) (E1.mpr z)
               have n2 : ¬ hHeld S 5 = 0 := fun z => (show ¬ bE 18 μ from zB_eq0.mp h39) (E2.mpr z)
               rw [opSh_b (by omega) (by omega) n1 n2 (Or.inl (xsh1 hok (by omega) n1 (fun z => q (R1.mpr z))))]
               exact ⟨rfl, hS, onlyX.rf⟩)
            | (have q : bE 18 μ := zB_ne0.mp h39
               rw [opSh_a (by omega) (by omega) (Or.inr (E2.mp q))]
               exact ⟨rfl, hS, onlyX.rf⟩)
            | (have q : bE 18 μ := zB_ne0.mp h31
               rw [opSh_a (by omega) (by omega) (Or.inl (E1.mp q))]
               exact ⟨rfl, hS, onlyX.rf⟩)
    · refine zb X_shift_s42 rfl ?_
      refine z_ret X_shift_d44 rfl ?_
      first
        | (have f := fin_shift (s := 5) (p := 5) (a := x) (b := y) (N := N) hS (by omega) (by omega) (by omega)
           rw [cN, cx, cy]
           exact ⟨rfl, f.1, f.2⟩)
        | (have q : ¬ bP 18 j n μ := zB_eq0.mp h89
           rw [opSh_c (by omega) (by omega) f1 f2 hsrt (fun z => q (P2.mpr (And.intro z.2.2.1 (And.intro z.1 (by rw [← ew]; exact z.2.2.2.2)))))]
           exact ⟨rfl, hS, onlyX.rf⟩)
        | (have q : ¬ bP 18 i n μ := zB_eq0.mp h77
           rw [opSh_c (by omega) (by omega) f1 f2 hsrt (fun z => q (P1.mpr (And.intro z.2.1 (And.intro z.1 (by rw [← em]; exact z.2.2.2.1)))))]
           exact ⟨rfl, hS, onlyX.rf⟩)
        | (have q := zB_eq0.mp h63
           have f1 : hHeld S 5 = 2 := R1.mp (zB_ne0.mp h50)
           have n2 : ¬ hHeld S 5 = 0 := fun z => (show ¬ bE 18 μ from zB_eq0.mp h39) (E2.mpr z)
           rw [opSh_b (by omega) (by omega) (by rw [f1]; decide) n2 (by
             by_cases z : hHeld S 5 = 2
             · refine Or.inr (Or.inr (fun y => q (And.intro (R2.mpr z) ?_)))
               exact (show μ.1 18 2 = _ from (xsh2 hS hok (show 5 < 6 by omega) z).1).trans (y.symm.trans (show μ.1 18 2 = _ from (xsh2 hS hok (show 5 < 6 by omega) f1).1).symm)
             · exact Or.inr (Or.inl (xsh1 hok (by omega) n2 z)))]
           exact ⟨rfl, hS, onlyX.rf⟩)
        | (have q : ¬ bR 18 μ := zB_eq0.mp h50
           have n1 : ¬ hHeld S 5 = 0 := fun z => (show ¬ bE 18 μ from zB_eq0.mp h31) (E1.mpr z)
           have n2 : ¬ hHeld S 5 = 0 := fun z => (show ¬ bE 18 μ from zB_eq0.mp h39) (E2.mpr z)
           rw [opSh_b (by omega) (by omega) n1 n2 (Or.inl (xsh1 hok (by omega) n1 (fun z => q (R1.mpr z))))]
           exact ⟨rfl, hS, onlyX.rf⟩)
        | (have q : bE 18 μ := zB_ne0.mp h39
           rw [opSh_a (by omega) (by omega) (Or.inr (E2.mp q))]
           exact ⟨rfl, hS, onlyX.rf⟩)
        | (have q : bE 18 μ := zB_ne0.mp h31
           rw [opSh_a (by omega) (by omega) (Or.inl (E1.mp q))]
           exact ⟨rfl, hS, onlyX.rf⟩)

set_option maxRecDepth 100000 in
set_option maxHeartbeats 4000000 in
theorem xs_shift_o1 {g : zG} {d : Nat} {S : zS} {μ : zMem} {s i p j n : Int32} (hd : 2 ≤ d) (hS : xS S μ) (hs : ¬ (0 ≤ s ∧ s ≤ 5)) (hp : 0 ≤ p ∧ p ≤ 5) : zM g d X_shift [.ref 1, .int s, .int i, .int p, .int j, .int n] μ (pO xS onlyX (opShift S s i p j n) μ) := by
  refine zM_of (by decide +kernel) rfl rfl (Nat.le_of_ble_eq_true rfl) rfl ?_
  refine zb X_shift_s0 rfl ?_
  refine zcallV X_shift_d2 k10_93 (by omega) (x_shelf_out (by omega) hs) rfl rfl rfl (Nat.le_of_ble_eq_true rfl) ?_
  rintro _ μx ⟨rfl, hx⟩
  rw [hx]
  clear hx μx
  refine zb X_shift_s5 rfl ?_
  have hp9 := hp
  refine zcallV X_shift_d9 k10_93 (by omega) (x_shelf_in (by omega) hp) rfl rfl rfl (Nat.le_of_ble_eq_true rfl) ?_
  rintro _ μx ⟨rfl, hx⟩
  rw [hx]
  clear hx μx
  refine zb X_shift_s12 rfl ?_
  refine z_nullN X_shift_d16 (tgt := 24) rfl ?_
  refine zb X_shift_s24 rfl ?_
  refine z_ret X_shift_d25 rfl ?_
  unfold opShift
  rw [if_pos (fun z => hs (g6 z.1))]
  exact ⟨rfl, hS, onlyX.rf⟩

set_option maxRecDepth 100000 in
set_option maxHeartbeats 4000000 in
theorem xs_shift_o2 {g : zG} {d : Nat} {S : zS} {μ : zMem} {s i p j n : Int32} (hd : 2 ≤ d) (hS : xS S μ) (hs : ¬ (0 ≤ s ∧ s ≤ 5)) (hp : ¬ (0 ≤ p ∧ p ≤ 5)) : zM g d X_shift [.ref 1, .int s, .int i, .int p, .int j, .int n] μ (pO xS onlyX (opShift S s i p j n) μ) := by
  refine zM_of (by decide +kernel) rfl rfl (Nat.le_of_ble_eq_true rfl) rfl ?_
  refine zb X_shift_s0 rfl ?_
  refine zcallV X_shift_d2 k10_93 (by omega) (x_shelf_out (by omega) hs) rfl rfl rfl (Nat.le_of_ble_eq_true rfl) ?_
  rintro _ μx ⟨rfl, hx⟩
  rw [hx]
  clear hx μx
  refine zb X_shift_s5 rfl ?_
  refine zcallV X_shift_d9 k10_93 (by omega) (x_shelf_out (by omega) hp) rfl rfl rfl (Nat.le_of_ble_eq_true rfl) ?_
  rintro _ μx ⟨rfl, hx⟩
  rw [hx]
  clear hx μx
  refine zb X_shift_s12 rfl ?_
  refine z_nullN X_shift_d16 (tgt := 24) rfl ?_
  refine zb X_shift_s24 rfl ?_
  refine z_ret X_shift_d25 rfl ?_
  unfold opShift
  rw [if_pos (fun z => hs (g6 z.1))]
  exact ⟨rfl, hS, onlyX.rf⟩

set_option maxRecDepth 100000 in
set_option maxHeartbeats 4000000 in
theorem xs_shift_o3 {g : zG} {d : Nat} {S : zS} {μ : zMem} {s i p j n : Int32} (hd : 2 ≤ d) (hS : xS S μ) (hs : 0 ≤ s ∧ s ≤ 5) (hp : ¬ (0 ≤ p ∧ p ≤ 5)) : zM g d X_shift [.ref 1, .int s, .int i, .int p, .int j, .int n] μ (pO xS onlyX (opShift S s i p j n) μ) := by
  refine zM_of (by decide +kernel) rfl rfl (Nat.le_of_ble_eq_true rfl) rfl ?_
  refine zb X_shift_s0 rfl ?_
  refine zcallV X_shift_d2 k10_93 (by omega) (x_shelf_in (by omega) hs) rfl rfl rfl (Nat.le_of_ble_eq_true rfl) ?_
  rintro _ μx ⟨rfl, hx⟩
  rw [hx]
  clear hx μx
  refine zb X_shift_s5 rfl ?_
  refine zcallV X_shift_d9 k10_93 (by omega) (x_shelf_out (by omega) hp) rfl rfl rfl (Nat.le_of_ble_eq_true rfl) ?_
  rintro _ μx ⟨rfl, hx⟩
  rw [hx]
  clear hx μx
  refine zb X_shift_s12 rfl ?_
  refine z_null X_shift_d16 ?_
  refine zb X_shift_s19 rfl ?_
  refine z_nonnullN X_shift_d21 ?_
  refine zb X_shift_s24 rfl ?_
  refine z_ret X_shift_d25 rfl ?_
  unfold opShift
  rw [if_pos (fun z => hp (g6 z.2))]
  exact ⟨rfl, hS, onlyX.rf⟩

theorem xs_shift {g : zG} {d : Nat} {S : zS} {μ : zMem} {s i p j n : Int32} (hd : 2 ≤ d) (hS : xS S μ) (hok : okH S) : zM g d X_shift [.ref 1, .int s, .int i, .int p, .int j, .int n] μ (pO xS onlyX (opShift S s i p j n) μ) := by
  by_cases hs : 0 ≤ s ∧ s ≤ 5
  · by_cases hp : 0 ≤ p ∧ p ≤ 5
    · rcases s5 hs with rfl | rfl | rfl | rfl | rfl | rfl
      · rcases s5 hp with rfl | rfl | rfl | rfl | rfl | rfl
        · exact xs_shift_0_0 (by omega) hS hok
        · exact xs_shift_0_1 (by omega) hS hok
        · exact xs_shift_0_2 (by omega) hS hok
        · exact xs_shift_0_3 (by omega) hS hok
        · exact xs_shift_0_4 (by omega) hS hok
        · exact xs_shift_0_5 (by omega) hS hok
      · rcases s5 hp with rfl | rfl | rfl | rfl | rfl | rfl
        · exact xs_shift_1_0 (by omega) hS hok
        · exact xs_shift_1_1 (by omega) hS hok
        · exact xs_shift_1_2 (by omega) hS hok
        · exact xs_shift_1_3 (by omega) hS hok
        · exact xs_shift_1_4 (by omega) hS hok
        · exact xs_shift_1_5 (by omega) hS hok
      · rcases s5 hp with rfl | rfl | rfl | rfl | rfl | rfl
        · exact xs_shift_2_0 (by omega) hS hok
        · exact xs_shift_2_1 (by omega) hS hok
        · exact xs_shift_2_2 (by omega) hS hok
        · exact xs_shift_2_3 (by omega) hS hok
        · exact xs_shift_2_4 (by omega) hS hok
        · exact xs_shift_2_5 (by omega) hS hok
      · rcases s5 hp with rfl | rfl | rfl | rfl | rfl | rfl
        · exact xs_shift_3_0 (by omega) hS hok
        · exact xs_shift_3_1 (by omega) hS hok
        · exact xs_shift_3_2 (by omega) hS hok
        · exact xs_shift_3_3 (by omega) hS hok
        · exact xs_shift_3_4 (by omega) hS hok
        · exact xs_shift_3_5 (by omega) hS hok
      · rcases s5 hp with rfl | rfl | rfl | rfl | rfl | rfl
        · exact xs_shift_4_0 (by omega) hS hok
        · exact xs_shift_4_1 (by omega) hS hok
        · exact xs_shift_4_2 (by omega) hS hok
        · exact xs_shift_4_3 (by omega) hS hok
        · exact xs_shift_4_4 (by omega) hS hok
        · exact xs_shift_4_5 (by omega) hS hok
      · rcases s5 hp with rfl | rfl | rfl | rfl | rfl | rfl
        · exact xs_shift_5_0 (by omega) hS hok
        · exact xs_shift_5_1 (by omega) hS hok
        · exact xs_shift_5_2 (by omega) hS hok
        · exact xs_shift_5_3 (by omega) hS hok
        · exact xs_shift_5_4 (by omega) hS hok
        · exact xs_shift_5_5 (by omega) hS hok
    · exact xs_shift_o3 (by omega) hS hs hp
  · by_cases hp : 0 ≤ p ∧ p ≤ 5
    · exact xs_shift_o1 (by omega) hS hs hp
    · exact xs_shift_o2 (by omega) hS hs hp
