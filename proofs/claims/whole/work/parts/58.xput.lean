/-! the class: rows laid, put, read -/
theorem bP1 {i : Int32} {m c : Nat} {μ : zMem} (hm : m ≤ 60) (e : μ.1 c 3 = nI m) : bP c i 1 μ ↔ (0 ≤ i ∧ i < nI m) := by
  unfold bP
  rw [e]
  constructor
  · rintro ⟨h0, -, h2, h3⟩
    obtain ⟨k, hk, rfl⟩ := nI_of (Int32.not_lt.mpr h0)
    have a := (le_sub (q := 1) (by omega) hm hk).mp h3
    exact ⟨h0, nI_lt (by omega) (by omega)⟩
  · rintro ⟨h0, h1⟩
    obtain ⟨k, hk, rfl, -⟩ := zix h0 h1 (by omega)
    exact ⟨h0, by decide, Int32.le_of_lt h1, (le_sub (q := 1) (by omega) hm (by omega)).mpr (by omega)⟩
theorem barR_x {S : zS} {s : Nat} (hs : s < 6) : barR S (nI s) = if hHeld S s = 0 then -11 else if hHeld S s = 1 then -12 else 0 := by
  have es : (nI s).toNatClampNeg = s := nI_clamp (by omega)
  unfold barR
  rw [if_neg (fun z => z (And.intro (Int32.not_lt.mp (nI_pos (by omega))) (nI_lt (b := 6) hs (by omega)))), es]
theorem x_ref {S : zS} {μ : zMem} {s : Nat} {i : Int32} (hS : xS S μ) (hok : okH S) (hs : s < 6) : (if bE (13 + s) μ then (-11 : Int32) else if ¬ bR (13 + s) μ then -12 else if bP (13 + s) i 1 μ then 0 else -13) = if ¬ barR S (nI s) = 0 then barR S (nI s) else if (0 ≤ i ∧ i < hSize S s) then 0 else -13 := by
  rcases xsh hS hok hs with ⟨a, b, c⟩ | ⟨a, b, c, -⟩ | ⟨a, b, c, e, f⟩
  · have hb : barR S (nI s) = -11 := by rw [barR_x hs, if_pos a]
    rw [if_pos b, hb, if_pos (by decide)]
  · have hb : barR S (nI s) = -12 := by rw [barR_x hs, if_neg (by rw [a]; decide), if_pos a]
    rw [if_neg b, if_pos c, hb, if_pos (by decide)]
  · have hb : barR S (nI s) = 0 := by rw [barR_x hs, if_neg (by rw [a]; decide), if_neg (by rw [a]; decide)]
    obtain ⟨-, ⟨m, hm, em⟩, -⟩ := hok.two hs a
    rw [if_neg b, if_neg (fun z => z c), hb, if_neg (show ¬ ¬ (0 : Int32) = 0 from fun z => z rfl), em]
    by_cases q : bP (13 + s) i 1 μ
    · rw [if_pos q, if_pos ((bP1 hm (f.trans em)).mp q)]
    · rw [if_neg q, if_neg (fun z => q ((bP1 hm (f.trans em)).mpr z))]

theorem fin_row {S : zS} {μ μ1 : zMem} {s : Nat} {p n : Int32} (hS : xS S μ) (hs : s < 6) (e : μ1.1 = (zpI (zpI (clr (13 + s) μ) (13 + s) 2 p) (13 + s) 3 n).1) (e2 : μ1.2.2 = μ.2.2) (e3 : ∀ c, ¬ c = 19 + s → μ1.2.1 c = μ.2.1 c) (e4 : ∀ k, k < 60 → μ1.2.1 (19 + s) k = 0) : xS (sH S (fu (hHeld S) s 2, fu (hSort S) s p, fu (hSize S) s n, hShown S, fun s' i => if s' = s then 0 else hCell S s' i)) μ1 ∧ onlyX μ μ1 := by
  refine hS.sh hs (fun c hc => ?_) e2 e3 (fun s' hs' hne q => ?_) ?_
  · rw [e, zpI_ne hc, zpI_ne hc]
    exact clr_o hc
  · unfold xH1 at q ⊢
    have f : ∀ (x : Int32) (w : Nat → Int32), fu w s x s' = w s' := fun x w => if_neg hne
    simp only [f, if_neg hne]
    exact q
  · refine ⟨Or.inr (Or.inr ⟨if_pos rfl, ?_, ?_, ?_⟩), fun i hi => ?_⟩
    · rw [e]
      unfold clr
      simp [zpI_at]
    · rw [e]
      show _ = fu (hSort S) s p s
      unfold clr fu
      simp [zpI_at]
    · rw [e]
      show _ = fu (hSize S) s n s
      unfold fu
      simp [zpI_at]
    · show _ = if s = s then 0 else hCell S s i
      rw [if_pos rfl]
      exact e4 i hi
theorem fin_put {S : zS} {μ : zMem} {s k : Nat} {x : Int64} (hS : xS S μ) (hs : s < 6) : xS (sH S (hHeld S, hSort S, hSize S, hShown S, fuL (hCell S) s k x)) (zpL μ (19 + s) k x) ∧ onlyX μ (zpL μ (19 + s) k x) := by
  refine hS.sh hs (fun c hc => rfl) rfl (fun c hc => zpL_ne hc) (fun s' hs' hne q => ?_) ?_
  · unfold xH1 at q ⊢
    refine ⟨q.1, fun i hi => ?_⟩
    show _ = fuL (hCell S) s k x s' i
    unfold fuL
    rw [if_neg (fun z => hne z.1)]
    exact q.2 i hi
  · have q := xH.one (h := zH S) hS.2.2.2.2.2.2.2 hs
    unfold xH1 at q ⊢
    refine ⟨q.1, fun i hi => ?_⟩
    show _ = fuL (hCell S) s k x s i
    rw [zpL_at]
    unfold fuL
    by_cases y : i = k
    · rw [if_pos y, if_pos ⟨rfl, y⟩]
    · rw [if_neg y, if_neg (fun z => y z.2)]
      exact q.2 i hi
theorem opRow_x {S : zS} {s : Nat} {p n : Int32} (hs : s < 6) (hp : 0 ≤ p ∧ p ≤ 4) (h60 : n ≤ 60) (h0 : ¬ n < 0) : opRow S (nI s) p n = (1, sH S (fu (hHeld S) s 2, fu (hSort S) s p, fu (hSize S) s n, hShown S, fun s' i => if s' = s then 0 else hCell S s' i)) := by
  have es : (nI s).toNatClampNeg = s := nI_clamp (by omega)
  unfold opRow
  rw [if_neg (fun z => z (And.intro (And.intro (Int32.not_lt.mp (nI_pos (by omega))) (nI_lt (b := 6) hs (by omega))) (And.intro hp h60))), if_neg h0, es]
theorem opPut_x {S : zS} {s : Nat} {i : Int32} {v : Int64} (hs : s < 6) (hb : barR S (nI s) = 0) (hi : 0 ≤ i ∧ i < hSize S s) : opPut S (nI s) i v = (1, sH S (hHeld S, hSort S, hSize S, hShown S, fuL (hCell S) s i.toNatClampNeg (narL (hSort S s) v))) := by
  have es : (nI s).toNatClampNeg = s := nI_clamp (by omega)
  unfold opPut
  rw [if_neg (fun z => z hb), es, if_neg (fun z => z hi)]

theorem opPut_bar {S : zS} {s i : Int32} {v : Int64} (h : ¬ barR S s = 0) : opPut S s i v = (barR S s, S) := if_pos h
theorem opPut_out {S : zS} {s : Nat} {i : Int32} {v : Int64} (hs : s < 6) (hb : barR S (nI s) = 0) (hi : ¬ (0 ≤ i ∧ i < hSize S s)) : opPut S (nI s) i v = (-13, S) := by
  have es : (nI s).toNatClampNeg = s := nI_clamp (by omega)
  unfold opPut
  rw [if_neg (fun z => z hb), es, if_pos hi]

set_option maxRecDepth 100000 in
set_option maxHeartbeats 4000000 in
theorem x_narrowed_0 {g : zG} {d : Nat} {μ : zMem} (v : Int64) (hd : 1 ≤ d) : zM g d S_narrowed [.ref 13, .long v] μ (fun r μ' => r = some (.long (narL (μ.1 13 2) v)) ∧ μ' = μ) := by
  refine zM_of (by decide +kernel) rfl rfl (Nat.le_of_ble_eq_true rfl) rfl ?_
  refine zb S_narrowed_s0 rfl ?_
  by_cases hs4_0 : μ.1 13 2 = 0
  · refine z_tabIn S_narrowed_d4 (off := 32) (tgt := 36) (by rw [hs4_0]; decide) (by rw [hs4_0]; decide) (by rw [hs4_0]; decide) rfl ?_
    refine zb S_narrowed_s36 rfl ?_
    refine z_retL S_narrowed_d40 rfl ?_
    refine ⟨congrArg (fun z => some (Value.long z)) ?_, rfl⟩
    unfold narL
    first
      | rw [if_pos hs4_0]
      | rw [if_neg hs4_0, if_pos hs4_1]
      | rw [if_neg hs4_0, if_neg hs4_1, if_pos hs4_2]
      | rw [if_neg hs4_0, if_neg hs4_1, if_neg hs4_2, if_pos hs4_3]
      | (rw [if_neg hs4_0, if_neg hs4_1, if_neg hs4_2, if_neg hs4_3, if_pos (show lg_cmp v 0 = 0 from h55)]; rfl)
      | (rw [if_neg hs4_0, if_neg hs4_1, if_neg hs4_2, if_neg hs4_3, if_neg (show ¬ lg_cmp v 0 = 0 from h55)]; rfl)
  · by_cases hs4_1 : μ.1 13 2 = 1
    · refine z_tabIn S_narrowed_d4 (off := 37) (tgt := 41) (by rw [hs4_1]; decide) (by rw [hs4_1]; decide) (by rw [hs4_1]; decide) rfl ?_
      refine zb S_narrowed_s41 rfl ?_
      refine z_retL S_narrowed_d45 rfl ?_
      refine ⟨congrArg (fun z => some (Value.long z)) ?_, rfl⟩
      unfold narL
      first
        | rw [if_pos hs4_0]
        | rw [if_neg hs4_0, if_pos hs4_1]
        | rw [if_neg hs4_0, if_neg hs4_1, if_pos hs4_2]
        | rw [if_neg hs4_0, if_neg hs4_1, if_neg hs4_2, if_pos hs4_3]
        | (rw [if_neg hs4_0, if_neg hs4_1, if_neg hs4_2, if_neg hs4_3, if_pos (show lg_cmp v 0 = 0 from h55)]; rfl)
        | (rw [if_neg hs4_0, if_neg hs4_1, if_neg hs4_2, if_neg hs4_3, if_neg (show ¬ lg_cmp v 0 = 0 from h55)]; rfl)
    · by_cases hs4_2 : μ.1 13 2 = 2
      · refine z_tabIn S_narrowed_d4 (off := 42) (tgt := 46) (by rw [hs4_2]; decide) (by rw [hs4_2]; decide) (by rw [hs4_2]; decide) rfl ?_
        refine zb S_narrowed_s46 rfl ?_
        refine z_retL S_narrowed_d49 rfl ?_
        refine ⟨congrArg (fun z => some (Value.long z)) ?_, rfl⟩
        unfold narL
        first
          | rw [if_pos hs4_0]
          | rw [if_neg hs4_0, if_pos hs4_1]
          | rw [if_neg hs4_0, if_neg hs4_1, if_pos hs4_2]
          | rw [if_neg hs4_0, if_neg hs4_1, if_neg hs4_2, if_pos hs4_3]
          | (rw [if_neg hs4_0, if_neg hs4_1, if_neg hs4_2, if_neg hs4_3, if_pos (show lg_cmp v 0 = 0 from h55)]; rfl)
          | (rw [if_neg hs4_0, if_neg hs4_1, if_neg hs4_2, if_neg hs4_3, if_neg (show ¬ lg_cmp v 0 = 0 from h55)]; rfl)
      · by_cases hs4_3 : μ.1 13 2 = 3
        · refine z_tabIn S_narrowed_d4 (off := 46) (tgt := 50) (by rw [hs4_3]; decide) (by rw [hs4_3]; decide) (by rw [hs4_3]; decide) rfl ?_
          refine zb S_narrowed_s50 rfl ?_
          refine z_retL S_narrowed_d51 rfl ?_
          refine ⟨congrArg (fun z => some (Value.long z)) ?_, rfl⟩
          unfold narL
          first
            | rw [if_pos hs4_0]
            | rw [if_neg hs4_0, if_pos hs4_1]
            | rw [if_neg hs4_0, if_neg hs4_1, if_pos hs4_2]
            | rw [if_neg hs4_0, if_neg hs4_1, if_neg hs4_2, if_pos hs4_3]
            | (rw [if_neg hs4_0, if_neg hs4_1, if_neg hs4_2, if_neg hs4_3, if_pos (show lg_cmp v 0 = 0 from h55)]; rfl)
            | (rw [if_neg hs4_0, if_neg hs4_1, if_neg hs4_2, if_neg hs4_3, if_neg (show ¬ lg_cmp v 0 = 0 from h55)]; rfl)
        · refine z_tabOut S_narrowed_d4 (tgt := 52) (zsw_out 4 (by decide) (fun k hk => by rcases (show k = 0 ∨ k = 1 ∨ k = 2 ∨ k = 3 by omega) with rfl | rfl | rfl | rfl <;> first | exact hs4_0 | exact hs4_1 | exact hs4_2 | exact hs4_3)) rfl ?_
          refine zb S_narrowed_s52 rfl ?_
          refine z_eq S_narrowed_d55 (tgt := 62) rfl (fun h55 => ?_) (fun h55 => ?_)
          · refine zb S_narrowed_s62 rfl ?_
            refine zcallN S_narrowed_d63 k8_49 (by omega) (x_bit _) rfl rfl (Nat.le_of_ble_eq_true rfl) ?_
            rintro _ μx ⟨rfl, hx⟩
            rw [hx]
            clear hx μx
            refine zb S_narrowed_s66 rfl ?_
            refine z_retL S_narrowed_d67 rfl ?_
            refine ⟨congrArg (fun z => some (Value.long z)) ?_, rfl⟩
            unfold narL
            first
              | rw [if_pos hs4_0]
              | rw [if_neg hs4_0, if_pos hs4_1]
              | rw [if_neg hs4_0, if_neg hs4_1, if_pos hs4_2]
              | rw [if_neg hs4_0, if_neg hs4_1, if_neg hs4_2, if_pos hs4_3]
              | (rw [if_neg hs4_0, if_neg hs4_1, if_neg hs4_2, if_neg hs4_3, if_pos (show lg_cmp v 0 = 0 from h55)]; rfl)
              | (rw [if_neg hs4_0, if_neg hs4_1, if_neg hs4_2, if_neg hs4_3, if_neg (show ¬ lg_cmp v 0 = 0 from h55)]; rfl)
          · refine zb S_narrowed_s58 rfl ?_
            refine zcallN S_narrowed_d63 k8_49 (by omega) (x_bit _) rfl rfl (Nat.le_of_ble_eq_true rfl) ?_
            rintro _ μx ⟨rfl, hx⟩
            rw [hx]
            clear hx μx
            refine zb S_narrowed_s66 rfl ?_
            refine z_retL S_narrowed_d67 rfl ?_
            refine ⟨congrArg (fun z => some (Value.long z)) ?_, rfl⟩
            unfold narL
            first
              | rw [if_pos hs4_0]
              | rw [if_neg hs4_0, if_pos hs4_1]
              | rw [if_neg hs4_0, if_neg hs4_1, if_pos hs4_2]
              | rw [if_neg hs4_0, if_neg hs4_1, if_neg hs4_2, if_pos hs4_3]
              | (rw [if_neg hs4_0, if_neg hs4_1, if_neg hs4_2, if_neg hs4_3, if_pos (show lg_cmp v 0 = 0 from h55)]; rfl)
              | (rw [if_neg hs4_0, if_neg hs4_1, if_neg hs4_2, if_neg hs4_3, if_neg (show ¬ lg_cmp v 0 = 0 from h55)]; rfl)

set_option maxRecDepth 100000 in
set_option maxHeartbeats 4000000 in
theorem xs_row_0 {g : zG} {d : Nat} {S : zS} {μ : zMem} {p n : Int32} (hd : 2 ≤ d) (hS : xS S μ) : zM g d X_row [.ref 1, .int (nI 0), .int p, .int n] μ (pO xS onlyX (opRow S (nI 0) p n) μ) := by
  refine zM_of (by decide +kernel) rfl rfl (Nat.le_of_ble_eq_true rfl) rfl ?_
  obtain ⟨ho, h2, hT, hC, hD, hI, hA, hH⟩ := hS
  have hS : xS S μ := ⟨ho, h2, hT, hC, hD, hI, hA, hH⟩
  have hb := ho.b
  have hv := ho.v
  have hB6 := ho.b6
  have hV12 := ho.v12
  have hz : zq sX μ μ := zq.rf
  refine zb X_row_s0 rfl ?_
  refine zcallV X_row_d2 k10_93 (by omega) (x_shelf_0 (by omega)) rfl rfl rfl (Nat.le_of_ble_eq_true rfl) ?_
  rintro _ μx ⟨rfl, hx⟩
  rw [hx]
  clear hx μx
  refine zb X_row_s5 rfl ?_
  refine z_null X_row_d9 ?_
  refine zb X_row_s12 rfl ?_
  refine zcallS X_row_d14 k10_170 (by omega) (x_isWithin _ _) rfl rfl (Nat.le_of_ble_eq_true rfl) ?_
  rintro _ μx ⟨rfl, hx⟩
  rw [hx]
  clear hx μx
  refine z_eq X_row_d17 (tgt := 26) rfl (fun h17 => ?_) (fun h17 => ?_)
  · refine zb X_row_s26 rfl ?_
    refine z_ret X_row_d27 rfl ?_
    first
      | (have f := fin_row (s := 0) hS (by omega) a1 a2 a3 a4
         rw [opRow_x (by omega) (zB_ne0.mp h17) h23 (Int32.not_lt.mpr h29)]
         exact ⟨rfl, f.1, f.2⟩)
      | (unfold opRow
         first
           | (rw [if_neg (fun z => z (And.intro (And.intro (by decide) (by decide)) (And.intro (zB_ne0.mp h17) h23))), if_pos (Int32.not_le.mp h29)]; exact ⟨rfl, hS, onlyX.rf⟩)
           | (rw [if_pos (fun z => h23 z.2.2)]; exact ⟨rfl, hS, onlyX.rf⟩)
           | (rw [if_pos (fun z => (zB_eq0.mp h17) z.2.1)]; exact ⟨rfl, hS, onlyX.rf⟩))
  · refine zb X_row_s20 rfl ?_
    refine z_cle X_row_d23 (tgt := 28) rfl (fun h23 => ?_) (fun h23 => ?_)
    · refine zb X_row_s28 rfl ?_
      refine z_ge X_row_d29 (tgt := 35) rfl (fun h29 => ?_) (fun h29 => ?_)
      · refine zb X_row_s35 rfl ?_
        refine zcallV X_row_d39 k10_339 (by omega) (x_lay_0 _ _ (by omega)) rfl rfl rfl (Nat.le_of_ble_eq_true rfl) ?_
        rintro _ μ1 ⟨rfl, a1, a2, a3, a4⟩
        refine zb X_row_s42 rfl ?_
        refine z_ret X_row_d43 rfl ?_
        first
          | (have f := fin_row (s := 0) hS (by omega) a1 a2 a3 a4
             rw [opRow_x (by omega) (zB_ne0.mp h17) h23 (Int32.not_lt.mpr h29)]
             exact ⟨rfl, f.1, f.2⟩)
          | (unfold opRow
             first
               | (rw [if_neg (fun z => z (And.intro (And.intro (by decide) (by decide)) (And.intro (zB_ne0.mp h17) h23))), if_pos (Int32.not_le.mp h29)]; exact ⟨rfl, hS, onlyX.rf⟩)
               | (rw [if_pos (fun z => h23 z.2.2)]; exact ⟨rfl, hS, onlyX.rf⟩)
               | (rw [if_pos (fun z => (zB_eq0.mp h17) z.2.1)]; exact ⟨rfl, hS, onlyX.rf⟩))
      · refine zb X_row_s32 rfl ?_
        refine z_ret X_row_d34 rfl ?_
        first
          | (have f := fin_row (s := 0) hS (by omega) a1 a2 a3 a4
             rw [opRow_x (by omega) (zB_ne0.mp h17) h23 (Int32.not_lt.mpr h29)]
             exact ⟨rfl, f.1, f.2⟩)
          | (unfold opRow
             first
               | (rw [if_neg (fun z => z (And.intro (And.intro (by decide) (by decide)) (And.intro (zB_ne0.mp h17) h23))), if_pos (Int32.not_le.mp h29)]; exact ⟨rfl, hS, onlyX.rf⟩)
               | (rw [if_pos (fun z => h23 z.2.2)]; exact ⟨rfl, hS, onlyX.rf⟩)
               | (rw [if_pos (fun z => (zB_eq0.mp h17) z.2.1)]; exact ⟨rfl, hS, onlyX.rf⟩))
    · refine zb X_row_s26 rfl ?_
      refine z_ret X_row_d27 rfl ?_
      first
        | (have f := fin_row (s := 0) hS (by omega) a1 a2 a3 a4
           rw [opRow_x (by omega) (zB_ne0.mp h17) h23 (Int32.not_lt.mpr h29)]
           exact ⟨rfl, f.1, f.2⟩)
        | (unfold opRow
           first
             | (rw [if_neg (fun z => z (And.intro (And.intro (by decide) (by decide)) (And.intro (zB_ne0.mp h17) h23))), if_pos (Int32.not_le.mp h29)]; exact ⟨rfl, hS, onlyX.rf⟩)
             | (rw [if_pos (fun z => h23 z.2.2)]; exact ⟨rfl, hS, onlyX.rf⟩)
             | (rw [if_pos (fun z => (zB_eq0.mp h17) z.2.1)]; exact ⟨rfl, hS, onlyX.rf⟩))

set_option maxRecDepth 100000 in
set_option maxHeartbeats 4000000 in
theorem xs_put_0 {g : zG} {d : Nat} {S : zS} {μ : zMem} {i : Int32} {v : Int64} (hd : 3 ≤ d) (hS : xS S μ) (hok : okH S) : zM g d X_put [.ref 1, .int (nI 0), .int i, .long v] μ (pO xS onlyX (opPut S (nI 0) i v) μ) := by
  refine zM_of (by decide +kernel) rfl rfl (Nat.le_of_ble_eq_true rfl) rfl ?_
  obtain ⟨ho, h2, hT, hC, hD, hI, hA, hH⟩ := hS
  have hS : xS S μ := ⟨ho, h2, hT, hC, hD, hI, hA, hH⟩
  have hb := ho.b
  have hv := ho.v
  have hB6 := ho.b6
  have hV12 := ho.v12
  have hz : zq sX μ μ := zq.rf
  refine zb X_put_s0 rfl ?_
  refine zcallV X_put_d2 k10_93 (by omega) (x_shelf_0 (by omega)) rfl rfl rfl (Nat.le_of_ble_eq_true rfl) ?_
  rintro _ μx ⟨rfl, hx⟩
  rw [hx]
  clear hx μx
  refine zb X_put_s5 rfl ?_
  refine z_nonnull X_put_d9 (tgt := 14) rfl ?_
  refine zb X_put_s14 rfl ?_
  refine zcallV X_put_d17 k10_342 (by omega) (x_refAt_0 _ (by omega)) rfl rfl rfl (Nat.le_of_ble_eq_true rfl) ?_
  rintro _ μx ⟨rfl, hx⟩
  rw [hx]
  clear hx μx
  have hrf := x_ref (s := 0) (i := i) hS hok (by omega)
  replace hrf : (if bE 13 μ then (-11 : Int32) else if ¬ bR 13 μ then -12 else if bP 13 i 1 μ then 0 else -13) = _ := hrf
  rw [hrf]
  refine zb X_put_s20 rfl ?_
  refine z_eq X_put_d24 (tgt := 30) rfl (fun h24 => ?_) (fun h24 => ?_)
  · have hb : barR S (nI 0) = 0 := Decidable.of_not_not (fun z => by
      rw [if_pos z] at h24
      exact z h24)
    rw [if_neg (fun z => z hb)] at h24
    have hi : 0 ≤ i ∧ i < hSize S 0 := Decidable.of_not_not (fun z => by
      rw [if_neg z] at h24
      exact absurd h24 (by decide))
    obtain ⟨q9, m, hs6, e9, -, hh, hm, em⟩ := barR_0 hb hok
    have e9' : 0 = q9 := (nI_eq (by omega) (by omega)).mp e9
    subst e9'
    have hi' := hi
    rw [em] at hi'
    obtain ⟨k, hk, rfl, ek⟩ := zix hi'.1 hi'.2 (by omega)
    have hvk : vp_in (nI k) 60 := vp_in_nI (by omega) (by omega)
    have xs := xsh (s := 0) hS hok (by omega)
    refine zb X_put_s30 rfl ?_
    refine zcallV X_put_d39 k10_349 (by omega) (x_narrowed_0 _ (by omega)) rfl rfl rfl (Nat.le_of_ble_eq_true rfl) ?_
    rintro _ μx ⟨rfl, hx⟩
    rw [hx]
    clear hx μx
    refine zb1 X_put_s42 rfl hvk ?_
    refine z_ret X_put_d44 rfl ?_
    first
      | (have es : μ.1 13 2 = hSort S 0 := by
           rcases xs with z | z | z
           · exact absurd (hh.symm.trans z.1) (by decide)
           · exact absurd (hh.symm.trans z.1) (by decide)
           · exact z.2.2.2.1
         rw [opPut_x (by omega) hb hi, es]
         have f := fin_put (s := 0) (k := (nI k).toNatClampNeg) (x := narL (hSort S 0) v) hS (by omega)
         exact ⟨rfl, f.1, f.2⟩)
      | (by_cases z : barR S (nI 0) = 0
         · have y : ¬ (0 ≤ i ∧ i < hSize S 0) := fun y => h24 (by rw [if_neg (fun w => w z), if_pos y])
           rw [opPut_out (by omega) z y]
           refine ⟨?_, hS, onlyX.rf⟩
           rw [if_neg (fun w => w z), if_neg y]
         · rw [opPut_bar z]
           refine ⟨?_, hS, onlyX.rf⟩
           rw [if_pos z])
  · refine zb X_put_s27 rfl ?_
    refine z_ret X_put_d29 rfl ?_
    first
      | (have es : μ.1 13 2 = hSort S 0 := by
           rcases xs with z | z | z
           · exact absurd (hh.symm.trans z.1) (by decide)
           · exact absurd (hh.symm.trans z.1) (by decide)
           · exact z.2.2.2.1
         rw [opPut_x (by omega) hb hi, es]
         have f := fin_put (s := 0) (k := (nI k).toNatClampNeg) (x := narL (hSort S 0) v) hS (by omega)
         exact ⟨rfl, f.1, f.2⟩)
      | (by_cases z : barR S (nI 0) = 0
         · have y : ¬ (0 ≤ i ∧ i < hSize S 0) := fun y => h24 (by rw [if_neg (fun w => w z), if_pos y])
           rw [opPut_out (by omega) z y]
           refine ⟨?_, hS, onlyX.rf⟩
           rw [if_neg (fun w => w z), if_neg y]
         · rw [opPut_bar z]
           refine ⟨?_, hS, onlyX.rf⟩
           rw [if_pos z])

set_option maxRecDepth 100000 in
set_option maxHeartbeats 4000000 in
theorem x_narrowed_1 {g : zG} {d : Nat} {μ : zMem} (v : Int64) (hd : 1 ≤ d) : zM g d S_narrowed [.ref 14, .long v] μ (fun r μ' => r = some (.long (narL (μ.1 14 2) v)) ∧ μ' = μ) := by
  refine zM_of (by decide +kernel) rfl rfl (Nat.le_of_ble_eq_true rfl) rfl ?_
  refine zb S_narrowed_s0 rfl ?_
  by_cases hs4_0 : μ.1 14 2 = 0
  · refine z_tabIn S_narrowed_d4 (off := 32) (tgt := 36) (by rw [hs4_0]; decide) (by rw [hs4_0]; decide) (by rw [hs4_0]; decide) rfl ?_
    refine zb S_narrowed_s36 rfl ?_
    refine z_retL S_narrowed_d40 rfl ?_
    refine ⟨congrArg (fun z => some (Value.long z)) ?_, rfl⟩
    unfold narL
    first
      | rw [if_pos hs4_0]
      | rw [if_neg hs4_0, if_pos hs4_1]
      | rw [if_neg hs4_0, if_neg hs4_1, if_pos hs4_2]
      | rw [if_neg hs4_0, if_neg hs4_1, if_neg hs4_2, if_pos hs4_3]
      | (rw [if_neg hs4_0, if_neg hs4_1, if_neg hs4_2, if_neg hs4_3, if_pos (show lg_cmp v 0 = 0 from h55)]; rfl)
      | (rw [if_neg hs4_0, if_neg hs4_1, if_neg hs4_2, if_neg hs4_3, if_neg (show ¬ lg_cmp v 0 = 0 from h55)]; rfl)
  · by_cases hs4_1 : μ.1 14 2 = 1
    · refine z_tabIn S_narrowed_d4 (off := 37) (tgt := 41) (by rw [hs4_1]; decide) (by rw [hs4_1]; decide) (by rw [hs4_1]; decide) rfl ?_
      refine zb S_narrowed_s41 rfl ?_
      refine z_retL S_narrowed_d45 rfl ?_
      refine ⟨congrArg (fun z => some (Value.long z)) ?_, rfl⟩
      unfold narL
      first
        | rw [if_pos hs4_0]
        | rw [if_neg hs4_0, if_pos hs4_1]
        | rw [if_neg hs4_0, if_neg hs4_1, if_pos hs4_2]
        | rw [if_neg hs4_0, if_neg hs4_1, if_neg hs4_2, if_pos hs4_3]
        | (rw [if_neg hs4_0, if_neg hs4_1, if_neg hs4_2, if_neg hs4_3, if_pos (show lg_cmp v 0 = 0 from h55)]; rfl)
        | (rw [if_neg hs4_0, if_neg hs4_1, if_neg hs4_2, if_neg hs4_3, if_neg (show ¬ lg_cmp v 0 = 0 from h55)]; rfl)
    · by_cases hs4_2 : μ.1 14 2 = 2
      · refine z_tabIn S_narrowed_d4 (off := 42) (tgt := 46) (by rw [hs4_2]; decide) (by rw [hs4_2]; decide) (by rw [hs4_2]; decide) rfl ?_
        refine zb S_narrowed_s46 rfl ?_
        refine z_retL S_narrowed_d49 rfl ?_
        refine ⟨congrArg (fun z => some (Value.long z)) ?_, rfl⟩
        unfold narL
        first
          | rw [if_pos hs4_0]
          | rw [if_neg hs4_0, if_pos hs4_1]
          | rw [if_neg hs4_0, if_neg hs4_1, if_pos hs4_2]
          | rw [if_neg hs4_0, if_neg hs4_1, if_neg hs4_2, if_pos hs4_3]
          | (rw [if_neg hs4_0, if_neg hs4_1, if_neg hs4_2, if_neg hs4_3, if_pos (show lg_cmp v 0 = 0 from h55)]; rfl)
          | (rw [if_neg hs4_0, if_neg hs4_1, if_neg hs4_2, if_neg hs4_3, if_neg (show ¬ lg_cmp v 0 = 0 from h55)]; rfl)
      · by_cases hs4_3 : μ.1 14 2 = 3
        · refine z_tabIn S_narrowed_d4 (off := 46) (tgt := 50) (by rw [hs4_3]; decide) (by rw [hs4_3]; decide) (by rw [hs4_3]; decide) rfl ?_
          refine zb S_narrowed_s50 rfl ?_
          refine z_retL S_narrowed_d51 rfl ?_
          refine ⟨congrArg (fun z => some (Value.long z)) ?_, rfl⟩
          unfold narL
          first
            | rw [if_pos hs4_0]
            | rw [if_neg hs4_0, if_pos hs4_1]
            | rw [if_neg hs4_0, if_neg hs4_1, if_pos hs4_2]
            | rw [if_neg hs4_0, if_neg hs4_1, if_neg hs4_2, if_pos hs4_3]
            | (rw [if_neg hs4_0, if_neg hs4_1, if_neg hs4_2, if_neg hs4_3, if_pos (show lg_cmp v 0 = 0 from h55)]; rfl)
            | (rw [if_neg hs4_0, if_neg hs4_1, if_neg hs4_2, if_neg hs4_3, if_neg (show ¬ lg_cmp v 0 = 0 from h55)]; rfl)
        · refine z_tabOut S_narrowed_d4 (tgt := 52) (zsw_out 4 (by decide) (fun k hk => by rcases (show k = 0 ∨ k = 1 ∨ k = 2 ∨ k = 3 by omega) with rfl | rfl | rfl | rfl <;> first | exact hs4_0 | exact hs4_1 | exact hs4_2 | exact hs4_3)) rfl ?_
          refine zb S_narrowed_s52 rfl ?_
          refine z_eq S_narrowed_d55 (tgt := 62) rfl (fun h55 => ?_) (fun h55 => ?_)
          · refine zb S_narrowed_s62 rfl ?_
            refine zcallN S_narrowed_d63 k8_49 (by omega) (x_bit _) rfl rfl (Nat.le_of_ble_eq_true rfl) ?_
            rintro _ μx ⟨rfl, hx⟩
            rw [hx]
            clear hx μx
            refine zb S_narrowed_s66 rfl ?_
            refine z_retL S_narrowed_d67 rfl ?_
            refine ⟨congrArg (fun z => some (Value.long z)) ?_, rfl⟩
            unfold narL
            first
              | rw [if_pos hs4_0]
              | rw [if_neg hs4_0, if_pos hs4_1]
              | rw [if_neg hs4_0, if_neg hs4_1, if_pos hs4_2]
              | rw [if_neg hs4_0, if_neg hs4_1, if_neg hs4_2, if_pos hs4_3]
              | (rw [if_neg hs4_0, if_neg hs4_1, if_neg hs4_2, if_neg hs4_3, if_pos (show lg_cmp v 0 = 0 from h55)]; rfl)
              | (rw [if_neg hs4_0, if_neg hs4_1, if_neg hs4_2, if_neg hs4_3, if_neg (show ¬ lg_cmp v 0 = 0 from h55)]; rfl)
          · refine zb S_narrowed_s58 rfl ?_
            refine zcallN S_narrowed_d63 k8_49 (by omega) (x_bit _) rfl rfl (Nat.le_of_ble_eq_true rfl) ?_
            rintro _ μx ⟨rfl, hx⟩
            rw [hx]
            clear hx μx
            refine zb S_narrowed_s66 rfl ?_
            refine z_retL S_narrowed_d67 rfl ?_
            refine ⟨congrArg (fun z => some (Value.long z)) ?_, rfl⟩
            unfold narL
            first
              | rw [if_pos hs4_0]
              | rw [if_neg hs4_0, if_pos hs4_1]
              | rw [if_neg hs4_0, if_neg hs4_1, if_pos hs4_2]
              | rw [if_neg hs4_0, if_neg hs4_1, if_neg hs4_2, if_pos hs4_3]
              | (rw [if_neg hs4_0, if_neg hs4_1, if_neg hs4_2, if_neg hs4_3, if_pos (show lg_cmp v 0 = 0 from h55)]; rfl)
              | (rw [if_neg hs4_0, if_neg hs4_1, if_neg hs4_2, if_neg hs4_3, if_neg (show ¬ lg_cmp v 0 = 0 from h55)]; rfl)

set_option maxRecDepth 100000 in
set_option maxHeartbeats 4000000 in
theorem xs_row_1 {g : zG} {d : Nat} {S : zS} {μ : zMem} {p n : Int32} (hd : 2 ≤ d) (hS : xS S μ) : zM g d X_row [.ref 1, .int (nI 1), .int p, .int n] μ (pO xS onlyX (opRow S (nI 1) p n) μ) := by
  refine zM_of (by decide +kernel) rfl rfl (Nat.le_of_ble_eq_true rfl) rfl ?_
  obtain ⟨ho, h2, hT, hC, hD, hI, hA, hH⟩ := hS
  have hS : xS S μ := ⟨ho, h2, hT, hC, hD, hI, hA, hH⟩
  have hb := ho.b
  have hv := ho.v
  have hB6 := ho.b6
  have hV12 := ho.v12
  have hz : zq sX μ μ := zq.rf
  refine zb X_row_s0 rfl ?_
  refine zcallV X_row_d2 k10_93 (by omega) (x_shelf_1 (by omega)) rfl rfl rfl (Nat.le_of_ble_eq_true rfl) ?_
  rintro _ μx ⟨rfl, hx⟩
  rw [hx]
  clear hx μx
  refine zb X_row_s5 rfl ?_
  refine z_null X_row_d9 ?_
  refine zb X_row_s12 rfl ?_
  refine zcallS X_row_d14 k10_170 (by omega) (x_isWithin _ _) rfl rfl (Nat.le_of_ble_eq_true rfl) ?_
  rintro _ μx ⟨rfl, hx⟩
  rw [hx]
  clear hx μx
  refine z_eq X_row_d17 (tgt := 26) rfl (fun h17 => ?_) (fun h17 => ?_)
  · refine zb X_row_s26 rfl ?_
    refine z_ret X_row_d27 rfl ?_
    first
      | (have f := fin_row (s := 1) hS (by omega) a1 a2 a3 a4
         rw [opRow_x (by omega) (zB_ne0.mp h17) h23 (Int32.not_lt.mpr h29)]
         exact ⟨rfl, f.1, f.2⟩)
      | (unfold opRow
         first
           | (rw [if_neg (fun z => z (And.intro (And.intro (by decide) (by decide)) (And.intro (zB_ne0.mp h17) h23))), if_pos (Int32.not_le.mp h29)]; exact ⟨rfl, hS, onlyX.rf⟩)
           | (rw [if_pos (fun z => h23 z.2.2)]; exact ⟨rfl, hS, onlyX.rf⟩)
           | (rw [if_pos (fun z => (zB_eq0.mp h17) z.2.1)]; exact ⟨rfl, hS, onlyX.rf⟩))
  · refine zb X_row_s20 rfl ?_
    refine z_cle X_row_d23 (tgt := 28) rfl (fun h23 => ?_) (fun h23 => ?_)
    · refine zb X_row_s28 rfl ?_
      refine z_ge X_row_d29 (tgt := 35) rfl (fun h29 => ?_) (fun h29 => ?_)
      · refine zb X_row_s35 rfl ?_
        refine zcallV X_row_d39 k10_339 (by omega) (x_lay_1 _ _ (by omega)) rfl rfl rfl (Nat.le_of_ble_eq_true rfl) ?_
        rintro _ μ1 ⟨rfl, a1, a2, a3, a4⟩
        refine zb X_row_s42 rfl ?_
        refine z_ret X_row_d43 rfl ?_
        first
          | (have f := fin_row (s := 1) hS (by omega) a1 a2 a3 a4
             rw [opRow_x (by omega) (zB_ne0.mp h17) h23 (Int32.not_lt.mpr h29)]
             exact ⟨rfl, f.1, f.2⟩)
          | (unfold opRow
             first
               | (rw [if_neg (fun z => z (And.intro (And.intro (by decide) (by decide)) (And.intro (zB_ne0.mp h17) h23))), if_pos (Int32.not_le.mp h29)]; exact ⟨rfl, hS, onlyX.rf⟩)
               | (rw [if_pos (fun z => h23 z.2.2)]; exact ⟨rfl, hS, onlyX.rf⟩)
               | (rw [if_pos (fun z => (zB_eq0.mp h17) z.2.1)]; exact ⟨rfl, hS, onlyX.rf⟩))
      · refine zb X_row_s32 rfl ?_
        refine z_ret X_row_d34 rfl ?_
        first
          | (have f := fin_row (s := 1) hS (by omega) a1 a2 a3 a4
             rw [opRow_x (by omega) (zB_ne0.mp h17) h23 (Int32.not_lt.mpr h29)]
             exact ⟨rfl, f.1, f.2⟩)
          | (unfold opRow
             first
               | (rw [if_neg (fun z => z (And.intro (And.intro (by decide) (by decide)) (And.intro (zB_ne0.mp h17) h23))), if_pos (Int32.not_le.mp h29)]; exact ⟨rfl, hS, onlyX.rf⟩)
               | (rw [if_pos (fun z => h23 z.2.2)]; exact ⟨rfl, hS, onlyX.rf⟩)
               | (rw [if_pos (fun z => (zB_eq0.mp h17) z.2.1)]; exact ⟨rfl, hS, onlyX.rf⟩))
    · refine zb X_row_s26 rfl ?_
      refine z_ret X_row_d27 rfl ?_
      first
        | (have f := fin_row (s := 1) hS (by omega) a1 a2 a3 a4
           rw [opRow_x (by omega) (zB_ne0.mp h17) h23 (Int32.not_lt.mpr h29)]
           exact ⟨rfl, f.1, f.2⟩)
        | (unfold opRow
           first
             | (rw [if_neg (fun z => z (And.intro (And.intro (by decide) (by decide)) (And.intro (zB_ne0.mp h17) h23))), if_pos (Int32.not_le.mp h29)]; exact ⟨rfl, hS, onlyX.rf⟩)
             | (rw [if_pos (fun z => h23 z.2.2)]; exact ⟨rfl, hS, onlyX.rf⟩)
             | (rw [if_pos (fun z => (zB_eq0.mp h17) z.2.1)]; exact ⟨rfl, hS, onlyX.rf⟩))

set_option maxRecDepth 100000 in
set_option maxHeartbeats 4000000 in
theorem xs_put_1 {g : zG} {d : Nat} {S : zS} {μ : zMem} {i : Int32} {v : Int64} (hd : 3 ≤ d) (hS : xS S μ) (hok : okH S) : zM g d X_put [.ref 1, .int (nI 1), .int i, .long v] μ (pO xS onlyX (opPut S (nI 1) i v) μ) := by
  refine zM_of (by decide +kernel) rfl rfl (Nat.le_of_ble_eq_true rfl) rfl ?_
  obtain ⟨ho, h2, hT, hC, hD, hI, hA, hH⟩ := hS
  have hS : xS S μ := ⟨ho, h2, hT, hC, hD, hI, hA, hH⟩
  have hb := ho.b
  have hv := ho.v
  have hB6 := ho.b6
  have hV12 := ho.v12
  have hz : zq sX μ μ := zq.rf
  refine zb X_put_s0 rfl ?_
  refine zcallV X_put_d2 k10_93 (by omega) (x_shelf_1 (by omega)) rfl rfl rfl (Nat.le_of_ble_eq_true rfl) ?_
  rintro _ μx ⟨rfl, hx⟩
  rw [hx]
  clear hx μx
  refine zb X_put_s5 rfl ?_
  refine z_nonnull X_put_d9 (tgt := 14) rfl ?_
  refine zb X_put_s14 rfl ?_
  refine zcallV X_put_d17 k10_342 (by omega) (x_refAt_1 _ (by omega)) rfl rfl rfl (Nat.le_of_ble_eq_true rfl) ?_
  rintro _ μx ⟨rfl, hx⟩
  rw [hx]
  clear hx μx
  have hrf := x_ref (s := 1) (i := i) hS hok (by omega)
  replace hrf : (if bE 14 μ then (-11 : Int32) else if ¬ bR 14 μ then -12 else if bP 14 i 1 μ then 0 else -13) = _ := hrf
  rw [hrf]
  refine zb X_put_s20 rfl ?_
  refine z_eq X_put_d24 (tgt := 30) rfl (fun h24 => ?_) (fun h24 => ?_)
  · have hb : barR S (nI 1) = 0 := Decidable.of_not_not (fun z => by
      rw [if_pos z] at h24
      exact z h24)
    rw [if_neg (fun z => z hb)] at h24
    have hi : 0 ≤ i ∧ i < hSize S 1 := Decidable.of_not_not (fun z => by
      rw [if_neg z] at h24
      exact absurd h24 (by decide))
    obtain ⟨q9, m, hs6, e9, -, hh, hm, em⟩ := barR_0 hb hok
    have e9' : 1 = q9 := (nI_eq (by omega) (by omega)).mp e9
    subst e9'
    have hi' := hi
    rw [em] at hi'
    obtain ⟨k, hk, rfl, ek⟩ := zix hi'.1 hi'.2 (by omega)
    have hvk : vp_in (nI k) 60 := vp_in_nI (by omega) (by omega)
    have xs := xsh (s := 1) hS hok (by omega)
    refine zb X_put_s30 rfl ?_
    refine zcallV X_put_d39 k10_349 (by omega) (x_narrowed_1 _ (by omega)) rfl rfl rfl (Nat.le_of_ble_eq_true rfl) ?_
    rintro _ μx ⟨rfl, hx⟩
    rw [hx]
    clear hx μx
    refine zb1 X_put_s42 rfl hvk ?_
    refine z_ret X_put_d44 rfl ?_
    first
      | (have es : μ.1 14 2 = hSort S 1 := by
           rcases xs with z | z | z
           · exact absurd (hh.symm.trans z.1) (by decide)
           · exact absurd (hh.symm.trans z.1) (by decide)
           · exact z.2.2.2.1
         rw [opPut_x (by omega) hb hi, es]
         have f := fin_put (s := 1) (k := (nI k).toNatClampNeg) (x := narL (hSort S 1) v) hS (by omega)
         exact ⟨rfl, f.1, f.2⟩)
      | (by_cases z : barR S (nI 1) = 0
         · have y : ¬ (0 ≤ i ∧ i < hSize S 1) := fun y => h24 (by rw [if_neg (fun w => w z), if_pos y])
           rw [opPut_out (by omega) z y]
           refine ⟨?_, hS, onlyX.rf⟩
           rw [if_neg (fun w => w z), if_neg y]
         · rw [opPut_bar z]
           refine ⟨?_, hS, onlyX.rf⟩
           rw [if_pos z])
  · refine zb X_put_s27 rfl ?_
    refine z_ret X_put_d29 rfl ?_
    first
      | (have es : μ.1 14 2 = hSort S 1 := by
           rcases xs with z | z | z
           · exact absurd (hh.symm.trans z.1) (by decide)
           · exact absurd (hh.symm.trans z.1) (by decide)
           · exact z.2.2.2.1
         rw [opPut_x (by omega) hb hi, es]
         have f := fin_put (s := 1) (k := (nI k).toNatClampNeg) (x := narL (hSort S 1) v) hS (by omega)
         exact ⟨rfl, f.1, f.2⟩)
      | (by_cases z : barR S (nI 1) = 0
         · have y : ¬ (0 ≤ i ∧ i < hSize S 1) := fun y => h24 (by rw [if_neg (fun w => w z), if_pos y])
           rw [opPut_out (by omega) z y]
           refine ⟨?_, hS, onlyX.rf⟩
           rw [if_neg (fun w => w z), if_neg y]
         · rw [opPut_bar z]
           refine ⟨?_, hS, onlyX.rf⟩
           rw [if_pos z])

set_option maxRecDepth 100000 in
set_option maxHeartbeats 4000000 in
theorem x_narrowed_2 {g : zG} {d : Nat} {μ : zMem} (v : Int64) (hd : 1 ≤ d) : zM g d S_narrowed [.ref 15, .long v] μ (fun r μ' => r = some (.long (narL (μ.1 15 2) v)) ∧ μ' = μ) := by
  refine zM_of (by decide +kernel) rfl rfl (Nat.le_of_ble_eq_true rfl) rfl ?_
  refine zb S_narrowed_s0 rfl ?_
  by_cases hs4_0 : μ.1 15 2 = 0
  · refine z_tabIn S_narrowed_d4 (off := 32) (tgt := 36) (by rw [hs4_0]; decide) (by rw [hs4_0]; decide) (by rw [hs4_0]; decide) rfl ?_
    refine zb S_narrowed_s36 rfl ?_
    refine z_retL S_narrowed_d40 rfl ?_
    refine ⟨congrArg (fun z => some (Value.long z)) ?_, rfl⟩
    unfold narL
    first
      | rw [if_pos hs4_0]
      | rw [if_neg hs4_0, if_pos hs4_1]
      | rw [if_neg hs4_0, if_neg hs4_1, if_pos hs4_2]
      | rw [if_neg hs4_0, if_neg hs4_1, if_neg hs4_2, if_pos hs4_3]
      | (rw [if_neg hs4_0, if_neg hs4_1, if_neg hs4_2, if_neg hs4_3, if_pos (show lg_cmp v 0 = 0 from h55)]; rfl)
      | (rw [if_neg hs4_0, if_neg hs4_1, if_neg hs4_2, if_neg hs4_3, if_neg (show ¬ lg_cmp v 0 = 0 from h55)]; rfl)
  · by_cases hs4_1 : μ.1 15 2 = 1
    · refine z_tabIn S_narrowed_d4 (off := 37) (tgt := 41) (by rw [hs4_1]; decide) (by rw [hs4_1]; decide) (by rw [hs4_1]; decide) rfl ?_
      refine zb S_narrowed_s41 rfl ?_
      refine z_retL S_narrowed_d45 rfl ?_
      refine ⟨congrArg (fun z => some (Value.long z)) ?_, rfl⟩
      unfold narL
      first
        | rw [if_pos hs4_0]
        | rw [if_neg hs4_0, if_pos hs4_1]
        | rw [if_neg hs4_0, if_neg hs4_1, if_pos hs4_2]
        | rw [if_neg hs4_0, if_neg hs4_1, if_neg hs4_2, if_pos hs4_3]
        | (rw [if_neg hs4_0, if_neg hs4_1, if_neg hs4_2, if_neg hs4_3, if_pos (show lg_cmp v 0 = 0 from h55)]; rfl)
        | (rw [if_neg hs4_0, if_neg hs4_1, if_neg hs4_2, if_neg hs4_3, if_neg (show ¬ lg_cmp v 0 = 0 from h55)]; rfl)
    · by_cases hs4_2 : μ.1 15 2 = 2
      · refine z_tabIn S_narrowed_d4 (off := 42) (tgt := 46) (by rw [hs4_2]; decide) (by rw [hs4_2]; decide) (by rw [hs4_2]; decide) rfl ?_
        refine zb S_narrowed_s46 rfl ?_
        refine z_retL S_narrowed_d49 rfl ?_
        refine ⟨congrArg (fun z => some (Value.long z)) ?_, rfl⟩
        unfold narL
        first
          | rw [if_pos hs4_0]
          | rw [if_neg hs4_0, if_pos hs4_1]
          | rw [if_neg hs4_0, if_neg hs4_1, if_pos hs4_2]
          | rw [if_neg hs4_0, if_neg hs4_1, if_neg hs4_2, if_pos hs4_3]
          | (rw [if_neg hs4_0, if_neg hs4_1, if_neg hs4_2, if_neg hs4_3, if_pos (show lg_cmp v 0 = 0 from h55)]; rfl)
          | (rw [if_neg hs4_0, if_neg hs4_1, if_neg hs4_2, if_neg hs4_3, if_neg (show ¬ lg_cmp v 0 = 0 from h55)]; rfl)
      · by_cases hs4_3 : μ.1 15 2 = 3
        · refine z_tabIn S_narrowed_d4 (off := 46) (tgt := 50) (by rw [hs4_3]; decide) (by rw [hs4_3]; decide) (by rw [hs4_3]; decide) rfl ?_
          refine zb S_narrowed_s50 rfl ?_
          refine z_retL S_narrowed_d51 rfl ?_
          refine ⟨congrArg (fun z => some (Value.long z)) ?_, rfl⟩
          unfold narL
          first
            | rw [if_pos hs4_0]
            | rw [if_neg hs4_0, if_pos hs4_1]
            | rw [if_neg hs4_0, if_neg hs4_1, if_pos hs4_2]
            | rw [if_neg hs4_0, if_neg hs4_1, if_neg hs4_2, if_pos hs4_3]
            | (rw [if_neg hs4_0, if_neg hs4_1, if_neg hs4_2, if_neg hs4_3, if_pos (show lg_cmp v 0 = 0 from h55)]; rfl)
            | (rw [if_neg hs4_0, if_neg hs4_1, if_neg hs4_2, if_neg hs4_3, if_neg (show ¬ lg_cmp v 0 = 0 from h55)]; rfl)
        · refine z_tabOut S_narrowed_d4 (tgt := 52) (zsw_out 4 (by decide) (fun k hk => by rcases (show k = 0 ∨ k = 1 ∨ k = 2 ∨ k = 3 by omega) with rfl | rfl | rfl | rfl <;> first | exact hs4_0 | exact hs4_1 | exact hs4_2 | exact hs4_3)) rfl ?_
          refine zb S_narrowed_s52 rfl ?_
          refine z_eq S_narrowed_d55 (tgt := 62) rfl (fun h55 => ?_) (fun h55 => ?_)
          · refine zb S_narrowed_s62 rfl ?_
            refine zcallN S_narrowed_d63 k8_49 (by omega) (x_bit _) rfl rfl (Nat.le_of_ble_eq_true rfl) ?_
            rintro _ μx ⟨rfl, hx⟩
            rw [hx]
            clear hx μx
            refine zb S_narrowed_s66 rfl ?_
            refine z_retL S_narrowed_d67 rfl ?_
            refine ⟨congrArg (fun z => some (Value.long z)) ?_, rfl⟩
            unfold narL
            first
              | rw [if_pos hs4_0]
              | rw [if_neg hs4_0, if_pos hs4_1]
              | rw [if_neg hs4_0, if_neg hs4_1, if_pos hs4_2]
              | rw [if_neg hs4_0, if_neg hs4_1, if_neg hs4_2, if_pos hs4_3]
              | (rw [if_neg hs4_0, if_neg hs4_1, if_neg hs4_2, if_neg hs4_3, if_pos (show lg_cmp v 0 = 0 from h55)]; rfl)
              | (rw [if_neg hs4_0, if_neg hs4_1, if_neg hs4_2, if_neg hs4_3, if_neg (show ¬ lg_cmp v 0 = 0 from h55)]; rfl)
          · refine zb S_narrowed_s58 rfl ?_
            refine zcallN S_narrowed_d63 k8_49 (by omega) (x_bit _) rfl rfl (Nat.le_of_ble_eq_true rfl) ?_
            rintro _ μx ⟨rfl, hx⟩
            rw [hx]
            clear hx μx
            refine zb S_narrowed_s66 rfl ?_
            refine z_retL S_narrowed_d67 rfl ?_
            refine ⟨congrArg (fun z => some (Value.long z)) ?_, rfl⟩
            unfold narL
            first
              | rw [if_pos hs4_0]
              | rw [if_neg hs4_0, if_pos hs4_1]
              | rw [if_neg hs4_0, if_neg hs4_1, if_pos hs4_2]
              | rw [if_neg hs4_0, if_neg hs4_1, if_neg hs4_2, if_pos hs4_3]
              | (rw [if_neg hs4_0, if_neg hs4_1, if_neg hs4_2, if_neg hs4_3, if_pos (show lg_cmp v 0 = 0 from h55)]; rfl)
              | (rw [if_neg hs4_0, if_neg hs4_1, if_neg hs4_2, if_neg hs4_3, if_neg (show ¬ lg_cmp v 0 = 0 from h55)]; rfl)

set_option maxRecDepth 100000 in
set_option maxHeartbeats 4000000 in
theorem xs_row_2 {g : zG} {d : Nat} {S : zS} {μ : zMem} {p n : Int32} (hd : 2 ≤ d) (hS : xS S μ) : zM g d X_row [.ref 1, .int (nI 2), .int p, .int n] μ (pO xS onlyX (opRow S (nI 2) p n) μ) := by
  refine zM_of (by decide +kernel) rfl rfl (Nat.le_of_ble_eq_true rfl) rfl ?_
  obtain ⟨ho, h2, hT, hC, hD, hI, hA, hH⟩ := hS
  have hS : xS S μ := ⟨ho, h2, hT, hC, hD, hI, hA, hH⟩
  have hb := ho.b
  have hv := ho.v
  have hB6 := ho.b6
  have hV12 := ho.v12
  have hz : zq sX μ μ := zq.rf
  refine zb X_row_s0 rfl ?_
  refine zcallV X_row_d2 k10_93 (by omega) (x_shelf_2 (by omega)) rfl rfl rfl (Nat.le_of_ble_eq_true rfl) ?_
  rintro _ μx ⟨rfl, hx⟩
  rw [hx]
  clear hx μx
  refine zb X_row_s5 rfl ?_
  refine z_null X_row_d9 ?_
  refine zb X_row_s12 rfl ?_
  refine zcallS X_row_d14 k10_170 (by omega) (x_isWithin _ _) rfl rfl (Nat.le_of_ble_eq_true rfl) ?_
  rintro _ μx ⟨rfl, hx⟩
  rw [hx]
  clear hx μx
  refine z_eq X_row_d17 (tgt := 26) rfl (fun h17 => ?_) (fun h17 => ?_)
  · refine zb X_row_s26 rfl ?_
    refine z_ret X_row_d27 rfl ?_
    first
      | (have f := fin_row (s := 2) hS (by omega) a1 a2 a3 a4
         rw [opRow_x (by omega) (zB_ne0.mp h17) h23 (Int32.not_lt.mpr h29)]
         exact ⟨rfl, f.1, f.2⟩)
      | (unfold opRow
         first
           | (rw [if_neg (fun z => z (And.intro (And.intro (by decide) (by decide)) (And.intro (zB_ne0.mp h17) h23))), if_pos (Int32.not_le.mp h29)]; exact ⟨rfl, hS, onlyX.rf⟩)
           | (rw [if_pos (fun z => h23 z.2.2)]; exact ⟨rfl, hS, onlyX.rf⟩)
           | (rw [if_pos (fun z => (zB_eq0.mp h17) z.2.1)]; exact ⟨rfl, hS, onlyX.rf⟩))
  · refine zb X_row_s20 rfl ?_
    refine z_cle X_row_d23 (tgt := 28) rfl (fun h23 => ?_) (fun h23 => ?_)
    · refine zb X_row_s28 rfl ?_
      refine z_ge X_row_d29 (tgt := 35) rfl (fun h29 => ?_) (fun h29 => ?_)
      · refine zb X_row_s35 rfl ?_
        refine zcallV X_row_d39 k10_339 (by omega) (x_lay_2 _ _ (by omega)) rfl rfl rfl (Nat.le_of_ble_eq_true rfl) ?_
        rintro _ μ1 ⟨rfl, a1, a2, a3, a4⟩
        refine zb X_row_s42 rfl ?_
        refine z_ret X_row_d43 rfl ?_
        first
          | (have f := fin_row (s := 2) hS (by omega) a1 a2 a3 a4
             rw [opRow_x (by omega) (zB_ne0.mp h17) h23 (Int32.not_lt.mpr h29)]
             exact ⟨rfl, f.1, f.2⟩)
          | (unfold opRow
             first
               | (rw [if_neg (fun z => z (And.intro (And.intro (by decide) (by decide)) (And.intro (zB_ne0.mp h17) h23))), if_pos (Int32.not_le.mp h29)]; exact ⟨rfl, hS, onlyX.rf⟩)
               | (rw [if_pos (fun z => h23 z.2.2)]; exact ⟨rfl, hS, onlyX.rf⟩)
               | (rw [if_pos (fun z => (zB_eq0.mp h17) z.2.1)]; exact ⟨rfl, hS, onlyX.rf⟩))
      · refine zb X_row_s32 rfl ?_
        refine z_ret X_row_d34 rfl ?_
        first
          | (have f := fin_row (s := 2) hS (by omega) a1 a2 a3 a4
             rw [opRow_x (by omega) (zB_ne0.mp h17) h23 (Int32.not_lt.mpr h29)]
             exact ⟨rfl, f.1, f.2⟩)
          | (unfold opRow
             first
               | (rw [if_neg (fun z => z (And.intro (And.intro (by decide) (by decide)) (And.intro (zB_ne0.mp h17) h23))), if_pos (Int32.not_le.mp h29)]; exact ⟨rfl, hS, onlyX.rf⟩)
               | (rw [if_pos (fun z => h23 z.2.2)]; exact ⟨rfl, hS, onlyX.rf⟩)
               | (rw [if_pos (fun z => (zB_eq0.mp h17) z.2.1)]; exact ⟨rfl, hS, onlyX.rf⟩))
    · refine zb X_row_s26 rfl ?_
      refine z_ret X_row_d27 rfl ?_
      first
        | (have f := fin_row (s := 2) hS (by omega) a1 a2 a3 a4
           rw [opRow_x (by omega) (zB_ne0.mp h17) h23 (Int32.not_lt.mpr h29)]
           exact ⟨rfl, f.1, f.2⟩)
        | (unfold opRow
           first
             | (rw [if_neg (fun z => z (And.intro (And.intro (by decide) (by decide)) (And.intro (zB_ne0.mp h17) h23))), if_pos (Int32.not_le.mp h29)]; exact ⟨rfl, hS, onlyX.rf⟩)
             | (rw [if_pos (fun z => h23 z.2.2)]; exact ⟨rfl, hS, onlyX.rf⟩)
             | (rw [if_pos (fun z => (zB_eq0.mp h17) z.2.1)]; exact ⟨rfl, hS, onlyX.rf⟩))

set_option maxRecDepth 100000 in
set_option maxHeartbeats 4000000 in
theorem xs_put_2 {g : zG} {d : Nat} {S : zS} {μ : zMem} {i : Int32} {v : Int64} (hd : 3 ≤ d) (hS : xS S μ) (hok : okH S) : zM g d X_put [.ref 1, .int (nI 2), .int i, .long v] μ (pO xS onlyX (opPut S (nI 2) i v) μ) := by
  refine zM_of (by decide +kernel) rfl rfl (Nat.le_of_ble_eq_true rfl) rfl ?_
  obtain ⟨ho, h2, hT, hC, hD, hI, hA, hH⟩ := hS
  have hS : xS S μ := ⟨ho, h2, hT, hC, hD, hI, hA, hH⟩
  have hb := ho.b
  have hv := ho.v
  have hB6 := ho.b6
  have hV12 := ho.v12
  have hz : zq sX μ μ := zq.rf
  refine zb X_put_s0 rfl ?_
  refine zcallV X_put_d2 k10_93 (by omega) (x_shelf_2 (by omega)) rfl rfl rfl (Nat.le_of_ble_eq_true rfl) ?_
  rintro _ μx ⟨rfl, hx⟩
  rw [hx]
  clear hx μx
  refine zb X_put_s5 rfl ?_
  refine z_nonnull X_put_d9 (tgt := 14) rfl ?_
  refine zb X_put_s14 rfl ?_
  refine zcallV X_put_d17 k10_342 (by omega) (x_refAt_2 _ (by omega)) rfl rfl rfl (Nat.le_of_ble_eq_true rfl) ?_
  rintro _ μx ⟨rfl, hx⟩
  rw [hx]
  clear hx μx
  have hrf := x_ref (s := 2) (i := i) hS hok (by omega)
  replace hrf : (if bE 15 μ then (-11 : Int32) else if ¬ bR 15 μ then -12 else if bP 15 i 1 μ then 0 else -13) = _ := hrf
  rw [hrf]
  refine zb X_put_s20 rfl ?_
  refine z_eq X_put_d24 (tgt := 30) rfl (fun h24 => ?_) (fun h24 => ?_)
  · have hb : barR S (nI 2) = 0 := Decidable.of_not_not (fun z => by
      rw [if_pos z] at h24
      exact z h24)
    rw [if_neg (fun z => z hb)] at h24
    have hi : 0 ≤ i ∧ i < hSize S 2 := Decidable.of_not_not (fun z => by
      rw [if_neg z] at h24
      exact absurd h24 (by decide))
    obtain ⟨q9, m, hs6, e9, -, hh, hm, em⟩ := barR_0 hb hok
    have e9' : 2 = q9 := (nI_eq (by omega) (by omega)).mp e9
    subst e9'
    have hi' := hi
    rw [em] at hi'
    obtain ⟨k, hk, rfl, ek⟩ := zix hi'.1 hi'.2 (by omega)
    have hvk : vp_in (nI k) 60 := vp_in_nI (by omega) (by omega)
    have xs := xsh (s := 2) hS hok (by omega)
    refine zb X_put_s30 rfl ?_
    refine zcallV X_put_d39 k10_349 (by omega) (x_narrowed_2 _ (by omega)) rfl rfl rfl (Nat.le_of_ble_eq_true rfl) ?_
    rintro _ μx ⟨rfl, hx⟩
    rw [hx]
    clear hx μx
    refine zb1 X_put_s42 rfl hvk ?_
    refine z_ret X_put_d44 rfl ?_
    first
      | (have es : μ.1 15 2 = hSort S 2 := by
           rcases xs with z | z | z
           · exact absurd (hh.symm.trans z.1) (by decide)
           · exact absurd (hh.symm.trans z.1) (by decide)
           · exact z.2.2.2.1
         rw [opPut_x (by omega) hb hi, es]
         have f := fin_put (s := 2) (k := (nI k).toNatClampNeg) (x := narL (hSort S 2) v) hS (by omega)
         exact ⟨rfl, f.1, f.2⟩)
      | (by_cases z : barR S (nI 2) = 0
         · have y : ¬ (0 ≤ i ∧ i < hSize S 2) := fun y => h24 (by rw [if_neg (fun w => w z), if_pos y])
           rw [opPut_out (by omega) z y]
           refine ⟨?_, hS, onlyX.rf⟩
           rw [if_neg (fun w => w z), if_neg y]
         · rw [opPut_bar z]
           refine ⟨?_, hS, onlyX.rf⟩
           rw [if_pos z])
  · refine zb X_put_s27 rfl ?_
    refine z_ret X_put_d29 rfl ?_
    first
      | (have es : μ.1 15 2 = hSort S 2 := by
           rcases xs with z | z | z
           · exact absurd (hh.symm.trans z.1) (by decide)
           · exact absurd (hh.symm.trans z.1) (by decide)
           · exact z.2.2.2.1
         rw [opPut_x (by omega) hb hi, es]
         have f := fin_put (s := 2) (k := (nI k).toNatClampNeg) (x := narL (hSort S 2) v) hS (by omega)
         exact ⟨rfl, f.1, f.2⟩)
      | (by_cases z : barR S (nI 2) = 0
         · have y : ¬ (0 ≤ i ∧ i < hSize S 2) := fun y => h24 (by rw [if_neg (fun w => w z), if_pos y])
           rw [opPut_out (by omega) z y]
           refine ⟨?_, hS, onlyX.rf⟩
           rw [if_neg (fun w => w z), if_neg y]
         · rw [opPut_bar z]
           refine ⟨?_, hS, onlyX.rf⟩
           rw [if_pos z])

set_option maxRecDepth 100000 in
set_option maxHeartbeats 4000000 in
theorem x_narrowed_3 {g : zG} {d : Nat} {μ : zMem} (v : Int64) (hd : 1 ≤ d) : zM g d S_narrowed [.ref 16, .long v] μ (fun r μ' => r = some (.long (narL (μ.1 16 2) v)) ∧ μ' = μ) := by
  refine zM_of (by decide +kernel) rfl rfl (Nat.le_of_ble_eq_true rfl) rfl ?_
  refine zb S_narrowed_s0 rfl ?_
  by_cases hs4_0 : μ.1 16 2 = 0
  · refine z_tabIn S_narrowed_d4 (off := 32) (tgt := 36) (by rw [hs4_0]; decide) (by rw [hs4_0]; decide) (by rw [hs4_0]; decide) rfl ?_
    refine zb S_narrowed_s36 rfl ?_
    refine z_retL S_narrowed_d40 rfl ?_
    refine ⟨congrArg (fun z => some (Value.long z)) ?_, rfl⟩
    unfold narL
    first
      | rw [if_pos hs4_0]
      | rw [if_neg hs4_0, if_pos hs4_1]
      | rw [if_neg hs4_0, if_neg hs4_1, if_pos hs4_2]
      | rw [if_neg hs4_0, if_neg hs4_1, if_neg hs4_2, if_pos hs4_3]
      | (rw [if_neg hs4_0, if_neg hs4_1, if_neg hs4_2, if_neg hs4_3, if_pos (show lg_cmp v 0 = 0 from h55)]; rfl)
      | (rw [if_neg hs4_0, if_neg hs4_1, if_neg hs4_2, if_neg hs4_3, if_neg (show ¬ lg_cmp v 0 = 0 from h55)]; rfl)
  · by_cases hs4_1 : μ.1 16 2 = 1
    · refine z_tabIn S_narrowed_d4 (off := 37) (tgt := 41) (by rw [hs4_1]; decide) (by rw [hs4_1]; decide) (by rw [hs4_1]; decide) rfl ?_
      refine zb S_narrowed_s41 rfl ?_
      refine z_retL S_narrowed_d45 rfl ?_
      refine ⟨congrArg (fun z => some (Value.long z)) ?_, rfl⟩
      unfold narL
      first
        | rw [if_pos hs4_0]
        | rw [if_neg hs4_0, if_pos hs4_1]
        | rw [if_neg hs4_0, if_neg hs4_1, if_pos hs4_2]
        | rw [if_neg hs4_0, if_neg hs4_1, if_neg hs4_2, if_pos hs4_3]
        | (rw [if_neg hs4_0, if_neg hs4_1, if_neg hs4_2, if_neg hs4_3, if_pos (show lg_cmp v 0 = 0 from h55)]; rfl)
        | (rw [if_neg hs4_0, if_neg hs4_1, if_neg hs4_2, if_neg hs4_3, if_neg (show ¬ lg_cmp v 0 = 0 from h55)]; rfl)
    · by_cases hs4_2 : μ.1 16 2 = 2
      · refine z_tabIn S_narrowed_d4 (off := 42) (tgt := 46) (by rw [hs4_2]; decide) (by rw [hs4_2]; decide) (by rw [hs4_2]; decide) rfl ?_
        refine zb S_narrowed_s46 rfl ?_
        refine z_retL S_narrowed_d49 rfl ?_
        refine ⟨congrArg (fun z => some (Value.long z)) ?_, rfl⟩
        unfold narL
        first
          | rw [if_pos hs4_0]
          | rw [if_neg hs4_0, if_pos hs4_1]
          | rw [if_neg hs4_0, if_neg hs4_1, if_pos hs4_2]
          | rw [if_neg hs4_0, if_neg hs4_1, if_neg hs4_2, if_pos hs4_3]
          | (rw [if_neg hs4_0, if_neg hs4_1, if_neg hs4_2, if_neg hs4_3, if_pos (show lg_cmp v 0 = 0 from h55)]; rfl)
          | (rw [if_neg hs4_0, if_neg hs4_1, if_neg hs4_2, if_neg hs4_3, if_neg (show ¬ lg_cmp v 0 = 0 from h55)]; rfl)
      · by_cases hs4_3 : μ.1 16 2 = 3
        · refine z_tabIn S_narrowed_d4 (off := 46) (tgt := 50) (by rw [hs4_3]; decide) (by rw [hs4_3]; decide) (by rw [hs4_3]; decide) rfl ?_
          refine zb S_narrowed_s50 rfl ?_
          refine z_retL S_narrowed_d51 rfl ?_
          refine ⟨congrArg (fun z => some (Value.long z)) ?_, rfl⟩
          unfold narL
          first
            | rw [if_pos hs4_0]
            | rw [if_neg hs4_0, if_pos hs4_1]
            | rw [if_neg hs4_0, if_neg hs4_1, if_pos hs4_2]
            | rw [if_neg hs4_0, if_neg hs4_1, if_neg hs4_2, if_pos hs4_3]
            | (rw [if_neg hs4_0, if_neg hs4_1, if_neg hs4_2, if_neg hs4_3, if_pos (show lg_cmp v 0 = 0 from h55)]; rfl)
            | (rw [if_neg hs4_0, if_neg hs4_1, if_neg hs4_2, if_neg hs4_3, if_neg (show ¬ lg_cmp v 0 = 0 from h55)]; rfl)
        · refine z_tabOut S_narrowed_d4 (tgt := 52) (zsw_out 4 (by decide) (fun k hk => by rcases (show k = 0 ∨ k = 1 ∨ k = 2 ∨ k = 3 by omega) with rfl | rfl | rfl | rfl <;> first | exact hs4_0 | exact hs4_1 | exact hs4_2 | exact hs4_3)) rfl ?_
          refine zb S_narrowed_s52 rfl ?_
          refine z_eq S_narrowed_d55 (tgt := 62) rfl (fun h55 => ?_) (fun h55 => ?_)
          · refine zb S_narrowed_s62 rfl ?_
            refine zcallN S_narrowed_d63 k8_49 (by omega) (x_bit _) rfl rfl (Nat.le_of_ble_eq_true rfl) ?_
            rintro _ μx ⟨rfl, hx⟩
            rw [hx]
            clear hx μx
            refine zb S_narrowed_s66 rfl ?_
            refine z_retL S_narrowed_d67 rfl ?_
            refine ⟨congrArg (fun z => some (Value.long z)) ?_, rfl⟩
            unfold narL
            first
              | rw [if_pos hs4_0]
              | rw [if_neg hs4_0, if_pos hs4_1]
              | rw [if_neg hs4_0, if_neg hs4_1, if_pos hs4_2]
              | rw [if_neg hs4_0, if_neg hs4_1, if_neg hs4_2, if_pos hs4_3]
              | (rw [if_neg hs4_0, if_neg hs4_1, if_neg hs4_2, if_neg hs4_3, if_pos (show lg_cmp v 0 = 0 from h55)]; rfl)
              | (rw [if_neg hs4_0, if_neg hs4_1, if_neg hs4_2, if_neg hs4_3, if_neg (show ¬ lg_cmp v 0 = 0 from h55)]; rfl)
          · refine zb S_narrowed_s58 rfl ?_
            refine zcallN S_narrowed_d63 k8_49 (by omega) (x_bit _) rfl rfl (Nat.le_of_ble_eq_true rfl) ?_
            rintro _ μx ⟨rfl, hx⟩
            rw [hx]
            clear hx μx
            refine zb S_narrowed_s66 rfl ?_
            refine z_retL S_narrowed_d67 rfl ?_
            refine ⟨congrArg (fun z => some (Value.long z)) ?_, rfl⟩
            unfold narL
            first
              | rw [if_pos hs4_0]
              | rw [if_neg hs4_0, if_pos hs4_1]
              | rw [if_neg hs4_0, if_neg hs4_1, if_pos hs4_2]
              | rw [if_neg hs4_0, if_neg hs4_1, if_neg hs4_2, if_pos hs4_3]
              | (rw [if_neg hs4_0, if_neg hs4_1, if_neg hs4_2, if_neg hs4_3, if_pos (show lg_cmp v 0 = 0 from h55)]; rfl)
              | (rw [if_neg hs4_0, if_neg hs4_1, if_neg hs4_2, if_neg hs4_3, if_neg (show ¬ lg_cmp v 0 = 0 from h55)]; rfl)

set_option maxRecDepth 100000 in
set_option maxHeartbeats 4000000 in
theorem xs_row_3 {g : zG} {d : Nat} {S : zS} {μ : zMem} {p n : Int32} (hd : 2 ≤ d) (hS : xS S μ) : zM g d X_row [.ref 1, .int (nI 3), .int p, .int n] μ (pO xS onlyX (opRow S (nI 3) p n) μ) := by
  refine zM_of (by decide +kernel) rfl rfl (Nat.le_of_ble_eq_true rfl) rfl ?_
  obtain ⟨ho, h2, hT, hC, hD, hI, hA, hH⟩ := hS
  have hS : xS S μ := ⟨ho, h2, hT, hC, hD, hI, hA, hH⟩
  have hb := ho.b
  have hv := ho.v
  have hB6 := ho.b6
  have hV12 := ho.v12
  have hz : zq sX μ μ := zq.rf
  refine zb X_row_s0 rfl ?_
  refine zcallV X_row_d2 k10_93 (by omega) (x_shelf_3 (by omega)) rfl rfl rfl (Nat.le_of_ble_eq_true rfl) ?_
  rintro _ μx ⟨rfl, hx⟩
  rw [hx]
  clear hx μx
  refine zb X_row_s5 rfl ?_
  refine z_null X_row_d9 ?_
  refine zb X_row_s12 rfl ?_
  refine zcallS X_row_d14 k10_170 (by omega) (x_isWithin _ _) rfl rfl (Nat.le_of_ble_eq_true rfl) ?_
  rintro _ μx ⟨rfl, hx⟩
  rw [hx]
  clear hx μx
  refine z_eq X_row_d17 (tgt := 26) rfl (fun h17 => ?_) (fun h17 => ?_)
  · refine zb X_row_s26 rfl ?_
    refine z_ret X_row_d27 rfl ?_
    first
      | (have f := fin_row (s := 3) hS (by omega) a1 a2 a3 a4
         rw [opRow_x (by omega) (zB_ne0.mp h17) h23 (Int32.not_lt.mpr h29)]
         exact ⟨rfl, f.1, f.2⟩)
      | (unfold opRow
         first
           | (rw [if_neg (fun z => z (And.intro (And.intro (by decide) (by decide)) (And.intro (zB_ne0.mp h17) h23))), if_pos (Int32.not_le.mp h29)]; exact ⟨rfl, hS, onlyX.rf⟩)
           | (rw [if_pos (fun z => h23 z.2.2)]; exact ⟨rfl, hS, onlyX.rf⟩)
           | (rw [if_pos (fun z => (zB_eq0.mp h17) z.2.1)]; exact ⟨rfl, hS, onlyX.rf⟩))
  · refine zb X_row_s20 rfl ?_
    refine z_cle X_row_d23 (tgt := 28) rfl (fun h23 => ?_) (fun h23 => ?_)
    · refine zb X_row_s28 rfl ?_
      refine z_ge X_row_d29 (tgt := 35) rfl (fun h29 => ?_) (fun h29 => ?_)
      · refine zb X_row_s35 rfl ?_
        refine zcallV X_row_d39 k10_339 (by omega) (x_lay_3 _ _ (by omega)) rfl rfl rfl (Nat.le_of_ble_eq_true rfl) ?_
        rintro _ μ1 ⟨rfl, a1, a2, a3, a4⟩
        refine zb X_row_s42 rfl ?_
        refine z_ret X_row_d43 rfl ?_
        first
          | (have f := fin_row (s := 3) hS (by omega) a1 a2 a3 a4
             rw [opRow_x (by omega) (zB_ne0.mp h17) h23 (Int32.not_lt.mpr h29)]
             exact ⟨rfl, f.1, f.2⟩)
          | (unfold opRow
             first
               | (rw [if_neg (fun z => z (And.intro (And.intro (by decide) (by decide)) (And.intro (zB_ne0.mp h17) h23))), if_pos (Int32.not_le.mp h29)]; exact ⟨rfl, hS, onlyX.rf⟩)
               | (rw [if_pos (fun z => h23 z.2.2)]; exact ⟨rfl, hS, onlyX.rf⟩)
               | (rw [if_pos (fun z => (zB_eq0.mp h17) z.2.1)]; exact ⟨rfl, hS, onlyX.rf⟩))
      · refine zb X_row_s32 rfl ?_
        refine z_ret X_row_d34 rfl ?_
        first
          | (have f := fin_row (s := 3) hS (by omega) a1 a2 a3 a4
             rw [opRow_x (by omega) (zB_ne0.mp h17) h23 (Int32.not_lt.mpr h29)]
             exact ⟨rfl, f.1, f.2⟩)
          | (unfold opRow
             first
               | (rw [if_neg (fun z => z (And.intro (And.intro (by decide) (by decide)) (And.intro (zB_ne0.mp h17) h23))), if_pos (Int32.not_le.mp h29)]; exact ⟨rfl, hS, onlyX.rf⟩)
               | (rw [if_pos (fun z => h23 z.2.2)]; exact ⟨rfl, hS, onlyX.rf⟩)
               | (rw [if_pos (fun z => (zB_eq0.mp h17) z.2.1)]; exact ⟨rfl, hS, onlyX.rf⟩))
    · refine zb X_row_s26 rfl ?_
      refine z_ret X_row_d27 rfl ?_
      first
        | (have f := fin_row (s := 3) hS (by omega) a1 a2 a3 a4
           rw [opRow_x (by omega) (zB_ne0.mp h17) h23 (Int32.not_lt.mpr h29)]
           exact ⟨rfl, f.1, f.2⟩)
        | (unfold opRow
           first
             | (rw [if_neg (fun z => z (And.intro (And.intro (by decide) (by decide)) (And.intro (zB_ne0.mp h17) h23))), if_pos (Int32.not_le.mp h29)]; exact ⟨rfl, hS, onlyX.rf⟩)
             | (rw [if_pos (fun z => h23 z.2.2)]; exact ⟨rfl, hS, onlyX.rf⟩)
             | (rw [if_pos (fun z => (zB_eq0.mp h17) z.2.1)]; exact ⟨rfl, hS, onlyX.rf⟩))

set_option maxRecDepth 100000 in
set_option maxHeartbeats 4000000 in
theorem xs_put_3 {g : zG} {d : Nat} {S : zS} {μ : zMem} {i : Int32} {v : Int64} (hd : 3 ≤ d) (hS : xS S μ) (hok : okH S) : zM g d X_put [.ref 1, .int (nI 3), .int i, .long v] μ (pO xS onlyX (opPut S (nI 3) i v) μ) := by
  refine zM_of (by decide +kernel) rfl rfl (Nat.le_of_ble_eq_true rfl) rfl ?_
  obtain ⟨ho, h2, hT, hC, hD, hI, hA, hH⟩ := hS
  have hS : xS S μ := ⟨ho, h2, hT, hC, hD, hI, hA, hH⟩
  have hb := ho.b
  have hv := ho.v
  have hB6 := ho.b6
  have hV12 := ho.v12
  have hz : zq sX μ μ := zq.rf
  refine zb X_put_s0 rfl ?_
  refine zcallV X_put_d2 k10_93 (by omega) (x_shelf_3 (by omega)) rfl rfl rfl (Nat.le_of_ble_eq_true rfl) ?_
  rintro _ μx ⟨rfl, hx⟩
  rw [hx]
  clear hx μx
  refine zb X_put_s5 rfl ?_
  refine z_nonnull X_put_d9 (tgt := 14) rfl ?_
  refine zb X_put_s14 rfl ?_
  refine zcallV X_put_d17 k10_342 (by omega) (x_refAt_3 _ (by omega)) rfl rfl rfl (Nat.le_of_ble_eq_true rfl) ?_
  rintro _ μx ⟨rfl, hx⟩
  rw [hx]
  clear hx μx
  have hrf := x_ref (s := 3) (i := i) hS hok (by omega)
  replace hrf : (if bE 16 μ then (-11 : Int32) else if ¬ bR 16 μ then -12 else if bP 16 i 1 μ then 0 else -13) = _ := hrf
  rw [hrf]
  refine zb X_put_s20 rfl ?_
  refine z_eq X_put_d24 (tgt := 30) rfl (fun h24 => ?_) (fun h24 => ?_)
  · have hb : barR S (nI 3) = 0 := Decidable.of_not_not (fun z => by
      rw [if_pos z] at h24
      exact z h24)
    rw [if_neg (fun z => z hb)] at h24
    have hi : 0 ≤ i ∧ i < hSize S 3 := Decidable.of_not_not (fun z => by
      rw [if_neg z] at h24
      exact absurd h24 (by decide))
    obtain ⟨q9, m, hs6, e9, -, hh, hm, em⟩ := barR_0 hb hok
    have e9' : 3 = q9 := (nI_eq (by omega) (by omega)).mp e9
    subst e9'
    have hi' := hi
    rw [em] at hi'
    obtain ⟨k, hk, rfl, ek⟩ := zix hi'.1 hi'.2 (by omega)
    have hvk : vp_in (nI k) 60 := vp_in_nI (by omega) (by omega)
    have xs := xsh (s := 3) hS hok (by omega)
    refine zb X_put_s30 rfl ?_
    refine zcallV X_put_d39 k10_349 (by omega) (x_narrowed_3 _ (by omega)) rfl rfl rfl (Nat.le_of_ble_eq_true rfl) ?_
    rintro _ μx ⟨rfl, hx⟩
    rw [hx]
    clear hx μx
    refine zb1 X_put_s42 rfl hvk ?_
    refine z_ret X_put_d44 rfl ?_
    first
      | (have es : μ.1 16 2 = hSort S 3 := by
           rcases xs with z | z | z
           · exact absurd (hh.symm.trans z.1) (by decide)
           · exact absurd (hh.symm.trans z.1) (by decide)
           · exact z.2.2.2.1
         rw [opPut_x (by omega) hb hi, es]
         have f := fin_put (s := 3) (k := (nI k).toNatClampNeg) (x := narL (hSort S 3) v) hS (by omega)
         exact ⟨rfl, f.1, f.2⟩)
      | (by_cases z : barR S (nI 3) = 0
         · have y : ¬ (0 ≤ i ∧ i < hSize S 3) := fun y => h24 (by rw [if_neg (fun w => w z), if_pos y])
           rw [opPut_out (by omega) z y]
           refine ⟨?_, hS, onlyX.rf⟩
           rw [if_neg (fun w => w z), if_neg y]
         · rw [opPut_bar z]
           refine ⟨?_, hS, onlyX.rf⟩
           rw [if_pos z])
  · refine zb X_put_s27 rfl ?_
    refine z_ret X_put_d29 rfl ?_
    first
      | (have es : μ.1 16 2 = hSort S 3 := by
           rcases xs with z | z | z
           · exact absurd (hh.symm.trans z.1) (by decide)
           · exact absurd (hh.symm.trans z.1) (by decide)
           · exact z.2.2.2.1
         rw [opPut_x (by omega) hb hi, es]
         have f := fin_put (s := 3) (k := (nI k).toNatClampNeg) (x := narL (hSort S 3) v) hS (by omega)
         exact ⟨rfl, f.1, f.2⟩)
      | (by_cases z : barR S (nI 3) = 0
         · have y : ¬ (0 ≤ i ∧ i < hSize S 3) := fun y => h24 (by rw [if_neg (fun w => w z), if_pos y])
           rw [opPut_out (by omega) z y]
           refine ⟨?_, hS, onlyX.rf⟩
           rw [if_neg (fun w => w z), if_neg y]
         · rw [opPut_bar z]
           refine ⟨?_, hS, onlyX.rf⟩
           rw [if_pos z])

set_option maxRecDepth 100000 in
set_option maxHeartbeats 4000000 in
theorem x_narrowed_4 {g : zG} {d : Nat} {μ : zMem} (v : Int64) (hd : 1 ≤ d) : zM g d S_narrowed [.ref 17, .long v] μ (fun r μ' => r = some (.long (narL (μ.1 17 2) v)) ∧ μ' = μ) := by
  refine zM_of (by decide +kernel) rfl rfl (Nat.le_of_ble_eq_true rfl) rfl ?_
  refine zb S_narrowed_s0 rfl ?_
  by_cases hs4_0 : μ.1 17 2 = 0
  · refine z_tabIn S_narrowed_d4 (off := 32) (tgt := 36) (by rw [hs4_0]; decide) (by rw [hs4_0]; decide) (by rw [hs4_0]; decide) rfl ?_
    refine zb S_narrowed_s36 rfl ?_
    refine z_retL S_narrowed_d40 rfl ?_
    refine ⟨congrArg (fun z => some (Value.long z)) ?_, rfl⟩
    unfold narL
    first
      | rw [if_pos hs4_0]
      | rw [if_neg hs4_0, if_pos hs4_1]
      | rw [if_neg hs4_0, if_neg hs4_1, if_pos hs4_2]
      | rw [if_neg hs4_0, if_neg hs4_1, if_neg hs4_2, if_pos hs4_3]
      | (rw [if_neg hs4_0, if_neg hs4_1, if_neg hs4_2, if_neg hs4_3, if_pos (show lg_cmp v 0 = 0 from h55)]; rfl)
      | (rw [if_neg hs4_0, if_neg hs4_1, if_neg hs4_2, if_neg hs4_3, if_neg (show ¬ lg_cmp v 0 = 0 from h55)]; rfl)
  · by_cases hs4_1 : μ.1 17 2 = 1
    · refine z_tabIn S_narrowed_d4 (off := 37) (tgt := 41) (by rw [hs4_1]; decide) (by rw [hs4_1]; decide) (by rw [hs4_1]; decide) rfl ?_
      refine zb S_narrowed_s41 rfl ?_
      refine z_retL S_narrowed_d45 rfl ?_
      refine ⟨congrArg (fun z => some (Value.long z)) ?_, rfl⟩
      unfold narL
      first
        | rw [if_pos hs4_0]
        | rw [if_neg hs4_0, if_pos hs4_1]
        | rw [if_neg hs4_0, if_neg hs4_1, if_pos hs4_2]
        | rw [if_neg hs4_0, if_neg hs4_1, if_neg hs4_2, if_pos hs4_3]
        | (rw [if_neg hs4_0, if_neg hs4_1, if_neg hs4_2, if_neg hs4_3, if_pos (show lg_cmp v 0 = 0 from h55)]; rfl)
        | (rw [if_neg hs4_0, if_neg hs4_1, if_neg hs4_2, if_neg hs4_3, if_neg (show ¬ lg_cmp v 0 = 0 from h55)]; rfl)
    · by_cases hs4_2 : μ.1 17 2 = 2
      · refine z_tabIn S_narrowed_d4 (off := 42) (tgt := 46) (by rw [hs4_2]; decide) (by rw [hs4_2]; decide) (by rw [hs4_2]; decide) rfl ?_
        refine zb S_narrowed_s46 rfl ?_
        refine z_retL S_narrowed_d49 rfl ?_
        refine ⟨congrArg (fun z => some (Value.long z)) ?_, rfl⟩
        unfold narL
        first
          | rw [if_pos hs4_0]
          | rw [if_neg hs4_0, if_pos hs4_1]
          | rw [if_neg hs4_0, if_neg hs4_1, if_pos hs4_2]
          | rw [if_neg hs4_0, if_neg hs4_1, if_neg hs4_2, if_pos hs4_3]
          | (rw [if_neg hs4_0, if_neg hs4_1, if_neg hs4_2, if_neg hs4_3, if_pos (show lg_cmp v 0 = 0 from h55)]; rfl)
          | (rw [if_neg hs4_0, if_neg hs4_1, if_neg hs4_2, if_neg hs4_3, if_neg (show ¬ lg_cmp v 0 = 0 from h55)]; rfl)
      · by_cases hs4_3 : μ.1 17 2 = 3
        · refine z_tabIn S_narrowed_d4 (off := 46) (tgt := 50) (by rw [hs4_3]; decide) (by rw [hs4_3]; decide) (by rw [hs4_3]; decide) rfl ?_
          refine zb S_narrowed_s50 rfl ?_
          refine z_retL S_narrowed_d51 rfl ?_
          refine ⟨congrArg (fun z => some (Value.long z)) ?_, rfl⟩
          unfold narL
          first
            | rw [if_pos hs4_0]
            | rw [if_neg hs4_0, if_pos hs4_1]
            | rw [if_neg hs4_0, if_neg hs4_1, if_pos hs4_2]
            | rw [if_neg hs4_0, if_neg hs4_1, if_neg hs4_2, if_pos hs4_3]
            | (rw [if_neg hs4_0, if_neg hs4_1, if_neg hs4_2, if_neg hs4_3, if_pos (show lg_cmp v 0 = 0 from h55)]; rfl)
            | (rw [if_neg hs4_0, if_neg hs4_1, if_neg hs4_2, if_neg hs4_3, if_neg (show ¬ lg_cmp v 0 = 0 from h55)]; rfl)
        · refine z_tabOut S_narrowed_d4 (tgt := 52) (zsw_out 4 (by decide) (fun k hk => by rcases (show k = 0 ∨ k = 1 ∨ k = 2 ∨ k = 3 by omega) with rfl | rfl | rfl | rfl <;> first | exact hs4_0 | exact hs4_1 | exact hs4_2 | exact hs4_3)) rfl ?_
          refine zb S_narrowed_s52 rfl ?_
          refine z_eq S_narrowed_d55 (tgt := 62) rfl (fun h55 => ?_) (fun h55 => ?_)
          · refine zb S_narrowed_s62 rfl ?_
            refine zcallN S_narrowed_d63 k8_49 (by omega) (x_bit _) rfl rfl (Nat.le_of_ble_eq_true rfl) ?_
            rintro _ μx ⟨rfl, hx⟩
            rw [hx]
            clear hx μx
            refine zb S_narrowed_s66 rfl ?_
            refine z_retL S_narrowed_d67 rfl ?_
            refine ⟨congrArg (fun z => some (Value.long z)) ?_, rfl⟩
            unfold narL
            first
              | rw [if_pos hs4_0]
              | rw [if_neg hs4_0, if_pos hs4_1]
              | rw [if_neg hs4_0, if_neg hs4_1, if_pos hs4_2]
              | rw [if_neg hs4_0, if_neg hs4_1, if_neg hs4_2, if_pos hs4_3]
              | (rw [if_neg hs4_0, if_neg hs4_1, if_neg hs4_2, if_neg hs4_3, if_pos (show lg_cmp v 0 = 0 from h55)]; rfl)
              | (rw [if_neg hs4_0, if_neg hs4_1, if_neg hs4_2, if_neg hs4_3, if_neg (show ¬ lg_cmp v 0 = 0 from h55)]; rfl)
          · refine zb S_narrowed_s58 rfl ?_
            refine zcallN S_narrowed_d63 k8_49 (by omega) (x_bit _) rfl rfl (Nat.le_of_ble_eq_true rfl) ?_
            rintro _ μx ⟨rfl, hx⟩
            rw [hx]
            clear hx μx
            refine zb S_narrowed_s66 rfl ?_
            refine z_retL S_narrowed_d67 rfl ?_
            refine ⟨congrArg (fun z => some (Value.long z)) ?_, rfl⟩
            unfold narL
            first
              | rw [if_pos hs4_0]
              | rw [if_neg hs4_0, if_pos hs4_1]
              | rw [if_neg hs4_0, if_neg hs4_1, if_pos hs4_2]
              | rw [if_neg hs4_0, if_neg hs4_1, if_neg hs4_2, if_pos hs4_3]
              | (rw [if_neg hs4_0, if_neg hs4_1, if_neg hs4_2, if_neg hs4_3, if_pos (show lg_cmp v 0 = 0 from h55)]; rfl)
              | (rw [if_neg hs4_0, if_neg hs4_1, if_neg hs4_2, if_neg hs4_3, if_neg (show ¬ lg_cmp v 0 = 0 from h55)]; rfl)

set_option maxRecDepth 100000 in
set_option maxHeartbeats 4000000 in
theorem xs_row_4 {g : zG} {d : Nat} {S : zS} {μ : zMem} {p n : Int32} (hd : 2 ≤ d) (hS : xS S μ) : zM g d X_row [.ref 1, .int (nI 4), .int p, .int n] μ (pO xS onlyX (opRow S (nI 4) p n) μ) := by
  refine zM_of (by decide +kernel) rfl rfl (Nat.le_of_ble_eq_true rfl) rfl ?_
  obtain ⟨ho, h2, hT, hC, hD, hI, hA, hH⟩ := hS
  have hS : xS S μ := ⟨ho, h2, hT, hC, hD, hI, hA, hH⟩
  have hb := ho.b
  have hv := ho.v
  have hB6 := ho.b6
  have hV12 := ho.v12
  have hz : zq sX μ μ := zq.rf
  refine zb X_row_s0 rfl ?_
  refine zcallV X_row_d2 k10_93 (by omega) (x_shelf_4 (by omega)) rfl rfl rfl (Nat.le_of_ble_eq_true rfl) ?_
  rintro _ μx ⟨rfl, hx⟩
  rw [hx]
  clear hx μx
  refine zb X_row_s5 rfl ?_
  refine z_null X_row_d9 ?_
  refine zb X_row_s12 rfl ?_
  refine zcallS X_row_d14 k10_170 (by omega) (x_isWithin _ _) rfl rfl (Nat.le_of_ble_eq_true rfl) ?_
  rintro _ μx ⟨rfl, hx⟩
  rw [hx]
  clear hx μx
  refine z_eq X_row_d17 (tgt := 26) rfl (fun h17 => ?_) (fun h17 => ?_)
  · refine zb X_row_s26 rfl ?_
    refine z_ret X_row_d27 rfl ?_
    first
      | (have f := fin_row (s := 4) hS (by omega) a1 a2 a3 a4
         rw [opRow_x (by omega) (zB_ne0.mp h17) h23 (Int32.not_lt.mpr h29)]
         exact ⟨rfl, f.1, f.2⟩)
      | (unfold opRow
         first
           | (rw [if_neg (fun z => z (And.intro (And.intro (by decide) (by decide)) (And.intro (zB_ne0.mp h17) h23))), if_pos (Int32.not_le.mp h29)]; exact ⟨rfl, hS, onlyX.rf⟩)
           | (rw [if_pos (fun z => h23 z.2.2)]; exact ⟨rfl, hS, onlyX.rf⟩)
           | (rw [if_pos (fun z => (zB_eq0.mp h17) z.2.1)]; exact ⟨rfl, hS, onlyX.rf⟩))
  · refine zb X_row_s20 rfl ?_
    refine z_cle X_row_d23 (tgt := 28) rfl (fun h23 => ?_) (fun h23 => ?_)
    · refine zb X_row_s28 rfl ?_
      refine z_ge X_row_d29 (tgt := 35) rfl (fun h29 => ?_) (fun h29 => ?_)
      · refine zb X_row_s35 rfl ?_
        refine zcallV X_row_d39 k10_339 (by omega) (x_lay_4 _ _ (by omega)) rfl rfl rfl (Nat.le_of_ble_eq_true rfl) ?_
        rintro _ μ1 ⟨rfl, a1, a2, a3, a4⟩
        refine zb X_row_s42 rfl ?_
        refine z_ret X_row_d43 rfl ?_
        first
          | (have f := fin_row (s := 4) hS (by omega) a1 a2 a3 a4
             rw [opRow_x (by omega) (zB_ne0.mp h17) h23 (Int32.not_lt.mpr h29)]
             exact ⟨rfl, f.1, f.2⟩)
          | (unfold opRow
             first
               | (rw [if_neg (fun z => z (And.intro (And.intro (by decide) (by decide)) (And.intro (zB_ne0.mp h17) h23))), if_pos (Int32.not_le.mp h29)]; exact ⟨rfl, hS, onlyX.rf⟩)
               | (rw [if_pos (fun z => h23 z.2.2)]; exact ⟨rfl, hS, onlyX.rf⟩)
               | (rw [if_pos (fun z => (zB_eq0.mp h17) z.2.1)]; exact ⟨rfl, hS, onlyX.rf⟩))
      · refine zb X_row_s32 rfl ?_
        refine z_ret X_row_d34 rfl ?_
        first
          | (have f := fin_row (s := 4) hS (by omega) a1 a2 a3 a4
             rw [opRow_x (by omega) (zB_ne0.mp h17) h23 (Int32.not_lt.mpr h29)]
             exact ⟨rfl, f.1, f.2⟩)
          | (unfold opRow
             first
               | (rw [if_neg (fun z => z (And.intro (And.intro (by decide) (by decide)) (And.intro (zB_ne0.mp h17) h23))), if_pos (Int32.not_le.mp h29)]; exact ⟨rfl, hS, onlyX.rf⟩)
               | (rw [if_pos (fun z => h23 z.2.2)]; exact ⟨rfl, hS, onlyX.rf⟩)
               | (rw [if_pos (fun z => (zB_eq0.mp h17) z.2.1)]; exact ⟨rfl, hS, onlyX.rf⟩))
    · refine zb X_row_s26 rfl ?_
      refine z_ret X_row_d27 rfl ?_
      first
        | (have f := fin_row (s := 4) hS (by omega) a1 a2 a3 a4
           rw [opRow_x (by omega) (zB_ne0.mp h17) h23 (Int32.not_lt.mpr h29)]
           exact ⟨rfl, f.1, f.2⟩)
        | (unfold opRow
           first
             | (rw [if_neg (fun z => z (And.intro (And.intro (by decide) (by decide)) (And.intro (zB_ne0.mp h17) h23))), if_pos (Int32.not_le.mp h29)]; exact ⟨rfl, hS, onlyX.rf⟩)
             | (rw [if_pos (fun z => h23 z.2.2)]; exact ⟨rfl, hS, onlyX.rf⟩)
             | (rw [if_pos (fun z => (zB_eq0.mp h17) z.2.1)]; exact ⟨rfl, hS, onlyX.rf⟩))

set_option maxRecDepth 100000 in
set_option maxHeartbeats 4000000 in
theorem xs_put_4 {g : zG} {d : Nat} {S : zS} {μ : zMem} {i : Int32} {v : Int64} (hd : 3 ≤ d) (hS : xS S μ) (hok : okH S) : zM g d X_put [.ref 1, .int (nI 4), .int i, .long v] μ (pO xS onlyX (opPut S (nI 4) i v) μ) := by
  refine zM_of (by decide +kernel) rfl rfl (Nat.le_of_ble_eq_true rfl) rfl ?_
  obtain ⟨ho, h2, hT, hC, hD, hI, hA, hH⟩ := hS
  have hS : xS S μ := ⟨ho, h2, hT, hC, hD, hI, hA, hH⟩
  have hb := ho.b
  have hv := ho.v
  have hB6 := ho.b6
  have hV12 := ho.v12
  have hz : zq sX μ μ := zq.rf
  refine zb X_put_s0 rfl ?_
  refine zcallV X_put_d2 k10_93 (by omega) (x_shelf_4 (by omega)) rfl rfl rfl (Nat.le_of_ble_eq_true rfl) ?_
  rintro _ μx ⟨rfl, hx⟩
  rw [hx]
  clear hx μx
  refine zb X_put_s5 rfl ?_
  refine z_nonnull X_put_d9 (tgt := 14) rfl ?_
  refine zb X_put_s14 rfl ?_
  refine zcallV X_put_d17 k10_342 (by omega) (x_refAt_4 _ (by omega)) rfl rfl rfl (Nat.le_of_ble_eq_true rfl) ?_
  rintro _ μx ⟨rfl, hx⟩
  rw [hx]
  clear hx μx
  have hrf := x_ref (s := 4) (i := i) hS hok (by omega)
  replace hrf : (if bE 17 μ then (-11 : Int32) else if ¬ bR 17 μ then -12 else if bP 17 i 1 μ then 0 else -13) = _ := hrf
  rw [hrf]
  refine zb X_put_s20 rfl ?_
  refine z_eq X_put_d24 (tgt := 30) rfl (fun h24 => ?_) (fun h24 => ?_)
  · have hb : barR S (nI 4) = 0 := Decidable.of_not_not (fun z => by
      rw [if_pos z] at h24
      exact z h24)
    rw [if_neg (fun z => z hb)] at h24
    have hi : 0 ≤ i ∧ i < hSize S 4 := Decidable.of_not_not (fun z => by
      rw [if_neg z] at h24
      exact absurd h24 (by decide))
    obtain ⟨q9, m, hs6, e9, -, hh, hm, em⟩ := barR_0 hb hok
    have e9' : 4 = q9 := (nI_eq (by omega) (by omega)).mp e9
    subst e9'
    have hi' := hi
    rw [em] at hi'
    obtain ⟨k, hk, rfl, ek⟩ := zix hi'.1 hi'.2 (by omega)
    have hvk : vp_in (nI k) 60 := vp_in_nI (by omega) (by omega)
    have xs := xsh (s := 4) hS hok (by omega)
    refine zb X_put_s30 rfl ?_
    refine zcallV X_put_d39 k10_349 (by omega) (x_narrowed_4 _ (by omega)) rfl rfl rfl (Nat.le_of_ble_eq_true rfl) ?_
    rintro _ μx ⟨rfl, hx⟩
    rw [hx]
    clear hx μx
    refine zb1 X_put_s42 rfl hvk ?_
    refine z_ret X_put_d44 rfl ?_
    first
      | (have es : μ.1 17 2 = hSort S 4 := by
           rcases xs with z | z | z
           · exact absurd (hh.symm.trans z.1) (by decide)
           · exact absurd (hh.symm.trans z.1) (by decide)
           · exact z.2.2.2.1
         rw [opPut_x (by omega) hb hi, es]
         have f := fin_put (s := 4) (k := (nI k).toNatClampNeg) (x := narL (hSort S 4) v) hS (by omega)
         exact ⟨rfl, f.1, f.2⟩)
      | (by_cases z : barR S (nI 4) = 0
         · have y : ¬ (0 ≤ i ∧ i < hSize S 4) := fun y => h24 (by rw [if_neg (fun w => w z), if_pos y])
           rw [opPut_out (by omega) z y]
           refine ⟨?_, hS, onlyX.rf⟩
           rw [if_neg (fun w => w z), if_neg y]
         · rw [opPut_bar z]
           refine ⟨?_, hS, onlyX.rf⟩
           rw [if_pos z])
  · refine zb X_put_s27 rfl ?_
    refine z_ret X_put_d29 rfl ?_
    first
      | (have es : μ.1 17 2 = hSort S 4 := by
           rcases xs with z | z | z
           · exact absurd (hh.symm.trans z.1) (by decide)
           · exact absurd (hh.symm.trans z.1) (by decide)
           · exact z.2.2.2.1
         rw [opPut_x (by omega) hb hi, es]
         have f := fin_put (s := 4) (k := (nI k).toNatClampNeg) (x := narL (hSort S 4) v) hS (by omega)
         exact ⟨rfl, f.1, f.2⟩)
      | (by_cases z : barR S (nI 4) = 0
         · have y : ¬ (0 ≤ i ∧ i < hSize S 4) := fun y => h24 (by rw [if_neg (fun w => w z), if_pos y])
           rw [opPut_out (by omega) z y]
           refine ⟨?_, hS, onlyX.rf⟩
           rw [if_neg (fun w => w z), if_neg y]
         · rw [opPut_bar z]
           refine ⟨?_, hS, onlyX.rf⟩
           rw [if_pos z])

set_option maxRecDepth 100000 in
set_option maxHeartbeats 4000000 in
theorem x_narrowed_5 {g : zG} {d : Nat} {μ : zMem} (v : Int64) (hd : 1 ≤ d) : zM g d S_narrowed [.ref 18, .long v] μ (fun r μ' => r = some (.long (narL (μ.1 18 2) v)) ∧ μ' = μ) := by
  refine zM_of (by decide +kernel) rfl rfl (Nat.le_of_ble_eq_true rfl) rfl ?_
  refine zb S_narrowed_s0 rfl ?_
  by_cases hs4_0 : μ.1 18 2 = 0
  · refine z_tabIn S_narrowed_d4 (off := 32) (tgt := 36) (by rw [hs4_0]; decide) (by rw [hs4_0]; decide) (by rw [hs4_0]; decide) rfl ?_
    refine zb S_narrowed_s36 rfl ?_
    refine z_retL S_narrowed_d40 rfl ?_
    refine ⟨congrArg (fun z => some (Value.long z)) ?_, rfl⟩
    unfold narL
    first
      | rw [if_pos hs4_0]
      | rw [if_neg hs4_0, if_pos hs4_1]
      | rw [if_neg hs4_0, if_neg hs4_1, if_pos hs4_2]
      | rw [if_neg hs4_0, if_neg hs4_1, if_neg hs4_2, if_pos hs4_3]
      | (rw [if_neg hs4_0, if_neg hs4_1, if_neg hs4_2, if_neg hs4_3, if_pos (show lg_cmp v 0 = 0 from h55)]; rfl)
      | (rw [if_neg hs4_0, if_neg hs4_1, if_neg hs4_2, if_neg hs4_3, if_neg (show ¬ lg_cmp v 0 = 0 from h55)]; rfl)
  · by_cases hs4_1 : μ.1 18 2 = 1
    · refine z_tabIn S_narrowed_d4 (off := 37) (tgt := 41) (by rw [hs4_1]; decide) (by rw [hs4_1]; decide) (by rw [hs4_1]; decide) rfl ?_
      refine zb S_narrowed_s41 rfl ?_
      refine z_retL S_narrowed_d45 rfl ?_
      refine ⟨congrArg (fun z => some (Value.long z)) ?_, rfl⟩
      unfold narL
      first
        | rw [if_pos hs4_0]
        | rw [if_neg hs4_0, if_pos hs4_1]
        | rw [if_neg hs4_0, if_neg hs4_1, if_pos hs4_2]
        | rw [if_neg hs4_0, if_neg hs4_1, if_neg hs4_2, if_pos hs4_3]
        | (rw [if_neg hs4_0, if_neg hs4_1, if_neg hs4_2, if_neg hs4_3, if_pos (show lg_cmp v 0 = 0 from h55)]; rfl)
        | (rw [if_neg hs4_0, if_neg hs4_1, if_neg hs4_2, if_neg hs4_3, if_neg (show ¬ lg_cmp v 0 = 0 from h55)]; rfl)
    · by_cases hs4_2 : μ.1 18 2 = 2
      · refine z_tabIn S_narrowed_d4 (off := 42) (tgt := 46) (by rw [hs4_2]; decide) (by rw [hs4_2]; decide) (by rw [hs4_2]; decide) rfl ?_
        refine zb S_narrowed_s46 rfl ?_
        refine z_retL S_narrowed_d49 rfl ?_
        refine ⟨congrArg (fun z => some (Value.long z)) ?_, rfl⟩
        unfold narL
        first
          | rw [if_pos hs4_0]
          | rw [if_neg hs4_0, if_pos hs4_1]
          | rw [if_neg hs4_0, if_neg hs4_1, if_pos hs4_2]
          | rw [if_neg hs4_0, if_neg hs4_1, if_neg hs4_2, if_pos hs4_3]
          | (rw [if_neg hs4_0, if_neg hs4_1, if_neg hs4_2, if_neg hs4_3, if_pos (show lg_cmp v 0 = 0 from h55)]; rfl)
          | (rw [if_neg hs4_0, if_neg hs4_1, if_neg hs4_2, if_neg hs4_3, if_neg (show ¬ lg_cmp v 0 = 0 from h55)]; rfl)
      · by_cases hs4_3 : μ.1 18 2 = 3
        · refine z_tabIn S_narrowed_d4 (off := 46) (tgt := 50) (by rw [hs4_3]; decide) (by rw [hs4_3]; decide) (by rw [hs4_3]; decide) rfl ?_
          refine zb S_narrowed_s50 rfl ?_
          refine z_retL S_narrowed_d51 rfl ?_
          refine ⟨congrArg (fun z => some (Value.long z)) ?_, rfl⟩
          unfold narL
          first
            | rw [if_pos hs4_0]
            | rw [if_neg hs4_0, if_pos hs4_1]
            | rw [if_neg hs4_0, if_neg hs4_1, if_pos hs4_2]
            | rw [if_neg hs4_0, if_neg hs4_1, if_neg hs4_2, if_pos hs4_3]
            | (rw [if_neg hs4_0, if_neg hs4_1, if_neg hs4_2, if_neg hs4_3, if_pos (show lg_cmp v 0 = 0 from h55)]; rfl)
            | (rw [if_neg hs4_0, if_neg hs4_1, if_neg hs4_2, if_neg hs4_3, if_neg (show ¬ lg_cmp v 0 = 0 from h55)]; rfl)
        · refine z_tabOut S_narrowed_d4 (tgt := 52) (zsw_out 4 (by decide) (fun k hk => by rcases (show k = 0 ∨ k = 1 ∨ k = 2 ∨ k = 3 by omega) with rfl | rfl | rfl | rfl <;> first | exact hs4_0 | exact hs4_1 | exact hs4_2 | exact hs4_3)) rfl ?_
          refine zb S_narrowed_s52 rfl ?_
          refine z_eq S_narrowed_d55 (tgt := 62) rfl (fun h55 => ?_) (fun h55 => ?_)
          · refine zb S_narrowed_s62 rfl ?_
            refine zcallN S_narrowed_d63 k8_49 (by omega) (x_bit _) rfl rfl (Nat.le_of_ble_eq_true rfl) ?_
            rintro _ μx ⟨rfl, hx⟩
            rw [hx]
            clear hx μx
            refine zb S_narrowed_s66 rfl ?_
            refine z_retL S_narrowed_d67 rfl ?_
            refine ⟨congrArg (fun z => some (Value.long z)) ?_, rfl⟩
            unfold narL
            first
              | rw [if_pos hs4_0]
              | rw [if_neg hs4_0, if_pos hs4_1]
              | rw [if_neg hs4_0, if_neg hs4_1, if_pos hs4_2]
              | rw [if_neg hs4_0, if_neg hs4_1, if_neg hs4_2, if_pos hs4_3]
              | (rw [if_neg hs4_0, if_neg hs4_1, if_neg hs4_2, if_neg hs4_3, if_pos (show lg_cmp v 0 = 0 from h55)]; rfl)
              | (rw [if_neg hs4_0, if_neg hs4_1, if_neg hs4_2, if_neg hs4_3, if_neg (show ¬ lg_cmp v 0 = 0 from h55)]; rfl)
          · refine zb S_narrowed_s58 rfl ?_
            refine zcallN S_narrowed_d63 k8_49 (by omega) (x_bit _) rfl rfl (Nat.le_of_ble_eq_true rfl) ?_
            rintro _ μx ⟨rfl, hx⟩
            rw [hx]
            clear hx μx
            refine zb S_narrowed_s66 rfl ?_
            refine z_retL S_narrowed_d67 rfl ?_
            refine ⟨congrArg (fun z => some (Value.long z)) ?_, rfl⟩
            unfold narL
            first
              | rw [if_pos hs4_0]
              | rw [if_neg hs4_0, if_pos hs4_1]
              | rw [if_neg hs4_0, if_neg hs4_1, if_pos hs4_2]
              | rw [if_neg hs4_0, if_neg hs4_1, if_neg hs4_2, if_pos hs4_3]
              | (rw [if_neg hs4_0, if_neg hs4_1, if_neg hs4_2, if_neg hs4_3, if_pos (show lg_cmp v 0 = 0 from h55)]; rfl)
              | (rw [if_neg hs4_0, if_neg hs4_1, if_neg hs4_2, if_neg hs4_3, if_neg (show ¬ lg_cmp v 0 = 0 from h55)]; rfl)

set_option maxRecDepth 100000 in
set_option maxHeartbeats 4000000 in
theorem xs_row_5 {g : zG} {d : Nat} {S : zS} {μ : zMem} {p n : Int32} (hd : 2 ≤ d) (hS : xS S μ) : zM g d X_row [.ref 1, .int (nI 5), .int p, .int n] μ (pO xS onlyX (opRow S (nI 5) p n) μ) := by
  refine zM_of (by decide +kernel) rfl rfl (Nat.le_of_ble_eq_true rfl) rfl ?_
  obtain ⟨ho, h2, hT, hC, hD, hI, hA, hH⟩ := hS
  have hS : xS S μ := ⟨ho, h2, hT, hC, hD, hI, hA, hH⟩
  have hb := ho.b
  have hv := ho.v
  have hB6 := ho.b6
  have hV12 := ho.v12
  have hz : zq sX μ μ := zq.rf
  refine zb X_row_s0 rfl ?_
  refine zcallV X_row_d2 k10_93 (by omega) (x_shelf_5 (by omega)) rfl rfl rfl (Nat.le_of_ble_eq_true rfl) ?_
  rintro _ μx ⟨rfl, hx⟩
  rw [hx]
  clear hx μx
  refine zb X_row_s5 rfl ?_
  refine z_null X_row_d9 ?_
  refine zb X_row_s12 rfl ?_
  refine zcallS X_row_d14 k10_170 (by omega) (x_isWithin _ _) rfl rfl (Nat.le_of_ble_eq_true rfl) ?_
  rintro _ μx ⟨rfl, hx⟩
  rw [hx]
  clear hx μx
  refine z_eq X_row_d17 (tgt := 26) rfl (fun h17 => ?_) (fun h17 => ?_)
  · refine zb X_row_s26 rfl ?_
    refine z_ret X_row_d27 rfl ?_
    first
      | (have f := fin_row (s := 5) hS (by omega) a1 a2 a3 a4
         rw [opRow_x (by omega) (zB_ne0.mp h17) h23 (Int32.not_lt.mpr h29)]
         exact ⟨rfl, f.1, f.2⟩)
      | (unfold opRow
         first
           | (rw [if_neg (fun z => z (And.intro (And.intro (by decide) (by decide)) (And.intro (zB_ne0.mp h17) h23))), if_pos (Int32.not_le.mp h29)]; exact ⟨rfl, hS, onlyX.rf⟩)
           | (rw [if_pos (fun z => h23 z.2.2)]; exact ⟨rfl, hS, onlyX.rf⟩)
           | (rw [if_pos (fun z => (zB_eq0.mp h17) z.2.1)]; exact ⟨rfl, hS, onlyX.rf⟩))
  · refine zb X_row_s20 rfl ?_
    refine z_cle X_row_d23 (tgt := 28) rfl (fun h23 => ?_) (fun h23 => ?_)
    · refine zb X_row_s28 rfl ?_
      refine z_ge X_row_d29 (tgt := 35) rfl (fun h29 => ?_) (fun h29 => ?_)
      · refine zb X_row_s35 rfl ?_
        refine zcallV X_row_d39 k10_339 (by omega) (x_lay_5 _ _ (by omega)) rfl rfl rfl (Nat.le_of_ble_eq_true rfl) ?_
        rintro _ μ1 ⟨rfl, a1, a2, a3, a4⟩
        refine zb X_row_s42 rfl ?_
        refine z_ret X_row_d43 rfl ?_
        first
          | (have f := fin_row (s := 5) hS (by omega) a1 a2 a3 a4
             rw [opRow_x (by omega) (zB_ne0.mp h17) h23 (Int32.not_lt.mpr h29)]
             exact ⟨rfl, f.1, f.2⟩)
          | (unfold opRow
             first
               | (rw [if_neg (fun z => z (And.intro (And.intro (by decide) (by decide)) (And.intro (zB_ne0.mp h17) h23))), if_pos (Int32.not_le.mp h29)]; exact ⟨rfl, hS, onlyX.rf⟩)
               | (rw [if_pos (fun z => h23 z.2.2)]; exact ⟨rfl, hS, onlyX.rf⟩)
               | (rw [if_pos (fun z => (zB_eq0.mp h17) z.2.1)]; exact ⟨rfl, hS, onlyX.rf⟩))
      · refine zb X_row_s32 rfl ?_
        refine z_ret X_row_d34 rfl ?_
        first
          | (have f := fin_row (s := 5) hS (by omega) a1 a2 a3 a4
             rw [opRow_x (by omega) (zB_ne0.mp h17) h23 (Int32.not_lt.mpr h29)]
             exact ⟨rfl, f.1, f.2⟩)
          | (unfold opRow
             first
               | (rw [if_neg (fun z => z (And.intro (And.intro (by decide) (by decide)) (And.intro (zB_ne0.mp h17) h23))), if_pos (Int32.not_le.mp h29)]; exact ⟨rfl, hS, onlyX.rf⟩)
               | (rw [if_pos (fun z => h23 z.2.2)]; exact ⟨rfl, hS, onlyX.rf⟩)
               | (rw [if_pos (fun z => (zB_eq0.mp h17) z.2.1)]; exact ⟨rfl, hS, onlyX.rf⟩))
    · refine zb X_row_s26 rfl ?_
      refine z_ret X_row_d27 rfl ?_
      first
        | (have f := fin_row (s := 5) hS (by omega) a1 a2 a3 a4
           rw [opRow_x (by omega) (zB_ne0.mp h17) h23 (Int32.not_lt.mpr h29)]
           exact ⟨rfl, f.1, f.2⟩)
        | (unfold opRow
           first
             | (rw [if_neg (fun z => z (And.intro (And.intro (by decide) (by decide)) (And.intro (zB_ne0.mp h17) h23))), if_pos (Int32.not_le.mp h29)]; exact ⟨rfl, hS, onlyX.rf⟩)
             | (rw [if_pos (fun z => h23 z.2.2)]; exact ⟨rfl, hS, onlyX.rf⟩)
             | (rw [if_pos (fun z => (zB_eq0.mp h17) z.2.1)]; exact ⟨rfl, hS, onlyX.rf⟩))

set_option maxRecDepth 100000 in
set_option maxHeartbeats 4000000 in
theorem xs_put_5 {g : zG} {d : Nat} {S : zS} {μ : zMem} {i : Int32} {v : Int64} (hd : 3 ≤ d) (hS : xS S μ) (hok : okH S) : zM g d X_put [.ref 1, .int (nI 5), .int i, .long v] μ (pO xS onlyX (opPut S (nI 5) i v) μ) := by
  refine zM_of (by decide +kernel) rfl rfl (Nat.le_of_ble_eq_true rfl) rfl ?_
  obtain ⟨ho, h2, hT, hC, hD, hI, hA, hH⟩ := hS
  have hS : xS S μ := ⟨ho, h2, hT, hC, hD, hI, hA, hH⟩
  have hb := ho.b
  have hv := ho.v
  have hB6 := ho.b6
  have hV12 := ho.v12
  have hz : zq sX μ μ := zq.rf
  refine zb X_put_s0 rfl ?_
  refine zcallV X_put_d2 k10_93 (by omega) (x_shelf_5 (by omega)) rfl rfl rfl (Nat.le_of_ble_eq_true rfl) ?_
  rintro _ μx ⟨rfl, hx⟩
  rw [hx]
  clear hx μx
  refine zb X_put_s5 rfl ?_
  refine z_nonnull X_put_d9 (tgt := 14) rfl ?_
  refine zb X_put_s14 rfl ?_
  refine zcallV X_put_d17 k10_342 (by omega) (x_refAt_5 _ (by omega)) rfl rfl rfl (Nat.le_of_ble_eq_true rfl) ?_
  rintro _ μx ⟨rfl, hx⟩
  rw [hx]
  clear hx μx
  have hrf := x_ref (s := 5) (i := i) hS hok (by omega)
  replace hrf : (if bE 18 μ then (-11 : Int32) else if ¬ bR 18 μ then -12 else if bP 18 i 1 μ then 0 else -13) = _ := hrf
  rw [hrf]
  refine zb X_put_s20 rfl ?_
  refine z_eq X_put_d24 (tgt := 30) rfl (fun h24 => ?_) (fun h24 => ?_)
  · have hb : barR S (nI 5) = 0 := Decidable.of_not_not (fun z => by
      rw [if_pos z] at h24
      exact z h24)
    rw [if_neg (fun z => z hb)] at h24
    have hi : 0 ≤ i ∧ i < hSize S 5 := Decidable.of_not_not (fun z => by
      rw [if_neg z] at h24
      exact absurd h24 (by decide))
    obtain ⟨q9, m, hs6, e9, -, hh, hm, em⟩ := barR_0 hb hok
    have e9' : 5 = q9 := (nI_eq (by omega) (by omega)).mp e9
    subst e9'
    have hi' := hi
    rw [em] at hi'
    obtain ⟨k, hk, rfl, ek⟩ := zix hi'.1 hi'.2 (by omega)
    have hvk : vp_in (nI k) 60 := vp_in_nI (by omega) (by omega)
    have xs := xsh (s := 5) hS hok (by omega)
    refine zb X_put_s30 rfl ?_
    refine zcallV X_put_d39 k10_349 (by omega) (x_narrowed_5 _ (by omega)) rfl rfl rfl (Nat.le_of_ble_eq_true rfl) ?_
    rintro _ μx ⟨rfl, hx⟩
    rw [hx]
    clear hx μx
    refine zb1 X_put_s42 rfl hvk ?_
    refine z_ret X_put_d44 rfl ?_
    first
      | (have es : μ.1 18 2 = hSort S 5 := by
           rcases xs with z | z | z
           · exact absurd (hh.symm.trans z.1) (by decide)
           · exact absurd (hh.symm.trans z.1) (by decide)
           · exact z.2.2.2.1
         rw [opPut_x (by omega) hb hi, es]
         have f := fin_put (s := 5) (k := (nI k).toNatClampNeg) (x := narL (hSort S 5) v) hS (by omega)
         exact ⟨rfl, f.1, f.2⟩)
      | (by_cases z : barR S (nI 5) = 0
         · have y : ¬ (0 ≤ i ∧ i < hSize S 5) := fun y => h24 (by rw [if_neg (fun w => w z), if_pos y])
           rw [opPut_out (by omega) z y]
           refine ⟨?_, hS, onlyX.rf⟩
           rw [if_neg (fun w => w z), if_neg y]
         · rw [opPut_bar z]
           refine ⟨?_, hS, onlyX.rf⟩
           rw [if_pos z])
  · refine zb X_put_s27 rfl ?_
    refine z_ret X_put_d29 rfl ?_
    first
      | (have es : μ.1 18 2 = hSort S 5 := by
           rcases xs with z | z | z
           · exact absurd (hh.symm.trans z.1) (by decide)
           · exact absurd (hh.symm.trans z.1) (by decide)
           · exact z.2.2.2.1
         rw [opPut_x (by omega) hb hi, es]
         have f := fin_put (s := 5) (k := (nI k).toNatClampNeg) (x := narL (hSort S 5) v) hS (by omega)
         exact ⟨rfl, f.1, f.2⟩)
      | (by_cases z : barR S (nI 5) = 0
         · have y : ¬ (0 ≤ i ∧ i < hSize S 5) := fun y => h24 (by rw [if_neg (fun w => w z), if_pos y])
           rw [opPut_out (by omega) z y]
           refine ⟨?_, hS, onlyX.rf⟩
           rw [if_neg (fun w => w z), if_neg y]
         · rw [opPut_bar z]
           refine ⟨?_, hS, onlyX.rf⟩
           rw [if_pos z])
