/-! the reference: shelves -/
def zH (S : zS) : zSh := S.2.2.2.2.2.2.2
def sH (S : zS) (h : zSh) : zS := (S.1, S.2.1, S.2.2.1, S.2.2.2.1, S.2.2.2.2.1, S.2.2.2.2.2.1, S.2.2.2.2.2.2.1, h)
def fuL (f : Nat → Nat → Int64) (s i : Nat) (x : Int64) : Nat → Nat → Int64 := fun s' i' => if s' = s ∧ i' = i then x else f s' i'
def opKeep (S : zS) (s b : Int32) : Int32 × zS := if ¬ ((0 ≤ s ∧ s < 6) ∧ (-1 ≤ b ∧ b ≤ nI (zA_ S).1.1 - 1)) then (-1, S) else (1, sH S (fu (hHeld S) s.toNatClampNeg (if b < 0 then 0 else 1), hSort S, hSize S, fu (hShown S) s.toNatClampNeg b, hCell S))
def opRow (S : zS) (s p n : Int32) : Int32 × zS := if ¬ ((0 ≤ s ∧ s < 6) ∧ (0 ≤ p ∧ p ≤ 4) ∧ n ≤ 60) then (-1, S) else if n < 0 then (-14, S) else (1, sH S (fu (hHeld S) s.toNatClampNeg 2, fu (hSort S) s.toNatClampNeg p, fu (hSize S) s.toNatClampNeg n, hShown S, fun s' i => if s' = s.toNatClampNeg then 0 else hCell S s' i))
def barR (S : zS) (s : Int32) : Int32 := if ¬ (0 ≤ s ∧ s < 6) then -1 else if hHeld S s.toNatClampNeg = 0 then -11 else if hHeld S s.toNatClampNeg = 1 then -12 else 0
def narL (p : Int32) (v : Int64) : Int64 := if p = 0 then v.toInt32.toInt8.toInt32.toInt64 else if p = 1 then v.toInt32.toInt16.toInt32.toInt64 else if p = 2 then v.toInt32.toInt64 else if p = 3 then v else if lg_cmp v 0 = 0 then 0 else 1
def isE (S : zS) (s i : Int32) : Prop := 0 ≤ i ∧ i < hSize S s.toNatClampNeg
def opPut (S : zS) (s i : Int32) (v : Int64) : Int32 × zS := if ¬ barR S s = 0 then (barR S s, S) else if ¬ (0 ≤ i ∧ i < hSize S s.toNatClampNeg) then (-13, S) else (1, sH S (hHeld S, hSort S, hSize S, hShown S, fuL (hCell S) s.toNatClampNeg i.toNatClampNeg (narL (hSort S s.toNatClampNeg) v)))
def opElement (S : zS) (s i : Int32) : Int64 := if barR S s = 0 ∧ (0 ≤ i ∧ i < hSize S s.toNatClampNeg) then hCell S s.toNatClampNeg i.toNatClampNeg else -9223372036854775808
def shC (S : zS) (s a p b n : Nat) : Nat → Nat → Int64 := fun s' q => if s' = p ∧ b ≤ q ∧ q < b + n then hCell S s (a + (q - b)) else hCell S s' q
def opShift (S : zS) (s i p j n : Int32) : Int32 × zS := if ¬ ((0 ≤ s ∧ s < 6) ∧ (0 ≤ p ∧ p < 6)) then (-1, S) else if hHeld S s.toNatClampNeg = 0 ∨ hHeld S p.toNatClampNeg = 0 then (-11, S) else if hHeld S s.toNatClampNeg = 1 ∨ hHeld S p.toNatClampNeg = 1 ∨ ¬ hSort S s.toNatClampNeg = hSort S p.toNatClampNeg then (-12, S) else if ¬ (0 ≤ n ∧ 0 ≤ i ∧ 0 ≤ j ∧ i ≤ hSize S s.toNatClampNeg - n ∧ j ≤ hSize S p.toNatClampNeg - n) then (-13, S) else (n, sH S (hHeld S, hSort S, hSize S, hShown S, shC S s.toNatClampNeg i.toNatClampNeg p.toNatClampNeg j.toNatClampNeg n.toNatClampNeg))
def unF : Nat → Int32 → Int32 → Bool
  | 0, _, _ => false
  | f + 1, u, k => if u < 0 then false else if u = k then true else unF f (aboI u) k
def opTaken (S : zS) (s k : Int32) : Int32 := if ¬ ((0 ≤ s ∧ s < 6) ∧ (0 ≤ k ∧ k ≤ 7)) then -1 else if hHeld S s.toNatClampNeg = 0 then -11 else if hHeld S s.toNatClampNeg = 2 then -12 else if unF 5 ((zA_ S).1.2 (hShown S s.toNatClampNeg).toNatClampNeg) k = true then (zA_ S).1.2 (hShown S s.toNatClampNeg).toNatClampNeg else -12
theorem e0L : (Int64.ofNat ((0 : Fin 2) : Nat)) = 0 := by decide
theorem zpL_at {μ : zMem} {c k p : Nat} {x : Int64} : (zpL μ c k x).2.1 c p = if p = k then x else μ.2.1 c p := by simp [zpL, zuL]
theorem zpL_ne {μ : zMem} {c k c' : Nat} {x : Int64} (h : c' ≠ c) : (zpL μ c k x).2.1 c' = μ.2.1 c' := by funext p; simp [zpL, zuL, h]
theorem ix60 {s i : Nat} (hs : s < 6) (hi : i < 60) : (60 : Int32) * nI s + nI i = nI (60 * s + i) ∧ vp_in ((60 : Int32) * nI s + nI i) 360 ∧ ((60 : Int32) * nI s + nI i).toNatClampNeg = 60 * s + i := by
  have e : (60 : Int32) * nI s + nI i = nI (60 * s + i) := by rw [show (60 : Int32) = nI 60 from rfl, pk_mul, nI_add]
  rw [e]
  exact ⟨rfl, vp_in_nI (by omega) (by omega), nI_clamp (by omega)⟩
/-- one number of a shelf -/
theorem mS.cell {S : zS} {μ : zMem} {s i : Nat} {x : Int64} (h : mS S μ) (hs : s < 6) (hi : i < 60) : mS (sH S (hHeld S, hSort S, hSize S, hShown S, fuL (hCell S) s i x)) (zpL μ 52 (60 * s + i) x) ∧ onlyM μ (zpL μ 52 (60 * s + i) x) := by
  obtain ⟨ho, h2, hT, hC, hD, hI, hA, hH⟩ := h
  refine ⟨⟨ho, h2, hT, hC, hD, hI, hA, ⟨hH.1, hH.2.1, hH.2.2.1, hH.2.2.2.1, fun s' i' hs' hi' => ?_⟩⟩, onlyM.putL rfl onlyM.rf⟩
  rw [zpL_at]
  show _ = fuL (hCell S) s i x s' i'
  unfold fuL
  by_cases e : s' = s ∧ i' = i
  · rw [if_pos e, if_pos (by omega)]
  · rw [if_neg e, if_neg (fun z => e (by omega))]
    exact hH.2.2.2.2 s' i' hs' hi'

set_option maxRecDepth 100000 in
set_option maxHeartbeats 4000000 in
theorem s_M_keep {g : zG} {d : Nat} {S : zS} {μ : zMem} {s b : Int32} (hd : 1 ≤ d) (hS : mS S μ) : zM g d M_keep [.ref 0, .int s, .int b] μ (pO mS onlyM (opKeep S s b) μ) := by
  refine zM_of (by decide +kernel) rfl rfl (Nat.le_of_ble_eq_true rfl) rfl ?_
  obtain ⟨ho, h2, hT, hC, hD, hI, hA, hH⟩ := hS
  have hS : mS S μ := ⟨ho, h2, hT, hC, hD, hI, hA, hH⟩
  have hb := ho.b
  have hv := ho.v
  have h6 := ho.b6
  have h12 := ho.v12
  have hz : zq sM μ μ := zq.rf
  replace hA : mA (zA_ S) μ := hA
  have e7 : μ.1 0 7 = nI (zA_ S).1.1 := hA.1
  have h50 : (zA_ S).1.1 ≤ 50 := hA.2.1
  have e46 : μ.1 46 = (zA_ S).1.2 := hA.2.2.1
  replace hH : mH (zH S) μ := hH
  have e48 : μ.1 48 = hHeld S := hH.1
  have e49 : μ.1 49 = hSort S := hH.2.1
  have e50 : μ.1 50 = hSize S := hH.2.2.1
  have e51 : μ.1 51 = hShown S := hH.2.2.2.1
  refine zb M_keep_s0 rfl ?_
  refine zcallV M_keep_d2 k11_124 (by omega) (o_isShelf _) rfl rfl rfl (Nat.le_of_ble_eq_true rfl) ?_
  rintro _ μx ⟨rfl, hx⟩
  rw [hx]
  clear hx μx
  refine z_eq M_keep_d5 (tgt := 23) rfl (fun h5 => ?_) (fun h5 => ?_)
  · refine zb M_keep_s23 rfl ?_
    refine z_ret M_keep_d24 rfl ?_
    unfold opKeep
    first
      | (rw [if_pos (fun z => (zB_eq0.mp h5) z.1)]; exact ⟨rfl, hS, onlyM.rf⟩)
      | (rw [if_pos (fun z => (zB_eq0.mp h20) z.2)]; exact ⟨rfl, hS, onlyM.rf⟩)
      | (rw [if_neg (fun z => z ⟨g1, zB_ne0.mp h20⟩), es]
         first
           | rw [if_pos (Int32.not_le.mp h31)]
           | rw [if_neg (Int32.not_lt.mpr h31)]
         have ho1 : ∀ a : Int32, oM S.1 (zpI (zpI μ 48 q a) 51 q b) := fun a => ⟨ho.1, by rw [← ho.2]; rfl⟩
         refine ⟨rfl, ⟨ho1 _, h2, hT, hC, hD, hI, hA, ⟨?_, e49, e50, ?_, hH.2.2.2.2⟩⟩, (by repeat (first | exact onlyM.rf | refine onlyM.put rfl ?_))⟩
         · show _ = fu (hHeld S) q _
           rw [← e48]
           rfl
         · show _ = fu (hShown S) q b
           rw [← e51]
           rfl)
  · refine zb M_keep_s8 rfl ?_
    rw [e7]
    refine zcallV M_keep_d17 k11_112 (by omega) (c_M_isIn _ _ _) rfl rfl rfl (Nat.le_of_ble_eq_true rfl) ?_
    rintro _ μx ⟨rfl, hx⟩
    rw [hx]
    clear hx μx
    refine z_ne M_keep_d20 (tgt := 25) rfl (fun h20 => ?_) (fun h20 => ?_)
    · have g1 := zB_ne0.mp h5
      obtain ⟨q, hs6, rfl, es⟩ := zix (n := 6) g1.1 g1.2 (by omega)
      have hvs : vp_in (nI q) 6 := vp_in_nI (by omega) (by omega)
      refine zb M_keep_s25 rfl ?_
      refine z_ge M_keep_d31 (tgt := 38) rfl (fun h31 => ?_) (fun h31 => ?_)
      · refine zb2 M_keep_s38 rfl hvs hvs ?_
        refine z_ret M_keep_d48 rfl ?_
        unfold opKeep
        first
          | (rw [if_pos (fun z => (zB_eq0.mp h5) z.1)]; exact ⟨rfl, hS, onlyM.rf⟩)
          | (rw [if_pos (fun z => (zB_eq0.mp h20) z.2)]; exact ⟨rfl, hS, onlyM.rf⟩)
          | (rw [if_neg (fun z => z ⟨g1, zB_ne0.mp h20⟩), es]
             first
               | rw [if_pos (Int32.not_le.mp h31)]
               | rw [if_neg (Int32.not_lt.mpr h31)]
             have ho1 : ∀ a : Int32, oM S.1 (zpI (zpI μ 48 q a) 51 q b) := fun a => ⟨ho.1, by rw [← ho.2]; rfl⟩
             refine ⟨rfl, ⟨ho1 _, h2, hT, hC, hD, hI, hA, ⟨?_, e49, e50, ?_, hH.2.2.2.2⟩⟩, (by repeat (first | exact onlyM.rf | refine onlyM.put rfl ?_))⟩
             · show _ = fu (hHeld S) q _
               rw [← e48]
               rfl
             · show _ = fu (hShown S) q b
               rw [← e51]
               rfl)
      · refine zb2 M_keep_s34 rfl hvs hvs ?_
        refine z_ret M_keep_d48 rfl ?_
        unfold opKeep
        first
          | (rw [if_pos (fun z => (zB_eq0.mp h5) z.1)]; exact ⟨rfl, hS, onlyM.rf⟩)
          | (rw [if_pos (fun z => (zB_eq0.mp h20) z.2)]; exact ⟨rfl, hS, onlyM.rf⟩)
          | (rw [if_neg (fun z => z ⟨g1, zB_ne0.mp h20⟩), es]
             first
               | rw [if_pos (Int32.not_le.mp h31)]
               | rw [if_neg (Int32.not_lt.mpr h31)]
             have ho1 : ∀ a : Int32, oM S.1 (zpI (zpI μ 48 q a) 51 q b) := fun a => ⟨ho.1, by rw [← ho.2]; rfl⟩
             refine ⟨rfl, ⟨ho1 _, h2, hT, hC, hD, hI, hA, ⟨?_, e49, e50, ?_, hH.2.2.2.2⟩⟩, (by repeat (first | exact onlyM.rf | refine onlyM.put rfl ?_))⟩
             · show _ = fu (hHeld S) q _
               rw [← e48]
               rfl
             · show _ = fu (hShown S) q b
               rw [← e51]
               rfl)
    · refine zb M_keep_s23 rfl ?_
      refine z_ret M_keep_d24 rfl ?_
      unfold opKeep
      first
        | (rw [if_pos (fun z => (zB_eq0.mp h5) z.1)]; exact ⟨rfl, hS, onlyM.rf⟩)
        | (rw [if_pos (fun z => (zB_eq0.mp h20) z.2)]; exact ⟨rfl, hS, onlyM.rf⟩)
        | (rw [if_neg (fun z => z ⟨g1, zB_ne0.mp h20⟩), es]
           first
             | rw [if_pos (Int32.not_le.mp h31)]
             | rw [if_neg (Int32.not_lt.mpr h31)]
           have ho1 : ∀ a : Int32, oM S.1 (zpI (zpI μ 48 q a) 51 q b) := fun a => ⟨ho.1, by rw [← ho.2]; rfl⟩
           refine ⟨rfl, ⟨ho1 _, h2, hT, hC, hD, hI, hA, ⟨?_, e49, e50, ?_, hH.2.2.2.2⟩⟩, (by repeat (first | exact onlyM.rf | refine onlyM.put rfl ?_))⟩
           · show _ = fu (hHeld S) q _
             rw [← e48]
             rfl
           · show _ = fu (hShown S) q b
             rw [← e51]
             rfl)

def roC (S : zS) (s i : Nat) : Nat → Nat → Int64 := fun s' k => if s' = s ∧ k < i then 0 else hCell S s' k
def roS (S : zS) (s i : Nat) : zS := sH S (hHeld S, hSort S, hSize S, hShown S, roC S s i)
theorem mS_sH {S : zS} {h : zSh} {μ : zMem} : mS (sH S h) μ ↔ (oM S.1 μ ∧ m2 S.2.1 μ ∧ mT S.2.2.1 μ ∧ mC S.2.2.2.1 μ ∧ mD S.2.2.2.2.1 μ ∧ mI S.2.2.2.2.2.1 μ ∧ mA S.2.2.2.2.2.2.1 μ) ∧ mH h μ := ⟨fun ⟨a, b, c, d, e, f, g, h⟩ => ⟨⟨a, b, c, d, e, f, g⟩, h⟩, fun ⟨⟨a, b, c, d, e, f, g⟩, h⟩ => ⟨a, b, c, d, e, f, g, h⟩⟩
theorem roS.s {S : zS} {μ : zMem} {s i : Nat} (h : mS (roS S s i) μ) (hs : s < 6) (hi : i < 60) : mS (roS S s (i + 1)) (zpL μ 52 (60 * s + i) 0) := by
  unfold roS at h ⊢
  rw [mS_sH] at h ⊢
  obtain ⟨ho, hH⟩ := h
  refine ⟨ho, ⟨hH.1, hH.2.1, hH.2.2.1, hH.2.2.2.1, fun s' k hs' hk => ?_⟩⟩
  have e : μ.2.1 52 (60 * s' + k) = roC S s i s' k := hH.2.2.2.2 s' k hs' hk
  rw [zpL_at, e]
  show _ = roC S s (i + 1) s' k
  unfold roC
  by_cases z : s' = s ∧ k = i
  · rw [if_pos (show 60 * s' + k = 60 * s + i by omega), if_pos ⟨z.1, by omega⟩]
  · rw [if_neg (fun y => z (by omega))]
    by_cases y : s' = s ∧ k < i
    · rw [if_pos y, if_pos ⟨y.1, by omega⟩]
    · rw [if_neg y, if_neg (fun x => by
        by_cases w : k = i
        · exact z ⟨x.1, w⟩
        · exact y ⟨x.1, by omega⟩)]
theorem roS.e {S : zS} {μ : zMem} {s : Nat} (h : mS (roS S s 60) μ) : mS (sH S (hHeld S, hSort S, hSize S, hShown S, fun s' i => if s' = s then 0 else hCell S s' i)) μ := by
  unfold roS at h
  rw [mS_sH] at h ⊢
  obtain ⟨ho, hH⟩ := h
  refine ⟨ho, ⟨hH.1, hH.2.1, hH.2.2.1, hH.2.2.2.1, fun s' k hs' hk => ?_⟩⟩
  have e : μ.2.1 52 (60 * s' + k) = roC S s 60 s' k := hH.2.2.2.2 s' k hs' hk
  rw [e]
  show roC S s 60 s' k = if s' = s then 0 else hCell S s' k
  unfold roC
  by_cases z : s' = s
  · rw [if_pos z, if_pos ⟨z, hk⟩]
  · rw [if_neg z, if_neg (fun y => z y.1)]
theorem roS.z {S : zS} {μ : zMem} {s : Nat} (h : mS S μ) : mS (roS S s 0) μ := by
  obtain ⟨ho, h2, hT, hC, hD, hI, hA, hH⟩ := h
  refine ⟨ho, h2, hT, hC, hD, hI, hA, ⟨hH.1, hH.2.1, hH.2.2.1, hH.2.2.2.1, fun s' k hs' hk => ?_⟩⟩
  have e : μ.2.1 52 (60 * s' + k) = hCell S s' k := hH.2.2.2.2 s' k hs' hk
  rw [e]
  show _ = roC S s 0 s' k
  unfold roC
  rw [if_neg (fun z => absurd z.2 (Nat.not_lt_zero _))]

set_option maxRecDepth 100000 in
set_option maxHeartbeats 4000000 in
theorem w_M_row {g : zG} {d : Nat} {P : Nat → zMem → Prop} {s : Nat} {p n : Int32} {Q : Option Value → zMem → Prop} (hs6 : s < 6) (hP : ∀ (i : Nat) (μ : zMem), i < 60 → P i μ → P (i + 1) (zpL μ 52 (60 * s + i) 0)) (hQ : ∀ μ : zMem, P 60 μ → zW g M_row d 83 [some (.ref 0), some (.int (nI s)), some (.int p), some (.int n), some (.int (nI 60))] [] μ Q) : ∀ (j i : Nat) (μ : zMem), i + j = 60 → (P i μ) → zW g M_row d 57 [some (.ref 0), some (.int (nI s)), some (.int p), some (.int n), some (.int (nI i))] [] μ (Q) := by
  intro j
  induction j with
  | zero =>
    intro i  μ hi  hv0
    have hi : 60 = i := by omega
    subst hi
    refine zb M_row_s57 rfl ?_
    refine z_cge M_row_d61 (tgt := 83) rfl (fun h61 => ?_) (fun h61 => absurd (show 60 ≤ nI (60) by first | exact Int32.le_refl _ | (rw [hbd]; exact Int32.le_refl _)) h61)
    exact hQ _ hv0
  | succ j ih =>
    intro i  μ hi  hv0
    have hilt : i < 60 := by omega
    have ei : (nI i).toNatClampNeg = i := nI_clamp (by omega)
    have ix := ix60 hs6 hilt
    refine zb M_row_s57 rfl ?_
    refine z_cge M_row_d61 (tgt := 83) rfl (fun h61 => absurd h61 (show ¬ 60 ≤ nI i by first | exact nI_ge (b := 60) hilt (by omega) | (rw [hbd]; exact nI_ge hilt (by omega)))) (fun h61 => ?_)
    refine zb1 M_row_s64 rfl ix.2.1 ?_
    rw [nI_1, ix.2.2, e0L]
    exact ih (i + 1) _ (by omega) (hP i μ hilt hv0)

set_option maxRecDepth 100000 in
set_option maxHeartbeats 4000000 in
theorem s_M_row {g : zG} {d : Nat} {S : zS} {μ : zMem} {s p n : Int32} (hd : 1 ≤ d) (hS : mS S μ) : zM g d M_row [.ref 0, .int s, .int p, .int n] μ (pO mS onlyM (opRow S s p n) μ) := by
  refine zM_of (by decide +kernel) rfl rfl (Nat.le_of_ble_eq_true rfl) rfl ?_
  obtain ⟨ho, h2, hT, hC, hD, hI, hA, hH⟩ := hS
  have hS : mS S μ := ⟨ho, h2, hT, hC, hD, hI, hA, hH⟩
  have hb := ho.b
  have hv := ho.v
  have h6 := ho.b6
  have h12 := ho.v12
  have hz : zq sM μ μ := zq.rf
  replace hA : mA (zA_ S) μ := hA
  have e7 : μ.1 0 7 = nI (zA_ S).1.1 := hA.1
  have h50 : (zA_ S).1.1 ≤ 50 := hA.2.1
  have e46 : μ.1 46 = (zA_ S).1.2 := hA.2.2.1
  replace hH : mH (zH S) μ := hH
  have e48 : μ.1 48 = hHeld S := hH.1
  have e49 : μ.1 49 = hSort S := hH.2.1
  have e50 : μ.1 50 = hSize S := hH.2.2.1
  have e51 : μ.1 51 = hShown S := hH.2.2.2.1
  refine zb M_row_s0 rfl ?_
  refine zcallV M_row_d2 k11_124 (by omega) (o_isShelf _) rfl rfl rfl (Nat.le_of_ble_eq_true rfl) ?_
  rintro _ μx ⟨rfl, hx⟩
  rw [hx]
  clear hx μx
  refine z_eq M_row_d5 (tgt := 24) rfl (fun h5 => ?_) (fun h5 => ?_)
  · refine zb M_row_s24 rfl ?_
    refine z_ret M_row_d25 rfl ?_
    unfold opRow
    first
      | (rw [if_pos (fun z => (zB_eq0.mp h5) z.1)]; exact ⟨rfl, hS, onlyM.rf⟩)
      | (rw [if_pos (fun z => (zB_eq0.mp h15) z.2.1)]; exact ⟨rfl, hS, onlyM.rf⟩)
      | (rw [if_neg (fun z => z ⟨g1, zB_ne0.mp h15, h21⟩), if_pos (Int32.not_le.mp h27)]; exact ⟨rfl, hS, onlyM.rf⟩)
      | (rw [if_pos (fun z => h21 z.2.2)]; exact ⟨rfl, hS, onlyM.rf⟩)
  · refine zb M_row_s8 rfl ?_
    refine zcallV M_row_d12 k11_112 (by omega) (c_M_isIn _ _ _) rfl rfl rfl (Nat.le_of_ble_eq_true rfl) ?_
    rintro _ μx ⟨rfl, hx⟩
    rw [hx]
    clear hx μx
    refine z_eq M_row_d15 (tgt := 24) rfl (fun h15 => ?_) (fun h15 => ?_)
    · refine zb M_row_s24 rfl ?_
      refine z_ret M_row_d25 rfl ?_
      unfold opRow
      first
        | (rw [if_pos (fun z => (zB_eq0.mp h5) z.1)]; exact ⟨rfl, hS, onlyM.rf⟩)
        | (rw [if_pos (fun z => (zB_eq0.mp h15) z.2.1)]; exact ⟨rfl, hS, onlyM.rf⟩)
        | (rw [if_neg (fun z => z ⟨g1, zB_ne0.mp h15, h21⟩), if_pos (Int32.not_le.mp h27)]; exact ⟨rfl, hS, onlyM.rf⟩)
        | (rw [if_pos (fun z => h21 z.2.2)]; exact ⟨rfl, hS, onlyM.rf⟩)
    · refine zb M_row_s18 rfl ?_
      refine z_cle M_row_d21 (tgt := 26) rfl (fun h21 => ?_) (fun h21 => ?_)
      · have g1 := zB_ne0.mp h5
        obtain ⟨q, hs6, rfl, es⟩ := zix (n := 6) g1.1 g1.2 (by omega)
        have hvs : vp_in (nI q) 6 := vp_in_nI (by omega) (by omega)
        refine zb M_row_s26 rfl ?_
        refine z_ge M_row_d27 (tgt := 33) rfl (fun h27 => ?_) (fun h27 => ?_)
        · refine zb3 M_row_s33 rfl hvs hvs hvs ?_
          rw [es]
          unfold opRow
          rw [if_neg (fun z => z ⟨g1, zB_ne0.mp h15, h21⟩), if_neg (Int32.not_lt.mpr h27), es]
          have ho1 : oM S.1 (zpI (zpI (zpI μ 48 q 2) 49 q p) 50 q n) := ⟨ho.1, by rw [← ho.2]; rfl⟩
          have hS1 : mS (sH S (fu (hHeld S) q 2, fu (hSort S) q p, fu (hSize S) q n, hShown S, hCell S)) (zpI (zpI (zpI μ 48 q 2) 49 q p) 50 q n) := by
            refine ⟨ho1, h2, hT, hC, hD, hI, hA, ⟨?_, ?_, ?_, e51, hH.2.2.2.2⟩⟩
            · show _ = fu (hHeld S) q 2
              rw [← e48]
              rfl
            · show _ = fu (hSort S) q p
              rw [← e49]
              rfl
            · show _ = fu (hSize S) q n
              rw [← e50]
              rfl
          have hO1 : onlyM μ (zpI (zpI (zpI μ 48 q 2) 49 q p) 50 q n) := by repeat (first | exact onlyM.rf | refine onlyM.put rfl ?_)
          refine w_M_row (P := fun i μ2 => mS (roS (sH S (fu (hHeld S) q 2, fu (hSort S) q p, fu (hSize S) q n, hShown S, hCell S)) q i) μ2 ∧ onlyM μ μ2) hs6 (fun i μ2 hi h => ⟨roS.s h.1 hs6 hi, h.2.tr (onlyM.putL rfl onlyM.rf)⟩) (fun μ1 h => ?_) 60 0 _ (by omega) ⟨roS.z hS1, hO1⟩
          refine zb M_row_s83 rfl ?_
          refine z_ret M_row_d84 rfl ?_
          exact ⟨rfl, roS.e h.1, h.2⟩
        · refine zb M_row_s30 rfl ?_
          refine z_ret M_row_d32 rfl ?_
          unfold opRow
          first
            | (rw [if_pos (fun z => (zB_eq0.mp h5) z.1)]; exact ⟨rfl, hS, onlyM.rf⟩)
            | (rw [if_pos (fun z => (zB_eq0.mp h15) z.2.1)]; exact ⟨rfl, hS, onlyM.rf⟩)
            | (rw [if_neg (fun z => z ⟨g1, zB_ne0.mp h15, h21⟩), if_pos (Int32.not_le.mp h27)]; exact ⟨rfl, hS, onlyM.rf⟩)
            | (rw [if_pos (fun z => h21 z.2.2)]; exact ⟨rfl, hS, onlyM.rf⟩)
      · refine zb M_row_s24 rfl ?_
        refine z_ret M_row_d25 rfl ?_
        unfold opRow
        first
          | (rw [if_pos (fun z => (zB_eq0.mp h5) z.1)]; exact ⟨rfl, hS, onlyM.rf⟩)
          | (rw [if_pos (fun z => (zB_eq0.mp h15) z.2.1)]; exact ⟨rfl, hS, onlyM.rf⟩)
          | (rw [if_neg (fun z => z ⟨g1, zB_ne0.mp h15, h21⟩), if_pos (Int32.not_le.mp h27)]; exact ⟨rfl, hS, onlyM.rf⟩)
          | (rw [if_pos (fun z => h21 z.2.2)]; exact ⟨rfl, hS, onlyM.rf⟩)

set_option maxRecDepth 100000 in
set_option maxHeartbeats 4000000 in
theorem o_barsOfRow {g : zG} {d : Nat} {S : zS} {μ : zMem} {s : Int32} (hd : 1 ≤ d) (hS : mS S μ) : zM g d M_barsOfRow [.ref 0, .int s] μ (fun r μ' => r = some (.int (barR S s)) ∧ μ' = μ) := by
  refine zM_of (by decide +kernel) rfl rfl (Nat.le_of_ble_eq_true rfl) rfl ?_
  obtain ⟨ho, h2, hT, hC, hD, hI, hA, hH⟩ := hS
  have hS : mS S μ := ⟨ho, h2, hT, hC, hD, hI, hA, hH⟩
  have hb := ho.b
  have hv := ho.v
  have h6 := ho.b6
  have h12 := ho.v12
  have hz : zq sM μ μ := zq.rf
  replace hA : mA (zA_ S) μ := hA
  have e7 : μ.1 0 7 = nI (zA_ S).1.1 := hA.1
  have h50 : (zA_ S).1.1 ≤ 50 := hA.2.1
  have e46 : μ.1 46 = (zA_ S).1.2 := hA.2.2.1
  replace hH : mH (zH S) μ := hH
  have e48 : μ.1 48 = hHeld S := hH.1
  have e49 : μ.1 49 = hSort S := hH.2.1
  have e50 : μ.1 50 = hSize S := hH.2.2.1
  have e51 : μ.1 51 = hShown S := hH.2.2.2.1
  refine zb M_barsOfRow_s0 rfl ?_
  refine zcallV M_barsOfRow_d2 k11_124 (by omega) (o_isShelf _) rfl rfl rfl (Nat.le_of_ble_eq_true rfl) ?_
  rintro _ μx ⟨rfl, hx⟩
  rw [hx]
  clear hx μx
  refine z_ne M_barsOfRow_d5 (tgt := 12) rfl (fun h5 => ?_) (fun h5 => ?_)
  · have g1 := zB_ne0.mp h5
    obtain ⟨q, hs6, rfl, es⟩ := zix (n := 6) g1.1 g1.2 (by omega)
    have hvs : vp_in (nI q) 6 := vp_in_nI (by omega) (by omega)
    refine zb1 M_barsOfRow_s12 rfl hvs ?_
    refine z_ne M_barsOfRow_d18 (tgt := 26) rfl (fun h18 => ?_) (fun h18 => ?_)
    · refine zb1 M_barsOfRow_s26 rfl hvs ?_
      refine z_cne M_barsOfRow_d33 (tgt := 41) rfl (fun h33 => ?_) (fun h33 => ?_)
      · refine zb M_barsOfRow_s41 rfl ?_
        refine z_ret M_barsOfRow_d42 rfl ?_
        refine ⟨?_, rfl⟩
        unfold barR
        first
          | rw [if_pos (zB_eq0.mp h5)]
          | (rw [e48, es] at h18
             rw [if_neg (fun z => z g1), es]
             first
               | rw [if_pos h18]
               | (rw [e48, es] at h33
                  rw [if_neg h18]
                  first | rw [if_pos h33] | rw [if_neg h33]))
      · refine zb M_barsOfRow_s36 rfl ?_
        refine z_ret M_barsOfRow_d42 rfl ?_
        refine ⟨?_, rfl⟩
        unfold barR
        first
          | rw [if_pos (zB_eq0.mp h5)]
          | (rw [e48, es] at h18
             rw [if_neg (fun z => z g1), es]
             first
               | rw [if_pos h18]
               | (rw [e48, es] at h33
                  rw [if_neg h18]
                  first | rw [if_pos h33] | rw [if_neg h33]))
    · refine zb M_barsOfRow_s21 rfl ?_
      refine z_ret M_barsOfRow_d42 rfl ?_
      refine ⟨?_, rfl⟩
      unfold barR
      first
        | rw [if_pos (zB_eq0.mp h5)]
        | (rw [e48, es] at h18
           rw [if_neg (fun z => z g1), es]
           first
             | rw [if_pos h18]
             | (rw [e48, es] at h33
                rw [if_neg h18]
                first | rw [if_pos h33] | rw [if_neg h33]))
  · skip
    refine zb M_barsOfRow_s8 rfl ?_
    refine z_ret M_barsOfRow_d42 rfl ?_
    refine ⟨?_, rfl⟩
    unfold barR
    first
      | rw [if_pos (zB_eq0.mp h5)]
      | (rw [e48, es] at h18
         rw [if_neg (fun z => z g1), es]
         first
           | rw [if_pos h18]
           | (rw [e48, es] at h33
              rw [if_neg h18]
              first | rw [if_pos h33] | rw [if_neg h33]))

set_option maxRecDepth 100000 in
set_option maxHeartbeats 4000000 in
theorem o_isElement {g : zG} {d : Nat} {S : zS} {μ : zMem} {q : Nat} {i : Int32} (hs6 : q < 6) (hS : mS S μ) : zM g d M_isElement [.ref 0, .int (nI q), .int i] μ (fun r μ' => r = some (.int (zB (0 ≤ i ∧ i < hSize S q))) ∧ μ' = μ) := by
  refine zM_of (by decide +kernel) rfl rfl (Nat.le_of_ble_eq_true rfl) rfl ?_
  obtain ⟨ho, h2, hT, hC, hD, hI, hA, hH⟩ := hS
  have hS : mS S μ := ⟨ho, h2, hT, hC, hD, hI, hA, hH⟩
  have hb := ho.b
  have hv := ho.v
  have h6 := ho.b6
  have h12 := ho.v12
  have hz : zq sM μ μ := zq.rf
  replace hA : mA (zA_ S) μ := hA
  have e7 : μ.1 0 7 = nI (zA_ S).1.1 := hA.1
  have h50 : (zA_ S).1.1 ≤ 50 := hA.2.1
  have e46 : μ.1 46 = (zA_ S).1.2 := hA.2.2.1
  replace hH : mH (zH S) μ := hH
  have e48 : μ.1 48 = hHeld S := hH.1
  have e49 : μ.1 49 = hSort S := hH.2.1
  have e50 : μ.1 50 = hSize S := hH.2.2.1
  have e51 : μ.1 51 = hShown S := hH.2.2.2.1
  have hvs : vp_in (nI q) 6 := vp_in_nI (by omega) (by omega)
  have es : (nI q).toNatClampNeg = q := nI_clamp (by omega)
  refine zb M_isElement_s0 rfl ?_
  refine z_lt M_isElement_d1 (tgt := 18) rfl (fun h1 => ?_) (fun h1 => ?_)
  · refine zb M_isElement_s18 rfl ?_
    refine z_retZ M_isElement_d19 rfl (by first | exact Or.inl rfl | exact Or.inr rfl) ?_
    refine ⟨?_, rfl⟩
    (try rw [e50, es] at h11)
    first
      | rw [zB_t (show 0 ≤ i ∧ i < hSize S q from ⟨Int32.not_lt.mp h1, Int32.not_le.mp h11⟩)]
      | rw [zB_f (fun z : 0 ≤ i ∧ i < hSize S q => absurd z.1 (Int32.not_le.mpr h1))]
      | rw [zB_f (fun z : 0 ≤ i ∧ i < hSize S q => absurd z.2 (Int32.not_lt.mpr h11))]
  · refine zb1 M_isElement_s4 rfl hvs ?_
    refine z_cge M_isElement_d11 (tgt := 18) rfl (fun h11 => ?_) (fun h11 => ?_)
    · refine zb M_isElement_s18 rfl ?_
      refine z_retZ M_isElement_d19 rfl (by first | exact Or.inl rfl | exact Or.inr rfl) ?_
      refine ⟨?_, rfl⟩
      (try rw [e50, es] at h11)
      first
        | rw [zB_t (show 0 ≤ i ∧ i < hSize S q from ⟨Int32.not_lt.mp h1, Int32.not_le.mp h11⟩)]
        | rw [zB_f (fun z : 0 ≤ i ∧ i < hSize S q => absurd z.1 (Int32.not_le.mpr h1))]
        | rw [zB_f (fun z : 0 ≤ i ∧ i < hSize S q => absurd z.2 (Int32.not_lt.mpr h11))]
    · refine zb M_isElement_s14 rfl ?_
      refine z_retZ M_isElement_d19 rfl (by first | exact Or.inl rfl | exact Or.inr rfl) ?_
      refine ⟨?_, rfl⟩
      (try rw [e50, es] at h11)
      first
        | rw [zB_t (show 0 ≤ i ∧ i < hSize S q from ⟨Int32.not_lt.mp h1, Int32.not_le.mp h11⟩)]
        | rw [zB_f (fun z : 0 ≤ i ∧ i < hSize S q => absurd z.1 (Int32.not_le.mpr h1))]
        | rw [zB_f (fun z : 0 ≤ i ∧ i < hSize S q => absurd z.2 (Int32.not_lt.mpr h11))]

theorem barR_0 {S : zS} {s : Int32} (h : barR S s = 0) (hok : okH S) : ∃ q m : Nat, q < 6 ∧ s = nI q ∧ s.toNatClampNeg = q ∧ hHeld S q = 2 ∧ m ≤ 60 ∧ hSize S q = nI m := by
  unfold barR at h
  by_cases z : 0 ≤ s ∧ s < 6
  · rw [if_neg (fun y => y z)] at h
    obtain ⟨q, hs6, rfl, es⟩ := zix (n := 6) z.1 z.2 (by omega)
    rw [es] at h
    rcases hok q hs6 with w | w | w
    · rw [if_pos w] at h; exact absurd h (by decide)
    · rw [if_neg (by rw [w.1]; decide), if_pos w.1] at h; exact absurd h (by decide)
    · obtain ⟨m, hm, em⟩ := w.2.2.1
      exact ⟨q, m, hs6, rfl, es, w.1, hm, em⟩
  · rw [if_pos z] at h; exact absurd h (by decide)

set_option maxRecDepth 100000 in
set_option maxHeartbeats 4000000 in
theorem s_M_put {g : zG} {d : Nat} {S : zS} {μ : zMem} {s i : Int32} {v : Int64} (hd : 2 ≤ d) (hS : mS S μ) (hok : okH S) : zM g d M_put [.ref 0, .int s, .int i, .long v] μ (pO mS onlyM (opPut S s i v) μ) := by
  refine zM_of (by decide +kernel) rfl rfl (Nat.le_of_ble_eq_true rfl) rfl ?_
  obtain ⟨ho, h2, hT, hC, hD, hI, hA, hH⟩ := hS
  have hS : mS S μ := ⟨ho, h2, hT, hC, hD, hI, hA, hH⟩
  have hb := ho.b
  have hv := ho.v
  have h6 := ho.b6
  have h12 := ho.v12
  have hz : zq sM μ μ := zq.rf
  replace hA : mA (zA_ S) μ := hA
  have e7 : μ.1 0 7 = nI (zA_ S).1.1 := hA.1
  have h50 : (zA_ S).1.1 ≤ 50 := hA.2.1
  have e46 : μ.1 46 = (zA_ S).1.2 := hA.2.2.1
  replace hH : mH (zH S) μ := hH
  have e48 : μ.1 48 = hHeld S := hH.1
  have e49 : μ.1 49 = hSort S := hH.2.1
  have e50 : μ.1 50 = hSize S := hH.2.2.1
  have e51 : μ.1 51 = hShown S := hH.2.2.2.1
  refine zb M_put_s0 rfl ?_
  refine zcallV M_put_d2 k11_379 (by omega) (o_barsOfRow (by omega) hS) rfl rfl rfl (Nat.le_of_ble_eq_true rfl) ?_
  rintro _ μx ⟨rfl, hx⟩
  rw [hx]
  clear hx μx
  refine zb M_put_s5 rfl ?_
  refine z_eq M_put_d9 (tgt := 15) rfl (fun h9 => ?_) (fun h9 => ?_)
  · have h0 : barR S s = 0 := Decidable.of_not_not (fun z => by first | exact z h9 | exact absurd h9 z)
    obtain ⟨q, m, hs6, rfl, es, hh, hm, em⟩ := barR_0 h0 hok
    have hvs : vp_in (nI q) 6 := vp_in_nI (by omega) (by omega)
    refine zb M_put_s15 rfl ?_
    refine zcallV M_put_d18 k11_382 (by omega) (o_isElement hs6 hS) rfl rfl rfl (Nat.le_of_ble_eq_true rfl) ?_
    rintro _ μx ⟨rfl, hx⟩
    rw [hx]
    clear hx μx
    refine z_ne M_put_d21 (tgt := 27) rfl (fun h21 => ?_) (fun h21 => ?_)
    · have g2 := zB_ne0.mp h21
      have g3 := g2
      rw [em] at g3
      obtain ⟨k, hk, rfl, ek⟩ := zix g3.1 g3.2 (by omega)
      have ix := ix60 hs6 (show k < 60 by omega)
      refine zb1 M_put_s27 rfl (by first | exact hvs | exact ix.2.1) ?_
      refine z_ne M_put_d43 (tgt := 53) rfl (fun h43 => ?_) (fun h43 => ?_)
      · refine zb1 M_put_s53 rfl (by first | exact hvs | exact ix.2.1) ?_
        refine z_cne M_put_d60 (tgt := 70) rfl (fun h60 => ?_) (fun h60 => ?_)
        · refine zb1 M_put_s70 rfl (by first | exact hvs | exact ix.2.1) ?_
          refine z_cne M_put_d77 (tgt := 86) rfl (fun h77 => ?_) (fun h77 => ?_)
          · refine zb1 M_put_s86 rfl (by first | exact hvs | exact ix.2.1) ?_
            refine z_cne M_put_d93 (tgt := 100) rfl (fun h93 => ?_) (fun h93 => ?_)
            · refine zb M_put_s100 rfl ?_
              refine z_eq M_put_d103 (tgt := 110) rfl (fun h103 => ?_) (fun h103 => ?_)
              · refine zb1 M_put_s110 rfl (by first | exact hvs | exact ix.2.1) ?_
                refine z_ret M_put_d113 rfl ?_
                unfold opPut
                first
                  | (rw [if_pos h9]; exact ⟨rfl, hS, onlyM.rf⟩)
                  | (rw [if_neg (fun z => z h0), es, if_pos (zB_eq0.mp h21)]; exact ⟨rfl, hS, onlyM.rf⟩)
                  | (rw [if_neg (fun z => z h0), es, if_neg (fun z => z g2), ix.2.2, ek]
                     rw [e49, es] at h43
                     unfold narL
                     first
                       | (rw [if_pos h43]
                          have hc := hS.cell (x := v.toInt32.toInt8.toInt32.toInt64) hs6 (show k < 60 by omega)
                          exact ⟨rfl, hc.1, hc.2⟩)
                       | (rw [e49, es] at h60
                          rw [if_neg h43]
                          first
                            | (rw [if_pos h60]
                               have hc := hS.cell (x := v.toInt32.toInt16.toInt32.toInt64) hs6 (show k < 60 by omega)
                               exact ⟨rfl, hc.1, hc.2⟩)
                            | (rw [e49, es] at h77
                               rw [if_neg h60]
                               first
                                 | (rw [if_pos h77]
                                    have hc := hS.cell (x := v.toInt32.toInt64) hs6 (show k < 60 by omega)
                                    exact ⟨rfl, hc.1, hc.2⟩)
                                 | (rw [e49, es] at h93
                                    rw [if_neg h77]
                                    first
                                      | (rw [if_pos h93]
                                         have hc := hS.cell (x := v) hs6 (show k < 60 by omega)
                                         exact ⟨rfl, hc.1, hc.2⟩)
                                      | (rw [if_neg h93]
                                         first
                                           | (rw [if_pos (show lg_cmp v 0 = 0 from h103)]
                                              have hc := hS.cell (x := 0) hs6 (show k < 60 by omega)
                                              exact ⟨rfl, hc.1, hc.2⟩)
                                           | (rw [if_neg (show ¬ lg_cmp v 0 = 0 from h103)]
                                              have hc := hS.cell (x := 1) hs6 (show k < 60 by omega)
                                              exact ⟨rfl, hc.1, hc.2⟩))))))
              · refine zb1 M_put_s106 rfl (by first | exact hvs | exact ix.2.1) ?_
                refine z_ret M_put_d113 rfl ?_
                unfold opPut
                first
                  | (rw [if_pos h9]; exact ⟨rfl, hS, onlyM.rf⟩)
                  | (rw [if_neg (fun z => z h0), es, if_pos (zB_eq0.mp h21)]; exact ⟨rfl, hS, onlyM.rf⟩)
                  | (rw [if_neg (fun z => z h0), es, if_neg (fun z => z g2), ix.2.2, ek]
                     rw [e49, es] at h43
                     unfold narL
                     first
                       | (rw [if_pos h43]
                          have hc := hS.cell (x := v.toInt32.toInt8.toInt32.toInt64) hs6 (show k < 60 by omega)
                          exact ⟨rfl, hc.1, hc.2⟩)
                       | (rw [e49, es] at h60
                          rw [if_neg h43]
                          first
                            | (rw [if_pos h60]
                               have hc := hS.cell (x := v.toInt32.toInt16.toInt32.toInt64) hs6 (show k < 60 by omega)
                               exact ⟨rfl, hc.1, hc.2⟩)
                            | (rw [e49, es] at h77
                               rw [if_neg h60]
                               first
                                 | (rw [if_pos h77]
                                    have hc := hS.cell (x := v.toInt32.toInt64) hs6 (show k < 60 by omega)
                                    exact ⟨rfl, hc.1, hc.2⟩)
                                 | (rw [e49, es] at h93
                                    rw [if_neg h77]
                                    first
                                      | (rw [if_pos h93]
                                         have hc := hS.cell (x := v) hs6 (show k < 60 by omega)
                                         exact ⟨rfl, hc.1, hc.2⟩)
                                      | (rw [if_neg h93]
                                         first
                                           | (rw [if_pos (show lg_cmp v 0 = 0 from h103)]
                                              have hc := hS.cell (x := 0) hs6 (show k < 60 by omega)
                                              exact ⟨rfl, hc.1, hc.2⟩)
                                           | (rw [if_neg (show ¬ lg_cmp v 0 = 0 from h103)]
                                              have hc := hS.cell (x := 1) hs6 (show k < 60 by omega)
                                              exact ⟨rfl, hc.1, hc.2⟩))))))
            · refine zb1 M_put_s96 rfl (by first | exact hvs | exact ix.2.1) ?_
              refine z_ret M_put_d113 rfl ?_
              unfold opPut
              first
                | (rw [if_pos h9]; exact ⟨rfl, hS, onlyM.rf⟩)
                | (rw [if_neg (fun z => z h0), es, if_pos (zB_eq0.mp h21)]; exact ⟨rfl, hS, onlyM.rf⟩)
                | (rw [if_neg (fun z => z h0), es, if_neg (fun z => z g2), ix.2.2, ek]
                   rw [e49, es] at h43
                   unfold narL
                   first
                     | (rw [if_pos h43]
                        have hc := hS.cell (x := v.toInt32.toInt8.toInt32.toInt64) hs6 (show k < 60 by omega)
                        exact ⟨rfl, hc.1, hc.2⟩)
                     | (rw [e49, es] at h60
                        rw [if_neg h43]
                        first
                          | (rw [if_pos h60]
                             have hc := hS.cell (x := v.toInt32.toInt16.toInt32.toInt64) hs6 (show k < 60 by omega)
                             exact ⟨rfl, hc.1, hc.2⟩)
                          | (rw [e49, es] at h77
                             rw [if_neg h60]
                             first
                               | (rw [if_pos h77]
                                  have hc := hS.cell (x := v.toInt32.toInt64) hs6 (show k < 60 by omega)
                                  exact ⟨rfl, hc.1, hc.2⟩)
                               | (rw [e49, es] at h93
                                  rw [if_neg h77]
                                  first
                                    | (rw [if_pos h93]
                                       have hc := hS.cell (x := v) hs6 (show k < 60 by omega)
                                       exact ⟨rfl, hc.1, hc.2⟩)
                                    | (rw [if_neg h93]
                                       first
                                         | (rw [if_pos (show lg_cmp v 0 = 0 from h103)]
                                            have hc := hS.cell (x := 0) hs6 (show k < 60 by omega)
                                            exact ⟨rfl, hc.1, hc.2⟩)
                                         | (rw [if_neg (show ¬ lg_cmp v 0 = 0 from h103)]
                                            have hc := hS.cell (x := 1) hs6 (show k < 60 by omega)
                                            exact ⟨rfl, hc.1, hc.2⟩))))))
          · refine zb1 M_put_s80 rfl (by first | exact hvs | exact ix.2.1) ?_
            refine z_ret M_put_d113 rfl ?_
            unfold opPut
            first
              | (rw [if_pos h9]; exact ⟨rfl, hS, onlyM.rf⟩)
              | (rw [if_neg (fun z => z h0), es, if_pos (zB_eq0.mp h21)]; exact ⟨rfl, hS, onlyM.rf⟩)
              | (rw [if_neg (fun z => z h0), es, if_neg (fun z => z g2), ix.2.2, ek]
                 rw [e49, es] at h43
                 unfold narL
                 first
                   | (rw [if_pos h43]
                      have hc := hS.cell (x := v.toInt32.toInt8.toInt32.toInt64) hs6 (show k < 60 by omega)
                      exact ⟨rfl, hc.1, hc.2⟩)
                   | (rw [e49, es] at h60
                      rw [if_neg h43]
                      first
                        | (rw [if_pos h60]
                           have hc := hS.cell (x := v.toInt32.toInt16.toInt32.toInt64) hs6 (show k < 60 by omega)
                           exact ⟨rfl, hc.1, hc.2⟩)
                        | (rw [e49, es] at h77
                           rw [if_neg h60]
                           first
                             | (rw [if_pos h77]
                                have hc := hS.cell (x := v.toInt32.toInt64) hs6 (show k < 60 by omega)
                                exact ⟨rfl, hc.1, hc.2⟩)
                             | (rw [e49, es] at h93
                                rw [if_neg h77]
                                first
                                  | (rw [if_pos h93]
                                     have hc := hS.cell (x := v) hs6 (show k < 60 by omega)
                                     exact ⟨rfl, hc.1, hc.2⟩)
                                  | (rw [if_neg h93]
                                     first
                                       | (rw [if_pos (show lg_cmp v 0 = 0 from h103)]
                                          have hc := hS.cell (x := 0) hs6 (show k < 60 by omega)
                                          exact ⟨rfl, hc.1, hc.2⟩)
                                       | (rw [if_neg (show ¬ lg_cmp v 0 = 0 from h103)]
                                          have hc := hS.cell (x := 1) hs6 (show k < 60 by omega)
                                          exact ⟨rfl, hc.1, hc.2⟩))))))
        · refine zb1 M_put_s63 rfl (by first | exact hvs | exact ix.2.1) ?_
          refine z_ret M_put_d113 rfl ?_
          unfold opPut
          first
            | (rw [if_pos h9]; exact ⟨rfl, hS, onlyM.rf⟩)
            | (rw [if_neg (fun z => z h0), es, if_pos (zB_eq0.mp h21)]; exact ⟨rfl, hS, onlyM.rf⟩)
            | (rw [if_neg (fun z => z h0), es, if_neg (fun z => z g2), ix.2.2, ek]
               rw [e49, es] at h43
               unfold narL
               first
                 | (rw [if_pos h43]
                    have hc := hS.cell (x := v.toInt32.toInt8.toInt32.toInt64) hs6 (show k < 60 by omega)
                    exact ⟨rfl, hc.1, hc.2⟩)
                 | (rw [e49, es] at h60
                    rw [if_neg h43]
                    first
                      | (rw [if_pos h60]
                         have hc := hS.cell (x := v.toInt32.toInt16.toInt32.toInt64) hs6 (show k < 60 by omega)
                         exact ⟨rfl, hc.1, hc.2⟩)
                      | (rw [e49, es] at h77
                         rw [if_neg h60]
                         first
                           | (rw [if_pos h77]
                              have hc := hS.cell (x := v.toInt32.toInt64) hs6 (show k < 60 by omega)
                              exact ⟨rfl, hc.1, hc.2⟩)
                           | (rw [e49, es] at h93
                              rw [if_neg h77]
                              first
                                | (rw [if_pos h93]
                                   have hc := hS.cell (x := v) hs6 (show k < 60 by omega)
                                   exact ⟨rfl, hc.1, hc.2⟩)
                                | (rw [if_neg h93]
                                   first
                                     | (rw [if_pos (show lg_cmp v 0 = 0 from h103)]
                                        have hc := hS.cell (x := 0) hs6 (show k < 60 by omega)
                                        exact ⟨rfl, hc.1, hc.2⟩)
                                     | (rw [if_neg (show ¬ lg_cmp v 0 = 0 from h103)]
                                        have hc := hS.cell (x := 1) hs6 (show k < 60 by omega)
                                        exact ⟨rfl, hc.1, hc.2⟩))))))
      · refine zb1 M_put_s46 rfl (by first | exact hvs | exact ix.2.1) ?_
        refine z_ret M_put_d113 rfl ?_
        unfold opPut
        first
          | (rw [if_pos h9]; exact ⟨rfl, hS, onlyM.rf⟩)
          | (rw [if_neg (fun z => z h0), es, if_pos (zB_eq0.mp h21)]; exact ⟨rfl, hS, onlyM.rf⟩)
          | (rw [if_neg (fun z => z h0), es, if_neg (fun z => z g2), ix.2.2, ek]
             rw [e49, es] at h43
             unfold narL
             first
               | (rw [if_pos h43]
                  have hc := hS.cell (x := v.toInt32.toInt8.toInt32.toInt64) hs6 (show k < 60 by omega)
                  exact ⟨rfl, hc.1, hc.2⟩)
               | (rw [e49, es] at h60
                  rw [if_neg h43]
                  first
                    | (rw [if_pos h60]
                       have hc := hS.cell (x := v.toInt32.toInt16.toInt32.toInt64) hs6 (show k < 60 by omega)
                       exact ⟨rfl, hc.1, hc.2⟩)
                    | (rw [e49, es] at h77
                       rw [if_neg h60]
                       first
                         | (rw [if_pos h77]
                            have hc := hS.cell (x := v.toInt32.toInt64) hs6 (show k < 60 by omega)
                            exact ⟨rfl, hc.1, hc.2⟩)
                         | (rw [e49, es] at h93
                            rw [if_neg h77]
                            first
                              | (rw [if_pos h93]
                                 have hc := hS.cell (x := v) hs6 (show k < 60 by omega)
                                 exact ⟨rfl, hc.1, hc.2⟩)
                              | (rw [if_neg h93]
                                 first
                                   | (rw [if_pos (show lg_cmp v 0 = 0 from h103)]
                                      have hc := hS.cell (x := 0) hs6 (show k < 60 by omega)
                                      exact ⟨rfl, hc.1, hc.2⟩)
                                   | (rw [if_neg (show ¬ lg_cmp v 0 = 0 from h103)]
                                      have hc := hS.cell (x := 1) hs6 (show k < 60 by omega)
                                      exact ⟨rfl, hc.1, hc.2⟩))))))
    · refine zb M_put_s24 rfl ?_
      refine z_ret M_put_d26 rfl ?_
      unfold opPut
      first
        | (rw [if_pos h9]; exact ⟨rfl, hS, onlyM.rf⟩)
        | (rw [if_neg (fun z => z h0), es, if_pos (zB_eq0.mp h21)]; exact ⟨rfl, hS, onlyM.rf⟩)
        | (rw [if_neg (fun z => z h0), es, if_neg (fun z => z g2), ix.2.2, ek]
           rw [e49, es] at h43
           unfold narL
           first
             | (rw [if_pos h43]
                have hc := hS.cell (x := v.toInt32.toInt8.toInt32.toInt64) hs6 (show k < 60 by omega)
                exact ⟨rfl, hc.1, hc.2⟩)
             | (rw [e49, es] at h60
                rw [if_neg h43]
                first
                  | (rw [if_pos h60]
                     have hc := hS.cell (x := v.toInt32.toInt16.toInt32.toInt64) hs6 (show k < 60 by omega)
                     exact ⟨rfl, hc.1, hc.2⟩)
                  | (rw [e49, es] at h77
                     rw [if_neg h60]
                     first
                       | (rw [if_pos h77]
                          have hc := hS.cell (x := v.toInt32.toInt64) hs6 (show k < 60 by omega)
                          exact ⟨rfl, hc.1, hc.2⟩)
                       | (rw [e49, es] at h93
                          rw [if_neg h77]
                          first
                            | (rw [if_pos h93]
                               have hc := hS.cell (x := v) hs6 (show k < 60 by omega)
                               exact ⟨rfl, hc.1, hc.2⟩)
                            | (rw [if_neg h93]
                               first
                                 | (rw [if_pos (show lg_cmp v 0 = 0 from h103)]
                                    have hc := hS.cell (x := 0) hs6 (show k < 60 by omega)
                                    exact ⟨rfl, hc.1, hc.2⟩)
                                 | (rw [if_neg (show ¬ lg_cmp v 0 = 0 from h103)]
                                    have hc := hS.cell (x := 1) hs6 (show k < 60 by omega)
                                    exact ⟨rfl, hc.1, hc.2⟩))))))
  · refine zb M_put_s12 rfl ?_
    refine z_ret M_put_d14 rfl ?_
    unfold opPut
    first
      | (rw [if_pos h9]; exact ⟨rfl, hS, onlyM.rf⟩)
      | (rw [if_neg (fun z => z h0), es, if_pos (zB_eq0.mp h21)]; exact ⟨rfl, hS, onlyM.rf⟩)
      | (rw [if_neg (fun z => z h0), es, if_neg (fun z => z g2), ix.2.2, ek]
         rw [e49, es] at h43
         unfold narL
         first
           | (rw [if_pos h43]
              have hc := hS.cell (x := v.toInt32.toInt8.toInt32.toInt64) hs6 (show k < 60 by omega)
              exact ⟨rfl, hc.1, hc.2⟩)
           | (rw [e49, es] at h60
              rw [if_neg h43]
              first
                | (rw [if_pos h60]
                   have hc := hS.cell (x := v.toInt32.toInt16.toInt32.toInt64) hs6 (show k < 60 by omega)
                   exact ⟨rfl, hc.1, hc.2⟩)
                | (rw [e49, es] at h77
                   rw [if_neg h60]
                   first
                     | (rw [if_pos h77]
                        have hc := hS.cell (x := v.toInt32.toInt64) hs6 (show k < 60 by omega)
                        exact ⟨rfl, hc.1, hc.2⟩)
                     | (rw [e49, es] at h93
                        rw [if_neg h77]
                        first
                          | (rw [if_pos h93]
                             have hc := hS.cell (x := v) hs6 (show k < 60 by omega)
                             exact ⟨rfl, hc.1, hc.2⟩)
                          | (rw [if_neg h93]
                             first
                               | (rw [if_pos (show lg_cmp v 0 = 0 from h103)]
                                  have hc := hS.cell (x := 0) hs6 (show k < 60 by omega)
                                  exact ⟨rfl, hc.1, hc.2⟩)
                               | (rw [if_neg (show ¬ lg_cmp v 0 = 0 from h103)]
                                  have hc := hS.cell (x := 1) hs6 (show k < 60 by omega)
                                  exact ⟨rfl, hc.1, hc.2⟩))))))

set_option maxRecDepth 100000 in
set_option maxHeartbeats 4000000 in
theorem s_M_element {g : zG} {d : Nat} {S : zS} {μ : zMem} {s i : Int32} (hd : 2 ≤ d) (hS : mS S μ) (hok : okH S) : zM g d M_element [.ref 0, .int s, .int i] μ (fun r μ' => r = some (.long (opElement S s i)) ∧ mS S μ' ∧ onlyM μ μ') := by
  refine zM_of (by decide +kernel) rfl rfl (Nat.le_of_ble_eq_true rfl) rfl ?_
  obtain ⟨ho, h2, hT, hC, hD, hI, hA, hH⟩ := hS
  have hS : mS S μ := ⟨ho, h2, hT, hC, hD, hI, hA, hH⟩
  have hb := ho.b
  have hv := ho.v
  have h6 := ho.b6
  have h12 := ho.v12
  have hz : zq sM μ μ := zq.rf
  replace hA : mA (zA_ S) μ := hA
  have e7 : μ.1 0 7 = nI (zA_ S).1.1 := hA.1
  have h50 : (zA_ S).1.1 ≤ 50 := hA.2.1
  have e46 : μ.1 46 = (zA_ S).1.2 := hA.2.2.1
  replace hH : mH (zH S) μ := hH
  have e48 : μ.1 48 = hHeld S := hH.1
  have e49 : μ.1 49 = hSort S := hH.2.1
  have e50 : μ.1 50 = hSize S := hH.2.2.1
  have e51 : μ.1 51 = hShown S := hH.2.2.2.1
  refine zb M_element_s0 rfl ?_
  refine zcallV M_element_d2 k11_379 (by omega) (o_barsOfRow (by omega) hS) rfl rfl rfl (Nat.le_of_ble_eq_true rfl) ?_
  rintro _ μx ⟨rfl, hx⟩
  rw [hx]
  clear hx μx
  refine z_ne M_element_d5 (tgt := 31) rfl (fun h5 => ?_) (fun h5 => ?_)
  · refine zb M_element_s31 rfl ?_
    refine z_retL M_element_d34 rfl ?_
    refine ⟨?_, hS, onlyM.rf⟩
    unfold opElement
    first
      | (rw [if_neg (fun z => h5 z.1)]; rfl)
      | (rw [es, if_neg (fun z => (zB_eq0.mp h14) z.2)]; rfl)
      | (rw [es, if_pos (show barR S (nI q) = 0 ∧ (0 ≤ nI k ∧ nI k < hSize S q) from ⟨h0, g2⟩), ix.2.2, ek]
         exact congrArg (fun z => some (Value.long z)) (hH.2.2.2.2 q k hs6 (by omega)))
  · have h0 : barR S s = 0 := Decidable.of_not_not (fun z => by first | exact z h5 | exact absurd h5 z)
    obtain ⟨q, m, hs6, rfl, es, hh, hm, em⟩ := barR_0 h0 hok
    have hvs : vp_in (nI q) 6 := vp_in_nI (by omega) (by omega)
    refine zb M_element_s8 rfl ?_
    refine zcallV M_element_d11 k11_382 (by omega) (o_isElement hs6 hS) rfl rfl rfl (Nat.le_of_ble_eq_true rfl) ?_
    rintro _ μx ⟨rfl, hx⟩
    rw [hx]
    clear hx μx
    refine z_eq M_element_d14 (tgt := 31) rfl (fun h14 => ?_) (fun h14 => ?_)
    · refine zb M_element_s31 rfl ?_
      refine z_retL M_element_d34 rfl ?_
      refine ⟨?_, hS, onlyM.rf⟩
      unfold opElement
      first
        | (rw [if_neg (fun z => h5 z.1)]; rfl)
        | (rw [es, if_neg (fun z => (zB_eq0.mp h14) z.2)]; rfl)
        | (rw [es, if_pos (show barR S (nI q) = 0 ∧ (0 ≤ nI k ∧ nI k < hSize S q) from ⟨h0, g2⟩), ix.2.2, ek]
           exact congrArg (fun z => some (Value.long z)) (hH.2.2.2.2 q k hs6 (by omega)))
    · have g2 := zB_ne0.mp h14
      have g3 := g2
      rw [em] at g3
      obtain ⟨k, hk, rfl, ek⟩ := zix g3.1 g3.2 (by omega)
      have ix := ix60 hs6 (show k < 60 by omega)
      refine zb1 M_element_s17 rfl (by first | exact hvs | exact ix.2.1) ?_
      refine z_retL M_element_d34 rfl ?_
      refine ⟨?_, hS, onlyM.rf⟩
      unfold opElement
      first
        | (rw [if_neg (fun z => h5 z.1)]; rfl)
        | (rw [es, if_neg (fun z => (zB_eq0.mp h14) z.2)]; rfl)
        | (rw [es, if_pos (show barR S (nI q) = 0 ∧ (0 ≤ nI k ∧ nI k < hSize S q) from ⟨h0, g2⟩), ix.2.2, ek]
           exact congrArg (fun z => some (Value.long z)) (hH.2.2.2.2 q k hs6 (by omega)))
