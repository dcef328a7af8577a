/-! the reference: deeds, images, counts, vows from a row -/
def zD (S : zS) : zD4 := S.2.2.2.2.1
def sD (S : zS) (D : zD4) : zS := (S.1, S.2.1, S.2.2.1, S.2.2.2.1, D, S.2.2.2.2.2)
def zI_ (S : zS) : zIm := S.2.2.2.2.2.1
def sI (S : zS) (I : zIm) : zS := (S.1, S.2.1, S.2.2.1, S.2.2.2.1, S.2.2.2.2.1, I, S.2.2.2.2.2.2)
def sDay (S : zS) (t : Int32) : zS := (S.1, (S.2.1.1, t), S.2.2)
def tod (S : zS) : Int32 := S.2.1.2
def opBreaks (S : zS) (v : Int32) : Int32 × zS := if ¬ isV S.1 v then (-1, S) else if ¬ kept S.1 v.toNatClampNeg (tod S) then (0, S) else (1, sD (sF S (fsag (fsbr S.1 v.toNatClampNeg (tod S)) v.toNatClampNeg 999)) ((zD S).1 + 1, (zD S).2))
def opKeeps (S : zS) (v : Int32) : Int32 × zS := if ¬ isV S.1 v then (-1, S) else if kept S.1 v.toNatClampNeg (tod S) then (0, S) else if fbr S.1 v.toNatClampNeg = tod S then (-5, S) else (1, sD (sF S (fsag S.1 v.toNatClampNeg (tod S))) ((zD S).1, (zD S).2.1 + 1, (zD S).2.2))
def opPass (S : zS) (n : Int32) : Int32 × zS := if ¬ (1 ≤ n ∧ n ≤ 99) then (-1, S) else if ¬ tod S + n ≤ 998 then (-5, S) else (tod S + n, sDay S (tod S + n))
def opRing (S : zS) (b h : Int32) : Int32 × zS := if ¬ (isB S.1 b ∧ (0 ≤ h ∧ h ≤ 23)) then (-2000000000, S) else (ftone S.1 b.toNatClampNeg + offs S.1 b (tod S) h, sD S ((zD S).1, (zD S).2.1, (zD S).2.2.1 + 1, (zD S).2.2.2 + zB (¬ offs S.1 b (tod S) h = 0)))
def opLed (S : zS) (w : Int32) : Int32 := if w = 0 then (zD S).1 else if w = 1 then (zD S).2.1 else if w = 2 then (zD S).2.2.1 else if w = 3 then (zD S).2.2.2 else if w = 4 then tod S else -1
def opImage (S : zS) : Int32 × zS := (tod S, sI S (nI (fV S.1), fbr S.1, fag S.1, tod S, zD S))
def bkF (F : zF) (ib ia : Nat → Int32) (n : Nat) : zF := (F.1, ftone F, ftune F, fbell F, fwt F, fby F, fun v => if v < n then ib v else fbr F v, fun v => if v < n then ia v else fag F v, flaw F)
def opBack (S : zS) : Int32 × zS := if (zI_ S).1 < 0 then (-5, S) else ((zI_ S).2.2.2.1, sD (sDay (sF S (bkF S.1 (zI_ S).2.1 (zI_ S).2.2.1 (zI_ S).1.toNatClampNeg)) (zI_ S).2.2.2.1) (zI_ S).2.2.2.2)
def zA_ (S : zS) : zAc := S.2.2.2.2.2.2.1
def opCount (S : zS) (w : Int32) : Int32 := if w = 0 then nI (fB S.1) else if w = 1 then nI (fV S.1) else if w = 2 then nI (tT S).1 else if w = 3 then nI (cC S).1.1 else if w = 4 then nI (zA_ S).1.1 else if w = 5 then (zA_ S).2.1 else -1

set_option maxRecDepth 100000 in
set_option maxHeartbeats 4000000 in
theorem s_M_breaks {g : zG} {d : Nat} {S : zS} {μ : zMem} {v : Int32} (hd : 1 ≤ d) (hS : mS S μ) : zM g d M_breaks [.ref 0, .int v] μ (pO mS onlyM (opBreaks S v) μ) := by
  refine zM_of (by decide +kernel) rfl rfl (Nat.le_of_ble_eq_true rfl) rfl ?_
  obtain ⟨ho, h2, hT, hC, hD, hI, hA, hH⟩ := hS
  have hS : mS S μ := ⟨ho, h2, hT, hC, hD, hI, hA, hH⟩
  have hb := ho.b
  have hv := ho.v
  have h6 := ho.b6
  have h12 := ho.v12
  have hz : zq sM μ μ := zq.rf
  have e3 : μ.1 0 3 = tod S := h2.2
  have hD1 : μ.1 0 35 = (zD S).1 := hD.1
  refine zb M_breaks_s0 rfl ?_
  refine zcallV M_breaks_d2 k11_131 (by omega) (c_M_isVow _) rfl rfl rfl (Nat.le_of_ble_eq_true rfl) ?_
  rintro _ μx ⟨rfl, hx⟩
  rw [hx]
  clear hx μx
  rw [ho.v]
  refine z_ne M_breaks_d5 (tgt := 10) rfl (fun h5 => ?_) (fun h5 => ?_)
  · have g1 := zB_ne0.mp h5
    obtain ⟨q, hq, rfl, eq⟩ := zix g1.1 g1.2 (by omega)
    have hvi : vp_in (nI q) 12 := vp_in_nI (by omega) (by omega)
    refine zb M_breaks_s10 rfl ?_
    refine zcallV M_breaks_d16 k11_164 (by omega) (o_isKept ho _ (by omega)) rfl rfl rfl (Nat.le_of_ble_eq_true rfl) ?_
    rintro _ μx ⟨rfl, hx⟩
    rw [hx]
    clear hx μx
    refine z_ne M_breaks_d19 (tgt := 24) rfl (fun h19 => ?_) (fun h19 => ?_)
    · rw [e3] at h19
      refine zb2 M_breaks_s24 rfl hvi hvi ?_
      refine z_ret M_breaks_d54 rfl ?_
      unfold opBreaks
      first
        | (rw [if_pos (zB_eq0.mp h5)]; exact ⟨rfl, hS, onlyM.rf⟩)
        | (rw [e3] at h19; rw [if_neg (fun z => z g1), eq, if_pos (zB_eq0.mp h19)]; exact ⟨rfl, hS, onlyM.rf⟩)
        | (rw [if_neg (fun z => z g1), eq, if_neg (fun z => z (zB_ne0.mp h19))]
           simp (disch := decide) only [zpI_ne, zpI_at, Nat.reduceEqDiff, reduceIte, e3, hD1]
           have ho1 : oM (fsag (fsbr S.1 q (tod S)) q 999) (zpI (zpI (zpI μ 30 q (tod S)) 31 q 999) 0 35 ((zD S).1 + 1)) := ⟨(ho.p30.p31).1, ((ho.p30 (v := q) (x := tod S)).p31 (v := q) (x := 999)).2⟩
           exact ⟨rfl, ⟨ho1, h2, hT, hC, ⟨rfl, hD.2.1, hD.2.2.1, hD.2.2.2⟩, hI, hA, hH⟩, (by repeat (first | exact onlyM.rf | refine onlyM.put rfl ?_))⟩)
    · refine zb M_breaks_s22 rfl ?_
      refine z_ret M_breaks_d23 rfl ?_
      unfold opBreaks
      first
        | (rw [if_pos (zB_eq0.mp h5)]; exact ⟨rfl, hS, onlyM.rf⟩)
        | (rw [e3] at h19; rw [if_neg (fun z => z g1), eq, if_pos (zB_eq0.mp h19)]; exact ⟨rfl, hS, onlyM.rf⟩)
        | (rw [if_neg (fun z => z g1), eq, if_neg (fun z => z (zB_ne0.mp h19))]
           simp (disch := decide) only [zpI_ne, zpI_at, Nat.reduceEqDiff, reduceIte, e3, hD1]
           have ho1 : oM (fsag (fsbr S.1 q (tod S)) q 999) (zpI (zpI (zpI μ 30 q (tod S)) 31 q 999) 0 35 ((zD S).1 + 1)) := ⟨(ho.p30.p31).1, ((ho.p30 (v := q) (x := tod S)).p31 (v := q) (x := 999)).2⟩
           exact ⟨rfl, ⟨ho1, h2, hT, hC, ⟨rfl, hD.2.1, hD.2.2.1, hD.2.2.2⟩, hI, hA, hH⟩, (by repeat (first | exact onlyM.rf | refine onlyM.put rfl ?_))⟩)
  · refine zb M_breaks_s8 rfl ?_
    refine z_ret M_breaks_d9 rfl ?_
    unfold opBreaks
    first
      | (rw [if_pos (zB_eq0.mp h5)]; exact ⟨rfl, hS, onlyM.rf⟩)
      | (rw [e3] at h19; rw [if_neg (fun z => z g1), eq, if_pos (zB_eq0.mp h19)]; exact ⟨rfl, hS, onlyM.rf⟩)
      | (rw [if_neg (fun z => z g1), eq, if_neg (fun z => z (zB_ne0.mp h19))]
         simp (disch := decide) only [zpI_ne, zpI_at, Nat.reduceEqDiff, reduceIte, e3, hD1]
         have ho1 : oM (fsag (fsbr S.1 q (tod S)) q 999) (zpI (zpI (zpI μ 30 q (tod S)) 31 q 999) 0 35 ((zD S).1 + 1)) := ⟨(ho.p30.p31).1, ((ho.p30 (v := q) (x := tod S)).p31 (v := q) (x := 999)).2⟩
         exact ⟨rfl, ⟨ho1, h2, hT, hC, ⟨rfl, hD.2.1, hD.2.2.1, hD.2.2.2⟩, hI, hA, hH⟩, (by repeat (first | exact onlyM.rf | refine onlyM.put rfl ?_))⟩)

set_option maxRecDepth 100000 in
set_option maxHeartbeats 4000000 in
theorem s_M_keeps {g : zG} {d : Nat} {S : zS} {μ : zMem} {v : Int32} (hd : 1 ≤ d) (hS : mS S μ) : zM g d M_keeps [.ref 0, .int v] μ (pO mS onlyM (opKeeps S v) μ) := by
  refine zM_of (by decide +kernel) rfl rfl (Nat.le_of_ble_eq_true rfl) rfl ?_
  obtain ⟨ho, h2, hT, hC, hD, hI, hA, hH⟩ := hS
  have hS : mS S μ := ⟨ho, h2, hT, hC, hD, hI, hA, hH⟩
  have hb := ho.b
  have hv := ho.v
  have h6 := ho.b6
  have h12 := ho.v12
  have hz : zq sM μ μ := zq.rf
  have e3 : μ.1 0 3 = tod S := h2.2
  have hD1 : μ.1 0 36 = (zD S).2.1 := hD.2.1
  refine zb M_keeps_s0 rfl ?_
  refine zcallV M_keeps_d2 k11_131 (by omega) (c_M_isVow _) rfl rfl rfl (Nat.le_of_ble_eq_true rfl) ?_
  rintro _ μx ⟨rfl, hx⟩
  rw [hx]
  clear hx μx
  rw [ho.v]
  refine z_ne M_keeps_d5 (tgt := 10) rfl (fun h5 => ?_) (fun h5 => ?_)
  · have g1 := zB_ne0.mp h5
    obtain ⟨q, hq, rfl, eq⟩ := zix g1.1 g1.2 (by omega)
    have hvi : vp_in (nI q) 12 := vp_in_nI (by omega) (by omega)
    refine zb M_keeps_s10 rfl ?_
    refine zcallV M_keeps_d16 k11_164 (by omega) (o_isKept ho _ (by omega)) rfl rfl rfl (Nat.le_of_ble_eq_true rfl) ?_
    rintro _ μx ⟨rfl, hx⟩
    rw [hx]
    clear hx μx
    refine z_eq M_keeps_d19 (tgt := 24) rfl (fun h19 => ?_) (fun h19 => ?_)
    · rw [e3] at h19
      refine zb1 M_keeps_s24 rfl hvi ?_
      refine z_cne M_keeps_d34 (tgt := 40) rfl (fun h34 => ?_) (fun h34 => ?_)
      · refine zb1 M_keeps_s40 rfl hvi ?_
        refine z_ret M_keeps_d61 rfl ?_
        unfold opKeeps
        first
          | (rw [if_pos (zB_eq0.mp h5)]; exact ⟨rfl, hS, onlyM.rf⟩)
          | (rw [e3] at h19; rw [if_neg (fun z => z g1), eq, if_pos (zB_ne0.mp h19)]; exact ⟨rfl, hS, onlyM.rf⟩)
          | (rw [if_neg (fun z => z g1), eq, if_neg (zB_eq0.mp h19)]
             rw [eq, e3, ho.e30] at h34
             first
               | (rw [if_pos h34]; exact ⟨rfl, hS, onlyM.rf⟩)
               | (rw [if_neg h34]
                  simp (disch := decide) only [zpI_ne, zpI_at, Nat.reduceEqDiff, reduceIte, e3, hD1]
                  have ho1 : oM (fsag S.1 q (tod S)) (zpI (zpI μ 31 q (tod S)) 0 36 ((zD S).2.1 + 1)) := ⟨ho.p31.1, (ho.p31 (v := q) (x := tod S)).2⟩
                  exact ⟨rfl, ⟨ho1, h2, hT, hC, ⟨hD.1, rfl, hD.2.2.1, hD.2.2.2⟩, hI, hA, hH⟩, (by repeat (first | exact onlyM.rf | refine onlyM.put rfl ?_))⟩))
      · refine zb M_keeps_s37 rfl ?_
        refine z_ret M_keeps_d39 rfl ?_
        unfold opKeeps
        first
          | (rw [if_pos (zB_eq0.mp h5)]; exact ⟨rfl, hS, onlyM.rf⟩)
          | (rw [e3] at h19; rw [if_neg (fun z => z g1), eq, if_pos (zB_ne0.mp h19)]; exact ⟨rfl, hS, onlyM.rf⟩)
          | (rw [if_neg (fun z => z g1), eq, if_neg (zB_eq0.mp h19)]
             rw [eq, e3, ho.e30] at h34
             first
               | (rw [if_pos h34]; exact ⟨rfl, hS, onlyM.rf⟩)
               | (rw [if_neg h34]
                  simp (disch := decide) only [zpI_ne, zpI_at, Nat.reduceEqDiff, reduceIte, e3, hD1]
                  have ho1 : oM (fsag S.1 q (tod S)) (zpI (zpI μ 31 q (tod S)) 0 36 ((zD S).2.1 + 1)) := ⟨ho.p31.1, (ho.p31 (v := q) (x := tod S)).2⟩
                  exact ⟨rfl, ⟨ho1, h2, hT, hC, ⟨hD.1, rfl, hD.2.2.1, hD.2.2.2⟩, hI, hA, hH⟩, (by repeat (first | exact onlyM.rf | refine onlyM.put rfl ?_))⟩))
    · refine zb M_keeps_s22 rfl ?_
      refine z_ret M_keeps_d23 rfl ?_
      unfold opKeeps
      first
        | (rw [if_pos (zB_eq0.mp h5)]; exact ⟨rfl, hS, onlyM.rf⟩)
        | (rw [e3] at h19; rw [if_neg (fun z => z g1), eq, if_pos (zB_ne0.mp h19)]; exact ⟨rfl, hS, onlyM.rf⟩)
        | (rw [if_neg (fun z => z g1), eq, if_neg (zB_eq0.mp h19)]
           rw [eq, e3, ho.e30] at h34
           first
             | (rw [if_pos h34]; exact ⟨rfl, hS, onlyM.rf⟩)
             | (rw [if_neg h34]
                simp (disch := decide) only [zpI_ne, zpI_at, Nat.reduceEqDiff, reduceIte, e3, hD1]
                have ho1 : oM (fsag S.1 q (tod S)) (zpI (zpI μ 31 q (tod S)) 0 36 ((zD S).2.1 + 1)) := ⟨ho.p31.1, (ho.p31 (v := q) (x := tod S)).2⟩
                exact ⟨rfl, ⟨ho1, h2, hT, hC, ⟨hD.1, rfl, hD.2.2.1, hD.2.2.2⟩, hI, hA, hH⟩, (by repeat (first | exact onlyM.rf | refine onlyM.put rfl ?_))⟩))
  · refine zb M_keeps_s8 rfl ?_
    refine z_ret M_keeps_d9 rfl ?_
    unfold opKeeps
    first
      | (rw [if_pos (zB_eq0.mp h5)]; exact ⟨rfl, hS, onlyM.rf⟩)
      | (rw [e3] at h19; rw [if_neg (fun z => z g1), eq, if_pos (zB_ne0.mp h19)]; exact ⟨rfl, hS, onlyM.rf⟩)
      | (rw [if_neg (fun z => z g1), eq, if_neg (zB_eq0.mp h19)]
         rw [eq, e3, ho.e30] at h34
         first
           | (rw [if_pos h34]; exact ⟨rfl, hS, onlyM.rf⟩)
           | (rw [if_neg h34]
              simp (disch := decide) only [zpI_ne, zpI_at, Nat.reduceEqDiff, reduceIte, e3, hD1]
              have ho1 : oM (fsag S.1 q (tod S)) (zpI (zpI μ 31 q (tod S)) 0 36 ((zD S).2.1 + 1)) := ⟨ho.p31.1, (ho.p31 (v := q) (x := tod S)).2⟩
              exact ⟨rfl, ⟨ho1, h2, hT, hC, ⟨hD.1, rfl, hD.2.2.1, hD.2.2.2⟩, hI, hA, hH⟩, (by repeat (first | exact onlyM.rf | refine onlyM.put rfl ?_))⟩))

set_option maxRecDepth 100000 in
set_option maxHeartbeats 4000000 in
theorem s_M_pass {g : zG} {d : Nat} {S : zS} {μ : zMem} {n : Int32} (hd : 1 ≤ d) (hS : mS S μ) : zM g d M_pass [.ref 0, .int n] μ (pO mS onlyM (opPass S n) μ) := by
  refine zM_of (by decide +kernel) rfl rfl (Nat.le_of_ble_eq_true rfl) rfl ?_
  obtain ⟨ho, h2, hT, hC, hD, hI, hA, hH⟩ := hS
  have hS : mS S μ := ⟨ho, h2, hT, hC, hD, hI, hA, hH⟩
  have hb := ho.b
  have hv := ho.v
  have h6 := ho.b6
  have h12 := ho.v12
  have hz : zq sM μ μ := zq.rf
  have e3 : μ.1 0 3 = tod S := h2.2
  refine zb M_pass_s0 rfl ?_
  refine zcallV M_pass_d5 k11_112 (by omega) (c_M_isIn _ _ _) rfl rfl rfl (Nat.le_of_ble_eq_true rfl) ?_
  rintro _ μx ⟨rfl, hx⟩
  rw [hx]
  clear hx μx
  refine z_ne M_pass_d8 (tgt := 13) rfl (fun h8 => ?_) (fun h8 => ?_)
  · refine zb M_pass_s13 rfl ?_
    refine z_cle M_pass_d22 (tgt := 28) rfl (fun h22 => ?_) (fun h22 => ?_)
    · refine zb M_pass_s28 rfl ?_
      refine z_ret M_pass_d42 rfl ?_
      unfold opPass
      first
        | (rw [if_pos (zB_eq0.mp h8)]; exact ⟨rfl, hS, onlyM.rf⟩)
        | (rw [e3] at h22
           rw [if_neg (fun z => z (zB_ne0.mp h8))]
           first
             | (rw [if_pos h22]; exact ⟨rfl, hS, onlyM.rf⟩)
             | (rw [if_neg (fun z => z h22)]
                simp (disch := decide) only [zpI_ne, zpI_at, Nat.reduceEqDiff, reduceIte, e3]
                have ho1 : oM S.1 (zpI μ 0 3 (tod S + n)) := ⟨ho.1, by rw [← ho.2]; rfl⟩
                exact ⟨rfl, ⟨ho1, ⟨h2.1, rfl⟩, hT, hC, hD, hI, hA, hH⟩, (by repeat (first | exact onlyM.rf | refine onlyM.put rfl ?_))⟩))
    · refine zb M_pass_s25 rfl ?_
      refine z_ret M_pass_d27 rfl ?_
      unfold opPass
      first
        | (rw [if_pos (zB_eq0.mp h8)]; exact ⟨rfl, hS, onlyM.rf⟩)
        | (rw [e3] at h22
           rw [if_neg (fun z => z (zB_ne0.mp h8))]
           first
             | (rw [if_pos h22]; exact ⟨rfl, hS, onlyM.rf⟩)
             | (rw [if_neg (fun z => z h22)]
                simp (disch := decide) only [zpI_ne, zpI_at, Nat.reduceEqDiff, reduceIte, e3]
                have ho1 : oM S.1 (zpI μ 0 3 (tod S + n)) := ⟨ho.1, by rw [← ho.2]; rfl⟩
                exact ⟨rfl, ⟨ho1, ⟨h2.1, rfl⟩, hT, hC, hD, hI, hA, hH⟩, (by repeat (first | exact onlyM.rf | refine onlyM.put rfl ?_))⟩))
  · refine zb M_pass_s11 rfl ?_
    refine z_ret M_pass_d12 rfl ?_
    unfold opPass
    first
      | (rw [if_pos (zB_eq0.mp h8)]; exact ⟨rfl, hS, onlyM.rf⟩)
      | (rw [e3] at h22
         rw [if_neg (fun z => z (zB_ne0.mp h8))]
         first
           | (rw [if_pos h22]; exact ⟨rfl, hS, onlyM.rf⟩)
           | (rw [if_neg (fun z => z h22)]
              simp (disch := decide) only [zpI_ne, zpI_at, Nat.reduceEqDiff, reduceIte, e3]
              have ho1 : oM S.1 (zpI μ 0 3 (tod S + n)) := ⟨ho.1, by rw [← ho.2]; rfl⟩
              exact ⟨rfl, ⟨ho1, ⟨h2.1, rfl⟩, hT, hC, hD, hI, hA, hH⟩, (by repeat (first | exact onlyM.rf | refine onlyM.put rfl ?_))⟩))

set_option maxRecDepth 100000 in
set_option maxHeartbeats 4000000 in
theorem s_M_ring {g : zG} {d : Nat} {S : zS} {μ : zMem} {b h : Int32} (hd : 48 ≤ d) (hS : mS S μ) : zM g d M_ring [.ref 0, .int b, .int h] μ (pO mS onlyM (opRing S b h) μ) := by
  refine zM_of (by decide +kernel) rfl rfl (Nat.le_of_ble_eq_true rfl) rfl ?_
  obtain ⟨ho, h2, hT, hC, hD, hI, hA, hH⟩ := hS
  have hS : mS S μ := ⟨ho, h2, hT, hC, hD, hI, hA, hH⟩
  have hb := ho.b
  have hv := ho.v
  have h6 := ho.b6
  have h12 := ho.v12
  have hz : zq sM μ μ := zq.rf
  have e3 : μ.1 0 3 = tod S := h2.2
  refine zb M_ring_s0 rfl ?_
  refine zcallV M_ring_d2 k11_116 (by omega) (c_M_isBell _) rfl rfl rfl (Nat.le_of_ble_eq_true rfl) ?_
  rintro _ μx ⟨rfl, hx⟩
  rw [hx]
  clear hx μx
  rw [ho.b]
  refine z_eq M_ring_d5 (tgt := 19) rfl (fun h5 => ?_) (fun h5 => ?_)
  · refine zb M_ring_s19 rfl ?_
    refine z_ret M_ring_d22 rfl ?_
    unfold opRing
    first
      | (rw [if_pos (fun z => (zB_eq0.mp h5) z.1)]; exact ⟨rfl, hS, onlyM.rf⟩)
      | (rw [if_pos (fun z => (zB_eq0.mp h16) z.2)]; exact ⟨rfl, hS, onlyM.rf⟩)
      | (rw [if_neg (fun z => z ⟨g1, zB_ne0.mp h16⟩), eq]
         simp (disch := decide) only [zpI_ne, zpI_at, Nat.reduceEqDiff, reduceIte, d1, d2, eq, ho'.e25]
         have ho1 : ∀ a b : Int32, oM S.1 (zpI (zpI μ1 0 37 a) 0 38 b) := fun a b => ⟨ho'.1, by rw [← ho'.2]; rfl⟩
         refine ⟨rfl, ⟨ho1 _ _, h2', hT', hC', ⟨hD'.1, hD'.2.1, rfl, ?_⟩, hI', hA', hH'⟩, hO'.tr (onlyM.put rfl (onlyM.put rfl onlyM.rf))⟩
         refine congrArg (fun x => (zD S).2.2.2 + x) ?_
         first
           | exact zB_cong (iff_of_true (by decide) h51)
           | exact zB_cong (iff_of_false (by decide) (fun z => z h51)))
  · refine zb M_ring_s8 rfl ?_
    refine zcallV M_ring_d13 k11_112 (by omega) (c_M_isIn _ _ _) rfl rfl rfl (Nat.le_of_ble_eq_true rfl) ?_
    rintro _ μx ⟨rfl, hx⟩
    rw [hx]
    clear hx μx
    refine z_ne M_ring_d16 (tgt := 23) rfl (fun h16 => ?_) (fun h16 => ?_)
    · have g1 := zB_ne0.mp h5
      obtain ⟨q, hq, rfl, eq⟩ := zix g1.1 g1.2 (by omega)
      have hvi : vp_in (nI q) 6 := vp_in_nI (by omega) (by omega)
      refine zb M_ring_s23 rfl ?_
      rw [e3]
      refine zcallV M_ring_d30 k11_264 (by omega) (o_offOf (by omega) ho) rfl rfl rfl (Nat.le_of_ble_eq_true rfl) ?_
      rintro _ μ1 ⟨rfl, hz1⟩
      obtain ⟨ho', h2', hT', hC', hD', hI', hA', hH'⟩ := hS.q hz1.gm
      have hO' := onlyM.zq hz1.gm
      have d1 : μ1.1 0 37 = (zD S).2.2.1 := hD'.2.2.1
      have d2 : μ1.1 0 38 = (zD S).2.2.2 := hD'.2.2.2
      refine zb M_ring_s33 rfl ?_
      refine z_eq M_ring_d51 (tgt := 58) rfl (fun h51 => ?_) (fun h51 => ?_)
      · refine zb M_ring_s58 rfl ?_
        refine zcallV M_ring_d59 k11_167 (by omega) (c_M_one _) rfl rfl rfl (Nat.le_of_ble_eq_true rfl) ?_
        rintro _ μx ⟨rfl, hx⟩
        rw [hx]
        clear hx μx
        refine zb1 M_ring_s62 rfl hvi ?_
        refine z_ret M_ring_d74 rfl ?_
        unfold opRing
        first
          | (rw [if_pos (fun z => (zB_eq0.mp h5) z.1)]; exact ⟨rfl, hS, onlyM.rf⟩)
          | (rw [if_pos (fun z => (zB_eq0.mp h16) z.2)]; exact ⟨rfl, hS, onlyM.rf⟩)
          | (rw [if_neg (fun z => z ⟨g1, zB_ne0.mp h16⟩), eq]
             simp (disch := decide) only [zpI_ne, zpI_at, Nat.reduceEqDiff, reduceIte, d1, d2, eq, ho'.e25]
             have ho1 : ∀ a b : Int32, oM S.1 (zpI (zpI μ1 0 37 a) 0 38 b) := fun a b => ⟨ho'.1, by rw [← ho'.2]; rfl⟩
             refine ⟨rfl, ⟨ho1 _ _, h2', hT', hC', ⟨hD'.1, hD'.2.1, rfl, ?_⟩, hI', hA', hH'⟩, hO'.tr (onlyM.put rfl (onlyM.put rfl onlyM.rf))⟩
             refine congrArg (fun x => (zD S).2.2.2 + x) ?_
             first
               | exact zB_cong (iff_of_true (by decide) h51)
               | exact zB_cong (iff_of_false (by decide) (fun z => z h51)))
      · refine zb M_ring_s54 rfl ?_
        refine zcallV M_ring_d59 k11_167 (by omega) (c_M_one _) rfl rfl rfl (Nat.le_of_ble_eq_true rfl) ?_
        rintro _ μx ⟨rfl, hx⟩
        rw [hx]
        clear hx μx
        refine zb1 M_ring_s62 rfl hvi ?_
        refine z_ret M_ring_d74 rfl ?_
        unfold opRing
        first
          | (rw [if_pos (fun z => (zB_eq0.mp h5) z.1)]; exact ⟨rfl, hS, onlyM.rf⟩)
          | (rw [if_pos (fun z => (zB_eq0.mp h16) z.2)]; exact ⟨rfl, hS, onlyM.rf⟩)
          | (rw [if_neg (fun z => z ⟨g1, zB_ne0.mp h16⟩), eq]
             simp (disch := decide) only [zpI_ne, zpI_at, Nat.reduceEqDiff, reduceIte, d1, d2, eq, ho'.e25]
             have ho1 : ∀ a b : Int32, oM S.1 (zpI (zpI μ1 0 37 a) 0 38 b) := fun a b => ⟨ho'.1, by rw [← ho'.2]; rfl⟩
             refine ⟨rfl, ⟨ho1 _ _, h2', hT', hC', ⟨hD'.1, hD'.2.1, rfl, ?_⟩, hI', hA', hH'⟩, hO'.tr (onlyM.put rfl (onlyM.put rfl onlyM.rf))⟩
             refine congrArg (fun x => (zD S).2.2.2 + x) ?_
             first
               | exact zB_cong (iff_of_true (by decide) h51)
               | exact zB_cong (iff_of_false (by decide) (fun z => z h51)))
    · refine zb M_ring_s19 rfl ?_
      refine z_ret M_ring_d22 rfl ?_
      unfold opRing
      first
        | (rw [if_pos (fun z => (zB_eq0.mp h5) z.1)]; exact ⟨rfl, hS, onlyM.rf⟩)
        | (rw [if_pos (fun z => (zB_eq0.mp h16) z.2)]; exact ⟨rfl, hS, onlyM.rf⟩)
        | (rw [if_neg (fun z => z ⟨g1, zB_ne0.mp h16⟩), eq]
           simp (disch := decide) only [zpI_ne, zpI_at, Nat.reduceEqDiff, reduceIte, d1, d2, eq, ho'.e25]
           have ho1 : ∀ a b : Int32, oM S.1 (zpI (zpI μ1 0 37 a) 0 38 b) := fun a b => ⟨ho'.1, by rw [← ho'.2]; rfl⟩
           refine ⟨rfl, ⟨ho1 _ _, h2', hT', hC', ⟨hD'.1, hD'.2.1, rfl, ?_⟩, hI', hA', hH'⟩, hO'.tr (onlyM.put rfl (onlyM.put rfl onlyM.rf))⟩
           refine congrArg (fun x => (zD S).2.2.2 + x) ?_
           first
             | exact zB_cong (iff_of_true (by decide) h51)
             | exact zB_cong (iff_of_false (by decide) (fun z => z h51)))

set_option maxRecDepth 100000 in
set_option maxHeartbeats 4000000 in
theorem s_M_led {g : zG} {d : Nat} {S : zS} {μ : zMem} {w : Int32} (hS : mS S μ) : zM g d M_led [.ref 0, .int w] μ (pO mS onlyM ((opLed S w, S)) μ) := by
  refine zM_of (by decide +kernel) rfl rfl (Nat.le_of_ble_eq_true rfl) rfl ?_
  obtain ⟨ho, h2, hT, hC, hD, hI, hA, hH⟩ := hS
  have hS : mS S μ := ⟨ho, h2, hT, hC, hD, hI, hA, hH⟩
  have hb := ho.b
  have hv := ho.v
  have h6 := ho.b6
  have h12 := ho.v12
  have hz : zq sM μ μ := zq.rf
  refine zb M_led_s0 rfl ?_
  by_cases hs1_0 : w = 0
  · refine z_tabIn M_led_d1 (off := 35) (tgt := 36) (by rw [hs1_0]; decide) (by rw [hs1_0]; decide) (by rw [hs1_0]; decide) rfl ?_
    refine zb M_led_s36 rfl ?_
    refine z_ret M_led_d40 rfl ?_
    refine ⟨?_, hS, onlyM.rf⟩
    unfold opLed
    first
      | (rw [if_pos hs1_0]; exact congrArg (fun z => some (Value.int z)) hD.1)
      | (rw [if_neg hs1_0, if_pos hs1_1]; exact congrArg (fun z => some (Value.int z)) hD.2.1)
      | (rw [if_neg hs1_0, if_neg hs1_1, if_pos hs1_2]; exact congrArg (fun z => some (Value.int z)) hD.2.2.1)
      | (rw [if_neg hs1_0, if_neg hs1_1, if_neg hs1_2, if_pos hs1_3]; exact congrArg (fun z => some (Value.int z)) hD.2.2.2)
      | (rw [if_neg hs1_0, if_neg hs1_1, if_neg hs1_2, if_neg hs1_3, if_pos hs1_4]; exact congrArg (fun z => some (Value.int z)) h2.2)
      | rw [if_neg hs1_0, if_neg hs1_1, if_neg hs1_2, if_neg hs1_3, if_neg hs1_4]
  · by_cases hs1_1 : w = 1
    · refine z_tabIn M_led_d1 (off := 40) (tgt := 41) (by rw [hs1_1]; decide) (by rw [hs1_1]; decide) (by rw [hs1_1]; decide) rfl ?_
      refine zb M_led_s41 rfl ?_
      refine z_ret M_led_d45 rfl ?_
      refine ⟨?_, hS, onlyM.rf⟩
      unfold opLed
      first
        | (rw [if_pos hs1_0]; exact congrArg (fun z => some (Value.int z)) hD.1)
        | (rw [if_neg hs1_0, if_pos hs1_1]; exact congrArg (fun z => some (Value.int z)) hD.2.1)
        | (rw [if_neg hs1_0, if_neg hs1_1, if_pos hs1_2]; exact congrArg (fun z => some (Value.int z)) hD.2.2.1)
        | (rw [if_neg hs1_0, if_neg hs1_1, if_neg hs1_2, if_pos hs1_3]; exact congrArg (fun z => some (Value.int z)) hD.2.2.2)
        | (rw [if_neg hs1_0, if_neg hs1_1, if_neg hs1_2, if_neg hs1_3, if_pos hs1_4]; exact congrArg (fun z => some (Value.int z)) h2.2)
        | rw [if_neg hs1_0, if_neg hs1_1, if_neg hs1_2, if_neg hs1_3, if_neg hs1_4]
    · by_cases hs1_2 : w = 2
      · refine z_tabIn M_led_d1 (off := 45) (tgt := 46) (by rw [hs1_2]; decide) (by rw [hs1_2]; decide) (by rw [hs1_2]; decide) rfl ?_
        refine zb M_led_s46 rfl ?_
        refine z_ret M_led_d50 rfl ?_
        refine ⟨?_, hS, onlyM.rf⟩
        unfold opLed
        first
          | (rw [if_pos hs1_0]; exact congrArg (fun z => some (Value.int z)) hD.1)
          | (rw [if_neg hs1_0, if_pos hs1_1]; exact congrArg (fun z => some (Value.int z)) hD.2.1)
          | (rw [if_neg hs1_0, if_neg hs1_1, if_pos hs1_2]; exact congrArg (fun z => some (Value.int z)) hD.2.2.1)
          | (rw [if_neg hs1_0, if_neg hs1_1, if_neg hs1_2, if_pos hs1_3]; exact congrArg (fun z => some (Value.int z)) hD.2.2.2)
          | (rw [if_neg hs1_0, if_neg hs1_1, if_neg hs1_2, if_neg hs1_3, if_pos hs1_4]; exact congrArg (fun z => some (Value.int z)) h2.2)
          | rw [if_neg hs1_0, if_neg hs1_1, if_neg hs1_2, if_neg hs1_3, if_neg hs1_4]
      · by_cases hs1_3 : w = 3
        · refine z_tabIn M_led_d1 (off := 50) (tgt := 51) (by rw [hs1_3]; decide) (by rw [hs1_3]; decide) (by rw [hs1_3]; decide) rfl ?_
          refine zb M_led_s51 rfl ?_
          refine z_ret M_led_d55 rfl ?_
          refine ⟨?_, hS, onlyM.rf⟩
          unfold opLed
          first
            | (rw [if_pos hs1_0]; exact congrArg (fun z => some (Value.int z)) hD.1)
            | (rw [if_neg hs1_0, if_pos hs1_1]; exact congrArg (fun z => some (Value.int z)) hD.2.1)
            | (rw [if_neg hs1_0, if_neg hs1_1, if_pos hs1_2]; exact congrArg (fun z => some (Value.int z)) hD.2.2.1)
            | (rw [if_neg hs1_0, if_neg hs1_1, if_neg hs1_2, if_pos hs1_3]; exact congrArg (fun z => some (Value.int z)) hD.2.2.2)
            | (rw [if_neg hs1_0, if_neg hs1_1, if_neg hs1_2, if_neg hs1_3, if_pos hs1_4]; exact congrArg (fun z => some (Value.int z)) h2.2)
            | rw [if_neg hs1_0, if_neg hs1_1, if_neg hs1_2, if_neg hs1_3, if_neg hs1_4]
        · by_cases hs1_4 : w = 4
          · refine z_tabIn M_led_d1 (off := 55) (tgt := 56) (by rw [hs1_4]; decide) (by rw [hs1_4]; decide) (by rw [hs1_4]; decide) rfl ?_
            refine zb M_led_s56 rfl ?_
            refine z_ret M_led_d60 rfl ?_
            refine ⟨?_, hS, onlyM.rf⟩
            unfold opLed
            first
              | (rw [if_pos hs1_0]; exact congrArg (fun z => some (Value.int z)) hD.1)
              | (rw [if_neg hs1_0, if_pos hs1_1]; exact congrArg (fun z => some (Value.int z)) hD.2.1)
              | (rw [if_neg hs1_0, if_neg hs1_1, if_pos hs1_2]; exact congrArg (fun z => some (Value.int z)) hD.2.2.1)
              | (rw [if_neg hs1_0, if_neg hs1_1, if_neg hs1_2, if_pos hs1_3]; exact congrArg (fun z => some (Value.int z)) hD.2.2.2)
              | (rw [if_neg hs1_0, if_neg hs1_1, if_neg hs1_2, if_neg hs1_3, if_pos hs1_4]; exact congrArg (fun z => some (Value.int z)) h2.2)
              | rw [if_neg hs1_0, if_neg hs1_1, if_neg hs1_2, if_neg hs1_3, if_neg hs1_4]
          · refine z_tabOut M_led_d1 (tgt := 61) (zsw_out 5 (by decide) (fun k hk => by rcases (show k = 0 ∨ k = 1 ∨ k = 2 ∨ k = 3 ∨ k = 4 by omega) with rfl | rfl | rfl | rfl | rfl <;> first | exact hs1_0 | exact hs1_1 | exact hs1_2 | exact hs1_3 | exact hs1_4)) rfl ?_
            refine zb M_led_s61 rfl ?_
            refine z_ret M_led_d62 rfl ?_
            refine ⟨?_, hS, onlyM.rf⟩
            unfold opLed
            first
              | (rw [if_pos hs1_0]; exact congrArg (fun z => some (Value.int z)) hD.1)
              | (rw [if_neg hs1_0, if_pos hs1_1]; exact congrArg (fun z => some (Value.int z)) hD.2.1)
              | (rw [if_neg hs1_0, if_neg hs1_1, if_pos hs1_2]; exact congrArg (fun z => some (Value.int z)) hD.2.2.1)
              | (rw [if_neg hs1_0, if_neg hs1_1, if_neg hs1_2, if_pos hs1_3]; exact congrArg (fun z => some (Value.int z)) hD.2.2.2)
              | (rw [if_neg hs1_0, if_neg hs1_1, if_neg hs1_2, if_neg hs1_3, if_pos hs1_4]; exact congrArg (fun z => some (Value.int z)) h2.2)
              | rw [if_neg hs1_0, if_neg hs1_1, if_neg hs1_2, if_neg hs1_3, if_neg hs1_4]

set_option maxRecDepth 100000 in
set_option maxHeartbeats 4000000 in
theorem s_M_count {g : zG} {d : Nat} {S : zS} {μ : zMem} {w : Int32} (hS : mS S μ) : zM g d M_count [.ref 0, .int w] μ (pO mS onlyM ((opCount S w, S)) μ) := by
  refine zM_of (by decide +kernel) rfl rfl (Nat.le_of_ble_eq_true rfl) rfl ?_
  obtain ⟨ho, h2, hT, hC, hD, hI, hA, hH⟩ := hS
  have hS : mS S μ := ⟨ho, h2, hT, hC, hD, hI, hA, hH⟩
  have hb := ho.b
  have hv := ho.v
  have h6 := ho.b6
  have h12 := ho.v12
  have hz : zq sM μ μ := zq.rf
  refine zb M_count_s0 rfl ?_
  by_cases hs1_0 : w = 0
  · refine z_tabIn M_count_d1 (off := 39) (tgt := 40) (by rw [hs1_0]; decide) (by rw [hs1_0]; decide) (by rw [hs1_0]; decide) rfl ?_
    refine zb M_count_s40 rfl ?_
    refine z_ret M_count_d44 rfl ?_
    refine ⟨?_, hS, onlyM.rf⟩
    unfold opCount
    first
      | (rw [if_pos hs1_0]; exact congrArg (fun z => some (Value.int z)) hb)
      | (rw [if_neg hs1_0, if_pos hs1_1]; exact congrArg (fun z => some (Value.int z)) hv)
      | (rw [if_neg hs1_0, if_neg hs1_1, if_pos hs1_2]; exact congrArg (fun z => some (Value.int z)) hT.1)
      | (rw [if_neg hs1_0, if_neg hs1_1, if_neg hs1_2, if_pos hs1_3]; exact congrArg (fun z => some (Value.int z)) hC.1.1)
      | (rw [if_neg hs1_0, if_neg hs1_1, if_neg hs1_2, if_neg hs1_3, if_pos hs1_4]; exact congrArg (fun z => some (Value.int z)) hA.1)
      | (rw [if_neg hs1_0, if_neg hs1_1, if_neg hs1_2, if_neg hs1_3, if_neg hs1_4, if_pos hs1_5]; exact congrArg (fun z => some (Value.int z)) hA.2.2.2.1)
      | rw [if_neg hs1_0, if_neg hs1_1, if_neg hs1_2, if_neg hs1_3, if_neg hs1_4, if_neg hs1_5]
  · by_cases hs1_1 : w = 1
    · refine z_tabIn M_count_d1 (off := 44) (tgt := 45) (by rw [hs1_1]; decide) (by rw [hs1_1]; decide) (by rw [hs1_1]; decide) rfl ?_
      refine zb M_count_s45 rfl ?_
      refine z_ret M_count_d49 rfl ?_
      refine ⟨?_, hS, onlyM.rf⟩
      unfold opCount
      first
        | (rw [if_pos hs1_0]; exact congrArg (fun z => some (Value.int z)) hb)
        | (rw [if_neg hs1_0, if_pos hs1_1]; exact congrArg (fun z => some (Value.int z)) hv)
        | (rw [if_neg hs1_0, if_neg hs1_1, if_pos hs1_2]; exact congrArg (fun z => some (Value.int z)) hT.1)
        | (rw [if_neg hs1_0, if_neg hs1_1, if_neg hs1_2, if_pos hs1_3]; exact congrArg (fun z => some (Value.int z)) hC.1.1)
        | (rw [if_neg hs1_0, if_neg hs1_1, if_neg hs1_2, if_neg hs1_3, if_pos hs1_4]; exact congrArg (fun z => some (Value.int z)) hA.1)
        | (rw [if_neg hs1_0, if_neg hs1_1, if_neg hs1_2, if_neg hs1_3, if_neg hs1_4, if_pos hs1_5]; exact congrArg (fun z => some (Value.int z)) hA.2.2.2.1)
        | rw [if_neg hs1_0, if_neg hs1_1, if_neg hs1_2, if_neg hs1_3, if_neg hs1_4, if_neg hs1_5]
    · by_cases hs1_2 : w = 2
      · refine z_tabIn M_count_d1 (off := 49) (tgt := 50) (by rw [hs1_2]; decide) (by rw [hs1_2]; decide) (by rw [hs1_2]; decide) rfl ?_
        refine zb M_count_s50 rfl ?_
        refine z_ret M_count_d54 rfl ?_
        refine ⟨?_, hS, onlyM.rf⟩
        unfold opCount
        first
          | (rw [if_pos hs1_0]; exact congrArg (fun z => some (Value.int z)) hb)
          | (rw [if_neg hs1_0, if_pos hs1_1]; exact congrArg (fun z => some (Value.int z)) hv)
          | (rw [if_neg hs1_0, if_neg hs1_1, if_pos hs1_2]; exact congrArg (fun z => some (Value.int z)) hT.1)
          | (rw [if_neg hs1_0, if_neg hs1_1, if_neg hs1_2, if_pos hs1_3]; exact congrArg (fun z => some (Value.int z)) hC.1.1)
          | (rw [if_neg hs1_0, if_neg hs1_1, if_neg hs1_2, if_neg hs1_3, if_pos hs1_4]; exact congrArg (fun z => some (Value.int z)) hA.1)
          | (rw [if_neg hs1_0, if_neg hs1_1, if_neg hs1_2, if_neg hs1_3, if_neg hs1_4, if_pos hs1_5]; exact congrArg (fun z => some (Value.int z)) hA.2.2.2.1)
          | rw [if_neg hs1_0, if_neg hs1_1, if_neg hs1_2, if_neg hs1_3, if_neg hs1_4, if_neg hs1_5]
      · by_cases hs1_3 : w = 3
        · refine z_tabIn M_count_d1 (off := 54) (tgt := 55) (by rw [hs1_3]; decide) (by rw [hs1_3]; decide) (by rw [hs1_3]; decide) rfl ?_
          refine zb M_count_s55 rfl ?_
          refine z_ret M_count_d59 rfl ?_
          refine ⟨?_, hS, onlyM.rf⟩
          unfold opCount
          first
            | (rw [if_pos hs1_0]; exact congrArg (fun z => some (Value.int z)) hb)
            | (rw [if_neg hs1_0, if_pos hs1_1]; exact congrArg (fun z => some (Value.int z)) hv)
            | (rw [if_neg hs1_0, if_neg hs1_1, if_pos hs1_2]; exact congrArg (fun z => some (Value.int z)) hT.1)
            | (rw [if_neg hs1_0, if_neg hs1_1, if_neg hs1_2, if_pos hs1_3]; exact congrArg (fun z => some (Value.int z)) hC.1.1)
            | (rw [if_neg hs1_0, if_neg hs1_1, if_neg hs1_2, if_neg hs1_3, if_pos hs1_4]; exact congrArg (fun z => some (Value.int z)) hA.1)
            | (rw [if_neg hs1_0, if_neg hs1_1, if_neg hs1_2, if_neg hs1_3, if_neg hs1_4, if_pos hs1_5]; exact congrArg (fun z => some (Value.int z)) hA.2.2.2.1)
            | rw [if_neg hs1_0, if_neg hs1_1, if_neg hs1_2, if_neg hs1_3, if_neg hs1_4, if_neg hs1_5]
        · by_cases hs1_4 : w = 4
          · refine z_tabIn M_count_d1 (off := 59) (tgt := 60) (by rw [hs1_4]; decide) (by rw [hs1_4]; decide) (by rw [hs1_4]; decide) rfl ?_
            refine zb M_count_s60 rfl ?_
            refine z_ret M_count_d64 rfl ?_
            refine ⟨?_, hS, onlyM.rf⟩
            unfold opCount
            first
              | (rw [if_pos hs1_0]; exact congrArg (fun z => some (Value.int z)) hb)
              | (rw [if_neg hs1_0, if_pos hs1_1]; exact congrArg (fun z => some (Value.int z)) hv)
              | (rw [if_neg hs1_0, if_neg hs1_1, if_pos hs1_2]; exact congrArg (fun z => some (Value.int z)) hT.1)
              | (rw [if_neg hs1_0, if_neg hs1_1, if_neg hs1_2, if_pos hs1_3]; exact congrArg (fun z => some (Value.int z)) hC.1.1)
              | (rw [if_neg hs1_0, if_neg hs1_1, if_neg hs1_2, if_neg hs1_3, if_pos hs1_4]; exact congrArg (fun z => some (Value.int z)) hA.1)
              | (rw [if_neg hs1_0, if_neg hs1_1, if_neg hs1_2, if_neg hs1_3, if_neg hs1_4, if_pos hs1_5]; exact congrArg (fun z => some (Value.int z)) hA.2.2.2.1)
              | rw [if_neg hs1_0, if_neg hs1_1, if_neg hs1_2, if_neg hs1_3, if_neg hs1_4, if_neg hs1_5]
          · by_cases hs1_5 : w = 5
            · refine z_tabIn M_count_d1 (off := 64) (tgt := 65) (by rw [hs1_5]; decide) (by rw [hs1_5]; decide) (by rw [hs1_5]; decide) rfl ?_
              refine zb M_count_s65 rfl ?_
              refine z_ret M_count_d69 rfl ?_
              refine ⟨?_, hS, onlyM.rf⟩
              unfold opCount
              first
                | (rw [if_pos hs1_0]; exact congrArg (fun z => some (Value.int z)) hb)
                | (rw [if_neg hs1_0, if_pos hs1_1]; exact congrArg (fun z => some (Value.int z)) hv)
                | (rw [if_neg hs1_0, if_neg hs1_1, if_pos hs1_2]; exact congrArg (fun z => some (Value.int z)) hT.1)
                | (rw [if_neg hs1_0, if_neg hs1_1, if_neg hs1_2, if_pos hs1_3]; exact congrArg (fun z => some (Value.int z)) hC.1.1)
                | (rw [if_neg hs1_0, if_neg hs1_1, if_neg hs1_2, if_neg hs1_3, if_pos hs1_4]; exact congrArg (fun z => some (Value.int z)) hA.1)
                | (rw [if_neg hs1_0, if_neg hs1_1, if_neg hs1_2, if_neg hs1_3, if_neg hs1_4, if_pos hs1_5]; exact congrArg (fun z => some (Value.int z)) hA.2.2.2.1)
                | rw [if_neg hs1_0, if_neg hs1_1, if_neg hs1_2, if_neg hs1_3, if_neg hs1_4, if_neg hs1_5]
            · refine z_tabOut M_count_d1 (tgt := 70) (zsw_out 6 (by decide) (fun k hk => by rcases (show k = 0 ∨ k = 1 ∨ k = 2 ∨ k = 3 ∨ k = 4 ∨ k = 5 by omega) with rfl | rfl | rfl | rfl | rfl | rfl <;> first | exact hs1_0 | exact hs1_1 | exact hs1_2 | exact hs1_3 | exact hs1_4 | exact hs1_5)) rfl ?_
              refine zb M_count_s70 rfl ?_
              refine z_ret M_count_d71 rfl ?_
              refine ⟨?_, hS, onlyM.rf⟩
              unfold opCount
              first
                | (rw [if_pos hs1_0]; exact congrArg (fun z => some (Value.int z)) hb)
                | (rw [if_neg hs1_0, if_pos hs1_1]; exact congrArg (fun z => some (Value.int z)) hv)
                | (rw [if_neg hs1_0, if_neg hs1_1, if_pos hs1_2]; exact congrArg (fun z => some (Value.int z)) hT.1)
                | (rw [if_neg hs1_0, if_neg hs1_1, if_neg hs1_2, if_pos hs1_3]; exact congrArg (fun z => some (Value.int z)) hC.1.1)
                | (rw [if_neg hs1_0, if_neg hs1_1, if_neg hs1_2, if_neg hs1_3, if_pos hs1_4]; exact congrArg (fun z => some (Value.int z)) hA.1)
                | (rw [if_neg hs1_0, if_neg hs1_1, if_neg hs1_2, if_neg hs1_3, if_neg hs1_4, if_pos hs1_5]; exact congrArg (fun z => some (Value.int z)) hA.2.2.2.1)
                | rw [if_neg hs1_0, if_neg hs1_1, if_neg hs1_2, if_neg hs1_3, if_neg hs1_4, if_neg hs1_5]

def imR (μ0 : zMem) (i : Nat) (μ : zMem) : Prop := (∀ c, ¬ c = 45 → μ.1 c = μ0.1 c) ∧ μ.2 = μ0.2 ∧ ∀ v, v < i → μ.1 45 v = μ0.1 30 v ∧ μ.1 45 (12 + v) = μ0.1 31 v
theorem imR.s {μ0 μ : zMem} {i : Nat} (h : imR μ0 i μ) (hi : i < 12) : imR μ0 (i + 1) (zpI (zpI μ 45 i (μ0.1 30 i)) 45 (12 + i) (μ0.1 31 i)) := by
  obtain ⟨a, b, c⟩ := h
  refine ⟨fun c hc => by rw [zpI_ne hc, zpI_ne hc]; exact a c hc, b, fun v hv => ?_⟩
  rw [zpI_at, zpI_at, zpI_at, zpI_at, if_neg (show ¬ v = 12 + i by omega), if_neg (show ¬ 12 + v = i by omega)]
  by_cases e : v = i
  · rw [if_pos e, if_pos (by omega), e]
    exact ⟨rfl, rfl⟩
  · rw [if_neg e, if_neg (by omega)]
    exact c v (by omega)
theorem mS.image {S : zS} {μ0 μ : zMem} (h : mS S μ0) (hr : imR (zpI μ0 0 40 (nI (fV S.1))) (fV S.1) μ) : mS (opImage S).2 (zpI (zpI (zpI (zpI (zpI μ 45 24 (tod S)) 45 25 (zD S).1) 45 26 (zD S).2.1) 45 27 (zD S).2.2.1) 45 28 (zD S).2.2.2) ∧ onlyM μ0 (zpI (zpI (zpI (zpI (zpI μ 45 24 (tod S)) 45 25 (zD S).1) 45 26 (zD S).2.1) 45 27 (zD S).2.2.1) 45 28 (zD S).2.2.2) := by
  obtain ⟨a, b, c⟩ := hr
  obtain ⟨ho, h2, hT, hC, hD, hI, hA, hH⟩ := h
  have e0 := a 0 (by decide)
  have ho1 : oM S.1 (zpI μ0 0 40 (nI (fV S.1))) := ⟨ho.1, by rw [← ho.2]; rfl⟩
  have hm : zq (fun c _ => c == 45) (zpI μ0 0 40 (nI (fV S.1))) μ := ⟨fun c k hc => by rw [a c (fun z => by rw [z] at hc; cases hc)], b⟩
  have ok : mokF (fun c _ => c == 45) := ⟨⟨rfl, rfl, rfl, rfl⟩, fun _ => ⟨rfl, rfl, rfl, rfl, rfl, rfl, rfl, rfl⟩⟩
  have ho2 : oM S.1 μ := ⟨(zq_fM ok hm).2 ho1.1, by rw [(zq_fM ok hm).1]; exact ho1.2⟩
  have h12 := ho.v12
  have ho3 : oM S.1 (zpI (zpI (zpI (zpI (zpI μ 45 24 (tod S)) 45 25 (zD S).1) 45 26 (zD S).2.1) 45 27 (zD S).2.2.1) 45 28 (zD S).2.2.2) := ⟨ho2.1, by rw [← ho2.2]; rfl⟩
  have f : ∀ k, ¬ k = 40 → μ.1 0 k = μ0.1 0 k := fun k hk => by rw [e0, zpI_at, if_neg hk]
  have r : ∀ c, ¬ c = 45 → ¬ c = 0 → μ.1 c = μ0.1 c := fun c h1 h2 => by rw [a c h1, zpI_ne h2]
  have e2 : μ.2 = μ0.2 := b
  refine ⟨⟨ho3, ?_, ?_, ?_, ?_, ?_, ?_, ?_⟩, ?_⟩
  · show μ.1 0 2 = _ ∧ μ.1 0 3 = _
    rw [f 2 (by decide), f 3 (by decide)]; exact h2
  · show μ.1 0 4 = _ ∧ _ ∧ μ.1 32 = _
    rw [f 4 (by decide), r 32 (by decide) (by decide)]; exact hT
  · show (μ.1 0 22 = _ ∧ μ.1 0 23 = _ ∧ _ ∧ _) ∧ μ.1 34 = _ ∧ μ.1 35 = _ ∧ μ.1 36 = _ ∧ μ.1 37 = _
    rw [f 22 (by decide), f 23 (by decide), r 34 (by decide) (by decide), r 35 (by decide) (by decide), r 36 (by decide) (by decide), r 37 (by decide) (by decide)]; exact hC
  · show μ.1 0 35 = _ ∧ μ.1 0 36 = _ ∧ μ.1 0 37 = _ ∧ μ.1 0 38 = _
    rw [f 35 (by decide), f 36 (by decide), f 37 (by decide), f 38 (by decide)]; exact hD
  · refine ⟨?_, Or.inr ⟨fV S.1, h12, rfl, fun v hv => ?_, ?_, ?_, ?_, ?_, ?_⟩⟩
    · show μ.1 0 40 = _
      rw [e0, zpI_at, if_pos rfl]
      rfl
    · simp only [zpI_at]
      rw [if_neg (by omega), if_neg (by omega), if_neg (by omega), if_neg (by omega), if_neg (by omega), if_neg (by omega), if_neg (by omega), if_neg (by omega), if_neg (by omega), if_neg (by omega), (c v hv).1, (c v hv).2]
      exact ⟨congrFun ho.e30 v, congrFun ho.e31 v⟩
    · rfl
    · rfl
    · rfl
    · rfl
    · rfl
  · show μ.1 0 7 = _ ∧ _ ∧ μ.1 46 = _ ∧ μ.1 0 6 = _ ∧ ∀ i, i < 24 → μ.1 47 i = _
    rw [f 7 (by decide), f 6 (by decide), r 46 (by decide) (by decide), r 47 (by decide) (by decide)]; exact hA
  · show μ.1 48 = _ ∧ μ.1 49 = _ ∧ μ.1 50 = _ ∧ μ.1 51 = _ ∧ ∀ s i, s < 6 → i < 60 → μ.2.1 52 (60 * s + i) = _
    rw [r 48 (by decide) (by decide), r 49 (by decide) (by decide), r 50 (by decide) (by decide), r 51 (by decide) (by decide), e2]; exact hH
  · refine onlyM.put rfl (onlyM.put rfl (onlyM.put rfl (onlyM.put rfl (onlyM.put rfl ⟨fun c hc => ⟨r c (fun z => ?_) (fun z => ?_), by rw [e2]⟩, by rw [e2]⟩))))
    · rw [z] at hc; cases hc
    · rw [z] at hc; cases hc

set_option maxRecDepth 100000 in
set_option maxHeartbeats 4000000 in
theorem w_M_image {g : zG} {d : Nat} {V : Nat} {μ0 : zMem} (hV : V ≤ 12) (h0 : μ0.1 0 1 = nI V) {Q : Option Value → zMem → Prop} (hQ : ∀ μ : zMem, imR μ0 V μ → zW g M_image d 51 [some (.ref 0), some (.int (nI V))] [] μ Q) : ∀ (j i : Nat) (μ : zMem), i + j = V → (imR μ0 i μ) → zW g M_image d 10 [some (.ref 0), some (.int (nI i))] [] μ (Q) := by
  intro j
  induction j with
  | zero =>
    intro i  μ hi  hv0
    have hbd : μ.1 0 1 = nI V := by rw [hv0.1 0 (by decide)]; exact h0
    have hi : V = i := by omega
    subst hi
    refine zb M_image_s10 rfl ?_
    refine z_cge M_image_d15 (tgt := 51) rfl (fun h15 => ?_) (fun h15 => absurd (show μ.1 0 1 ≤ nI (V) by first | exact Int32.le_refl _ | (rw [hbd]; exact Int32.le_refl _)) h15)
    exact hQ _ hv0
  | succ j ih =>
    intro i  μ hi  hv0
    have hbd : μ.1 0 1 = nI V := by rw [hv0.1 0 (by decide)]; exact h0
    have hilt : i < V := by omega
    have ei : (nI i).toNatClampNeg = i := nI_clamp (by omega)
    have hvi : vp_in (nI i) 12 := vp_in_nI (by omega) (by omega)
    have e12 : (12 : Int32) + nI i = nI (12 + i) := by rw [show (12 : Int32) = nI 12 from rfl, nI_add]
    have hv45 : vp_in (nI i) 32 := vp_in_nI (by omega) (by omega)
    have hv45b : vp_in ((12 : Int32) + nI i) 32 := by rw [e12]; exact vp_in_nI (by omega) (by omega)
    have ec : ((12 : Int32) + nI i).toNatClampNeg = 12 + i := by rw [e12]; exact nI_clamp (by omega)
    refine zb M_image_s10 rfl ?_
    refine z_cge M_image_d15 (tgt := 51) rfl (fun h15 => absurd h15 (show ¬ μ.1 0 1 ≤ nI i by first | exact nI_ge hilt (by omega) | (rw [hbd]; exact nI_ge hilt (by omega)))) (fun h15 => ?_)
    refine zb4 M_image_s18 rfl (by first | exact hvi | exact hv45 | exact hv45b) (by first | exact hvi | exact hv45 | exact hv45b) (by first | exact hvi | exact hv45 | exact hv45b) (by first | exact hvi | exact hv45 | exact hv45b) ?_
    rw [nI_1, ei, ec]
    simp (disch := decide) only [zpI_ne]
    rw [hv0.1 30 (by decide), hv0.1 31 (by decide)]
    exact ih (i + 1) _ (by omega) (hv0.s (by omega))

set_option maxRecDepth 100000 in
set_option maxHeartbeats 4000000 in
theorem s_M_image {g : zG} {d : Nat} {S : zS} {μ : zMem} (hS : mS S μ) : zM g d M_image [.ref 0] μ (pO mS onlyM (opImage S) μ) := by
  refine zM_of (by decide +kernel) rfl rfl (Nat.le_of_ble_eq_true rfl) rfl ?_
  obtain ⟨ho, h2, hT, hC, hD, hI, hA, hH⟩ := hS
  have hS : mS S μ := ⟨ho, h2, hT, hC, hD, hI, hA, hH⟩
  have hb := ho.b
  have hv := ho.v
  have h6 := ho.b6
  have h12 := ho.v12
  have hz : zq sM μ μ := zq.rf
  have e3 : μ.1 0 3 = tod S := h2.2
  refine zb M_image_s0 rfl ?_
  rw [hv]
  refine w_M_image (μ0 := zpI μ 0 40 (nI (fV S.1))) h12 hv (fun μ1 hr => ?_) (fV S.1) 0 _ (by omega) ⟨fun _ _ => rfl, rfl, fun v hv => by omega⟩
  have hm := hS.image hr
  have f : ∀ k, ¬ k = 40 → μ1.1 0 k = μ.1 0 k := fun k hk => by rw [hr.1 0 (by decide), zpI_at, if_neg hk]
  have f3 : μ1.1 0 3 = tod S := by rw [f 3 (by decide)]; exact e3
  have f35 : μ1.1 0 35 = (zD S).1 := by rw [f 35 (by decide)]; exact hD.1
  have f36 : μ1.1 0 36 = (zD S).2.1 := by rw [f 36 (by decide)]; exact hD.2.1
  have f37 : μ1.1 0 37 = (zD S).2.2.1 := by rw [f 37 (by decide)]; exact hD.2.2.1
  have f38 : μ1.1 0 38 = (zD S).2.2.2 := by rw [f 38 (by decide)]; exact hD.2.2.2
  refine zb5 M_image_s51 rfl (vp_in_nI (n := 24) (by omega) (by omega)) (vp_in_nI (n := 25) (by omega) (by omega)) (vp_in_nI (n := 26) (by omega) (by omega)) (vp_in_nI (n := 27) (by omega) (by omega)) (vp_in_nI (n := 28) (by omega) (by omega)) ?_
  refine z_ret M_image_d110 rfl ?_
  simp (disch := decide) only [zpI_ne, show (24 : Int32).toNatClampNeg = 24 from rfl, show (25 : Int32).toNatClampNeg = 25 from rfl, show (26 : Int32).toNatClampNeg = 26 from rfl, show (27 : Int32).toNatClampNeg = 27 from rfl, show (28 : Int32).toNatClampNeg = 28 from rfl, f3, f35, f36, f37, f38]
  exact ⟨rfl, hm.1, hm.2⟩

theorem bkF_0 (F : zF) (ib ia : Nat → Int32) : bkF F ib ia 0 = F := rfl
theorem bkF_s (F : zF) (ib ia : Nat → Int32) (i : Nat) : fsag (fsbr (bkF F ib ia i) i (ib i)) i (ia i) = bkF F ib ia (i + 1) := by
  unfold fsag fsbr bkF fbr fag ftone ftune fbell fwt fby flaw
  dsimp only
  refine congrArg (fun z => (F.1, F.2.1, F.2.2.1, F.2.2.2.1, F.2.2.2.2.1, F.2.2.2.2.2.1, z)) ?_
  refine Prod.ext ?_ (Prod.ext ?_ rfl)
  · funext v
    show (if v = i then ib i else if v < i then ib v else _) = if v < i + 1 then ib v else _
    by_cases e : v = i
    · rw [if_pos e, if_pos (by omega), e]
    · rw [if_neg e]
      by_cases q : v < i
      · rw [if_pos q, if_pos (by omega)]
      · rw [if_neg q, if_neg (by omega)]
  · funext v
    show (if v = i then ia i else if v < i then ia v else _) = if v < i + 1 then ia v else _
    by_cases e : v = i
    · rw [if_pos e, if_pos (by omega), e]
    · rw [if_neg e]
      by_cases q : v < i
      · rw [if_pos q, if_pos (by omega)]
      · rw [if_neg q, if_neg (by omega)]

set_option maxRecDepth 100000 in
set_option maxHeartbeats 4000000 in
theorem w_M_back {g : zG} {d : Nat} {S : zS} {μ0 : zMem} {n : Nat} (hn : n ≤ 12) (hI1 : (zI_ S).1 = nI n) {Q : Option Value → zMem → Prop} (hQ : ∀ μ : zMem, mS (sF S (bkF S.1 (zI_ S).2.1 (zI_ S).2.2.1 n)) μ → onlyM μ0 μ → zW g M_back d 53 [some (.ref 0), some (.int (nI n))] [] μ Q) : ∀ (j i : Nat) (μ : zMem), i + j = n → (mS (sF S (bkF S.1 (zI_ S).2.1 (zI_ S).2.2.1 i)) μ) → (onlyM μ0 μ) → zW g M_back d 12 [some (.ref 0), some (.int (nI i))] [] μ (Q) := by
  intro j
  induction j with
  | zero =>
    intro i  μ hi  hv0 hv1
    have hI : mI (zI_ S) μ := hv0.2.2.2.2.2.1
    have hbd : μ.1 0 40 = nI n := by rw [hI.1]; exact hI1
    have hi : n = i := by omega
    subst hi
    refine zb M_back_s12 rfl ?_
    refine z_cge M_back_d17 (tgt := 53) rfl (fun h17 => ?_) (fun h17 => absurd (show μ.1 0 40 ≤ nI (n) by first | exact Int32.le_refl _ | (rw [hbd]; exact Int32.le_refl _)) h17)
    exact hQ _ hv0 hv1
  | succ j ih =>
    intro i  μ hi  hv0 hv1
    have hI : mI (zI_ S) μ := hv0.2.2.2.2.2.1
    have hbd : μ.1 0 40 = nI n := by rw [hI.1]; exact hI1
    have hilt : i < n := by omega
    have ei : (nI i).toNatClampNeg = i := nI_clamp (by omega)
    have hK : μ.1 45 i = (zI_ S).2.1 i ∧ μ.1 45 (12 + i) = (zI_ S).2.2.1 i := by
      rcases hI.2 with z | ⟨q, hq, e, hk, -⟩
      · rw [hI1] at z
        exact absurd (show (nI n).toInt = (-1 : Int32).toInt by rw [z]) (by rw [nI_toInt (by omega), show (-1 : Int32).toInt = -1 from rfl]; omega)
      · have : n = q := (nI_eq (by omega) (by omega)).mp (hI1.symm.trans e)
        exact hk i (by omega)
    have hvi : vp_in (nI i) 12 := vp_in_nI (by omega) (by omega)
    have e12 : (12 : Int32) + nI i = nI (12 + i) := by rw [show (12 : Int32) = nI 12 from rfl, nI_add]
    have hv45 : vp_in (nI i) 32 := vp_in_nI (by omega) (by omega)
    have hv45b : vp_in ((12 : Int32) + nI i) 32 := by rw [e12]; exact vp_in_nI (by omega) (by omega)
    have ec : ((12 : Int32) + nI i).toNatClampNeg = 12 + i := by rw [e12]; exact nI_clamp (by omega)
    refine zb M_back_s12 rfl ?_
    refine z_cge M_back_d17 (tgt := 53) rfl (fun h17 => absurd h17 (show ¬ μ.1 0 40 ≤ nI i by first | exact nI_ge hilt (by omega) | (rw [hbd]; exact nI_ge hilt (by omega)))) (fun h17 => ?_)
    refine zb4 M_back_s20 rfl (by first | exact hvi | exact hv45 | exact hv45b) (by first | exact hvi | exact hv45 | exact hv45b) (by first | exact hvi | exact hv45 | exact hv45b) (by first | exact hvi | exact hv45 | exact hv45b) ?_
    rw [nI_1, ei, ec]
    simp (disch := decide) only [zpI_ne]
    rw [hK.1, hK.2]
    obtain ⟨ho, h2, hT, hC, hD, hI, hA, hH⟩ := hv0
    have ho1 := (ho.p30 (v := i) (x := (zI_ S).2.1 i)).p31 (v := i) (x := (zI_ S).2.2.1 i)
    have e := bkF_s S.1 (zI_ S).2.1 (zI_ S).2.2.1 i
    replace e : fsag (fsbr (sF S (bkF S.1 (zI_ S).2.1 (zI_ S).2.2.1 i)).1 i ((zI_ S).2.1 i)) i ((zI_ S).2.2.1 i) = _ := e
    rw [e] at ho1
    exact ih (i + 1) _ (by omega) ⟨ho1, h2, hT, hC, hD, hI, hA, hH⟩ (hv1.tr (onlyM.put rfl (onlyM.put rfl onlyM.rf)))

set_option maxRecDepth 100000 in
set_option maxHeartbeats 4000000 in
theorem s_M_back {g : zG} {d : Nat} {S : zS} {μ : zMem} (hS : mS S μ) : zM g d M_back [.ref 0] μ (pO mS onlyM (opBack S) μ) := by
  refine zM_of (by decide +kernel) rfl rfl (Nat.le_of_ble_eq_true rfl) rfl ?_
  obtain ⟨ho, h2, hT, hC, hD, hI, hA, hH⟩ := hS
  have hS : mS S μ := ⟨ho, h2, hT, hC, hD, hI, hA, hH⟩
  have hb := ho.b
  have hv := ho.v
  have h6 := ho.b6
  have h12 := ho.v12
  have hz : zq sM μ μ := zq.rf
  have e40 : μ.1 0 40 = (zI_ S).1 := hI.1
  refine zb M_back_s0 rfl ?_
  refine z_ge M_back_d4 (tgt := 10) rfl (fun h4 => ?_) (fun h4 => ?_)
  · refine zb M_back_s10 rfl ?_
    rw [e40] at h4
    unfold opBack
    rw [if_neg (Int32.not_lt.mpr h4)]
    have hI0 : mI (zI_ S) μ := hI
    rcases hI0.2 with z | ⟨q, hq, e, -⟩
    · rw [z] at h4
      exact absurd h4 (by decide)
    · rw [e, nI_clamp (by omega)]
      refine w_M_back (S := S) (μ0 := μ) hq e (fun μ1 hS1 hO1 => ?_) q 0 μ (by omega) hS onlyM.rf
      obtain ⟨ho1, h21, hT1, hC1, hD1, hI1, hA1, hH1⟩ := hS1
      have hI2 : mI (zI_ S) μ1 := hI1
      rcases hI2.2 with z | ⟨q', hq', e', hk, k24, k25, k26, k27, k28⟩
      · rw [z] at h4
        exact absurd h4 (by decide)
      · refine zb5 M_back_s53 rfl (vp_in_nI (n := 24) (by omega) (by omega)) (vp_in_nI (n := 25) (by omega) (by omega)) (vp_in_nI (n := 26) (by omega) (by omega)) (vp_in_nI (n := 27) (by omega) (by omega)) (vp_in_nI (n := 28) (by omega) (by omega)) ?_
        refine z_ret M_back_d112 rfl ?_
        simp (disch := decide) only [zpI_ne, zpI_at, Nat.reduceEqDiff, reduceIte, show (24 : Int32).toNatClampNeg = 24 from rfl, show (25 : Int32).toNatClampNeg = 25 from rfl, show (26 : Int32).toNatClampNeg = 26 from rfl, show (27 : Int32).toNatClampNeg = 27 from rfl, show (28 : Int32).toNatClampNeg = 28 from rfl, k24, k25, k26, k27, k28]
        have ho2 : ∀ a b c d e : Int32, oM (bkF S.1 (zI_ S).2.1 (zI_ S).2.2.1 q) (zpI (zpI (zpI (zpI (zpI μ1 0 3 a) 0 35 b) 0 36 c) 0 37 d) 0 38 e) := fun a b c d e => ⟨ho1.1, ho1.2⟩
        exact ⟨rfl, ⟨ho2 _ _ _ _ _, ⟨h21.1, rfl⟩, hT1, hC1, ⟨rfl, rfl, rfl, rfl⟩, hI1, hA1, hH1⟩, hO1.tr (by repeat (first | exact onlyM.rf | refine onlyM.put rfl ?_))⟩
  · refine zb M_back_s7 rfl ?_
    refine z_ret M_back_d9 rfl ?_
    unfold opBack
    rw [e40] at h4
    rw [if_pos (Int32.not_le.mp h4)]
    exact ⟨rfl, hS, onlyM.rf⟩

def okH (S : zS) : Prop := ∀ s, s < 6 → hHeld S s = 0 ∨ (hHeld S s = 1 ∧ ∃ b, b < (zA_ S).1.1 ∧ hShown S s = nI b) ∨ (hHeld S s = 2 ∧ (∃ p, p ≤ 4 ∧ hSort S s = nI p) ∧ (∃ m, m ≤ 60 ∧ hSize S s = nI m) ∧ (hSort S s = 1 → ∀ i, i < 60 → (hInt S s i).toInt64 = hCell S s i))
theorem okH.two {S : zS} (h : okH S) {s : Nat} (hs : s < 6) (h2 : hHeld S s = 2) : (∃ p, p ≤ 4 ∧ hSort S s = nI p) ∧ (∃ m, m ≤ 60 ∧ hSize S s = nI m) ∧ (hSort S s = 1 → ∀ i, i < 60 → (hInt S s i).toInt64 = hCell S s i) := by
  rcases h s hs with z | z | z
  · rw [h2] at z; exact absurd z (by decide)
  · rw [h2] at z; exact absurd z.1 (by decide)
  · exact z.2
theorem mS.oR {S : zS} {μ : zMem} (h : mS S μ) {s m : Nat} (hs : s < 6) (hm : m ≤ 60) (e : hSize S s = nI m) : oR s m (hInt S s) μ := by
  obtain ⟨-, -, -, -, -, -, -, hH⟩ := h
  refine ⟨hs, hm, ?_, fun i hi => ?_⟩
  · rw [← e, hH.2.2.1]; rfl
  · rw [hH.2.2.2.2 s i hs hi]; rfl
theorem mS.held {S : zS} {μ : zMem} (h : mS S μ) (s : Nat) : μ.1 48 s = hHeld S s ∧ μ.1 49 s = hSort S s ∧ μ.1 50 s = hSize S s ∧ μ.1 51 s = hShown S s := by
  obtain ⟨-, -, -, -, -, -, -, hH⟩ := h
  exact ⟨congrFun hH.1 s, congrFun hH.2.1 s, congrFun hH.2.2.1 s, congrFun hH.2.2.2.1 s⟩

set_option maxRecDepth 100000 in
set_option maxHeartbeats 4000000 in
theorem w_M_vows {g : zG} {d : Nat} {S : zS} {μ0 : zMem} {s m N : Nat} {ii : Int32} {R : Nat × zF} (hd : 2 ≤ d) (hs6 : s < 6) (hm : m ≤ 60) (em : hSize S s = nI m) (hN : N ≤ 12) (hii : ¬ ii < 0) : ∀ (j i : Nat) (q : Nat) (F : zF) (x6 : Option Value) (x7 : Option Value) (x8 : Option Value) (μ : zMem), i + j = N → (mS (sF S F) μ) → (onlyM μ0 μ) → (q < 2 ^ 31) → (voL (hInt S s) m j q i F = R) → zW g M_vows d 60 [some (.ref 0), some (.int (nI s)), some (.int ii), some (.int (nI N)), some (.int (nI i)), some (.int (nI q)), x6, x7, x8] [] μ (pO mS onlyM ((nI R.1, sF S R.2)) μ0) := by
  intro j
  induction j with
  | zero =>
    intro i q F x6 x7 x8 μ hi  hv0 hv1 hv2 hv3
    have hvs : vp_in (nI s) 6 := vp_in_nI (by omega) (by omega)
    have es : (nI s).toNatClampNeg = s := nI_clamp (by omega)
    have esz : μ.1 50 s = nI m := by rw [(hv0.held s).2.2.1]; exact em
    have ho : oM F μ := hv0.1
    have hvv := ho.v
    have h12 := ho.v12
    have h6 := ho.b6
    have hr : oR s m (hInt S s) μ := hv0.oR hs6 hm em
    have hi : N = i := by omega
    subst hi
    refine zb M_vows_s60 rfl ?_
    refine z_cge M_vows_d63 (tgt := 181) rfl (fun h63 => ?_) (fun h63 => absurd (Int32.le_refl _) h63)
    refine zb M_vows_s181 rfl ?_
    refine z_ret M_vows_d183 rfl ?_
    rw [← hv3]
    exact ⟨rfl, hv0, hv1⟩
  | succ j ih =>
    intro i q F x6 x7 x8 μ hi  hv0 hv1 hv2 hv3
    have hvs : vp_in (nI s) 6 := vp_in_nI (by omega) (by omega)
    have es : (nI s).toNatClampNeg = s := nI_clamp (by omega)
    have esz : μ.1 50 s = nI m := by rw [(hv0.held s).2.2.1]; exact em
    have ho : oM F μ := hv0.1
    have hvv := ho.v
    have h12 := ho.v12
    have h6 := ho.b6
    have hr : oR s m (hInt S s) μ := hv0.oR hs6 hm em
    have hilt : i < N := by omega
    have ei : (nI i).toNatClampNeg = i := nI_clamp (by omega)
    refine zb M_vows_s60 rfl ?_
    refine z_cge M_vows_d63 (tgt := 181) rfl (fun h63 => absurd h63 (show ¬ nI N ≤ nI i from nI_ge hilt (by omega))) (fun h63 => ?_)
    refine zb M_vows_s66 rfl ?_
    refine z_lt M_vows_d67 (tgt := 181) rfl (fun h67 => absurd h67 hii) (fun h67 => ?_)
    refine zb1 M_vows_s70 rfl hvs ?_
    refine z_cgt M_vows_d80 (tgt := 92) rfl (fun h80 => ?_) (fun h80 => ?_)
    · refine zb M_vows_s92 rfl ?_
      refine z_ret M_vows_d94 rfl ?_
      first
        | (rw [es, esz] at h80
           have hq3 : m < q + 3 := by
             rw [Int32.lt_iff_toInt_lt, show (3 : Int32) = nI 3 from rfl, pk_sub_toInt (by omega) (by omega), nI_toInt hv2] at h80
             omega
           have e : voL (hInt S s) m (j + 1) q i F = (i, F) := if_pos (Or.inl hq3)
           rw [← hv3, e]
           exact ⟨rfl, hv0, hv1⟩)
        | (have hV : fV F = 12 := (nI_eq (a := fV F) (b := 12) (by omega) (by omega)).mp (hvv.symm.trans h89)
           have e : voL (hInt S s) m (j + 1) q i F = (i, F) := if_pos (Or.inr hV)
           rw [← hv3, e]
           exact ⟨rfl, hv0, hv1⟩)
        | (rw [if_neg (fun z => by first | exact (zB_eq0.mp h132) z.1 | exact (zB_eq0.mp h144) z.2.1 | exact (zB_eq0.mp h155) z.2.2)] at hv3
           rw [← hv3]
           exact ⟨rfl, hv0, hv1⟩)
    · rw [es, esz] at h80
      have hq3 : ¬ m < q + 3 := fun z => by
        refine h80 ?_
        rw [Int32.lt_iff_toInt_lt, show (3 : Int32) = nI 3 from rfl, pk_sub_toInt (by omega) (by omega), nI_toInt hv2]
        omega
      refine zb M_vows_s83 rfl ?_
      refine z_cne M_vows_d89 (tgt := 95) rfl (fun h89 => ?_) (fun h89 => ?_)
      · have hV : ¬ fV F = 12 := fun z => h89 (by rw [hvv, z]; rfl)
        have e : voL (hInt S s) m (j + 1) q i F = if isB F (hInt S s q) ∧ (1 ≤ hInt S s (q + 1) ∧ hInt S s (q + 1) ≤ 9) ∧ (0 ≤ hInt S s (q + 2) ∧ hInt S s (q + 2) ≤ 5) then voL (hInt S s) m j (q + 3) (i + 1) (fnV F (hInt S s q) (hInt S s (q + 1)) (hInt S s (q + 2))) else (i, F) := if_neg (fun z => z.elim hq3 hV)
        rw [e] at hv3
        refine zb M_vows_s95 rfl ?_
        refine zcallV M_vows_d99 k11_127 (by omega) (o_intAt hr (by omega)) rfl rfl rfl (Nat.le_of_ble_eq_true rfl) ?_
        rintro _ μx ⟨rfl, hx⟩
        rw [hx]
        clear hx μx
        refine zb M_vows_s102 rfl ?_
        rw [nI_1]
        refine zcallV M_vows_d110 k11_127 (by omega) (o_intAt (i := q + 1) hr (by omega)) rfl rfl rfl (Nat.le_of_ble_eq_true rfl) ?_
        rintro _ μx ⟨rfl, hx⟩
        rw [hx]
        clear hx μx
        refine zb M_vows_s113 rfl ?_
        rw [show nI q + 2 = nI (q + 2) from nI_add q 2]
        refine zcallV M_vows_d121 k11_127 (by omega) (o_intAt (i := q + 2) hr (by omega)) rfl rfl rfl (Nat.le_of_ble_eq_true rfl) ?_
        rintro _ μx ⟨rfl, hx⟩
        rw [hx]
        clear hx μx
        refine zb M_vows_s124 rfl ?_
        refine zcallV M_vows_d129 k11_116 (by omega) (c_M_isBell _) rfl rfl rfl (Nat.le_of_ble_eq_true rfl) ?_
        rintro _ μx ⟨rfl, hx⟩
        rw [hx]
        clear hx μx
        rw [ho.b]
        refine z_eq M_vows_d132 (tgt := 158) rfl (fun h132 => ?_) (fun h132 => ?_)
        · refine zb M_vows_s158 rfl ?_
          refine z_ret M_vows_d160 rfl ?_
          first
            | (rw [es, esz] at h80
               have hq3 : m < q + 3 := by
                 rw [Int32.lt_iff_toInt_lt, show (3 : Int32) = nI 3 from rfl, pk_sub_toInt (by omega) (by omega), nI_toInt hv2] at h80
                 omega
               have e : voL (hInt S s) m (j + 1) q i F = (i, F) := if_pos (Or.inl hq3)
               rw [← hv3, e]
               exact ⟨rfl, hv0, hv1⟩)
            | (have hV : fV F = 12 := (nI_eq (a := fV F) (b := 12) (by omega) (by omega)).mp (hvv.symm.trans h89)
               have e : voL (hInt S s) m (j + 1) q i F = (i, F) := if_pos (Or.inr hV)
               rw [← hv3, e]
               exact ⟨rfl, hv0, hv1⟩)
            | (rw [if_neg (fun z => by first | exact (zB_eq0.mp h132) z.1 | exact (zB_eq0.mp h144) z.2.1 | exact (zB_eq0.mp h155) z.2.2)] at hv3
               rw [← hv3]
               exact ⟨rfl, hv0, hv1⟩)
        · refine zb M_vows_s135 rfl ?_
          refine zcallV M_vows_d141 k11_112 (by omega) (c_M_isIn _ _ _) rfl rfl rfl (Nat.le_of_ble_eq_true rfl) ?_
          rintro _ μx ⟨rfl, hx⟩
          rw [hx]
          clear hx μx
          refine z_eq M_vows_d144 (tgt := 158) rfl (fun h144 => ?_) (fun h144 => ?_)
          · refine zb M_vows_s158 rfl ?_
            refine z_ret M_vows_d160 rfl ?_
            first
              | (rw [es, esz] at h80
                 have hq3 : m < q + 3 := by
                   rw [Int32.lt_iff_toInt_lt, show (3 : Int32) = nI 3 from rfl, pk_sub_toInt (by omega) (by omega), nI_toInt hv2] at h80
                   omega
                 have e : voL (hInt S s) m (j + 1) q i F = (i, F) := if_pos (Or.inl hq3)
                 rw [← hv3, e]
                 exact ⟨rfl, hv0, hv1⟩)
              | (have hV : fV F = 12 := (nI_eq (a := fV F) (b := 12) (by omega) (by omega)).mp (hvv.symm.trans h89)
                 have e : voL (hInt S s) m (j + 1) q i F = (i, F) := if_pos (Or.inr hV)
                 rw [← hv3, e]
                 exact ⟨rfl, hv0, hv1⟩)
              | (rw [if_neg (fun z => by first | exact (zB_eq0.mp h132) z.1 | exact (zB_eq0.mp h144) z.2.1 | exact (zB_eq0.mp h155) z.2.2)] at hv3
                 rw [← hv3]
                 exact ⟨rfl, hv0, hv1⟩)
          · refine zb M_vows_s147 rfl ?_
            refine zcallV M_vows_d152 k11_112 (by omega) (c_M_isIn _ _ _) rfl rfl rfl (Nat.le_of_ble_eq_true rfl) ?_
            rintro _ μx ⟨rfl, hx⟩
            rw [hx]
            clear hx μx
            refine z_ne M_vows_d155 (tgt := 161) rfl (fun h155 => ?_) (fun h155 => ?_)
            · refine zb M_vows_s161 rfl ?_
              refine zcallV M_vows_d168 k11_120 (by omega) (s_M_adds (S := sF S F) (show fV F < 12 by omega) hv0) rfl rfl rfl (Nat.le_of_ble_eq_true rfl) ?_
              rintro _ μ1 ⟨rfl, hS1, hO1⟩
              refine zb M_vows_s171 rfl ?_
              rw [nI_1, show nI q + 3 = nI (q + 3) from nI_add q 3]
              rw [if_pos ⟨zB_ne0.mp h132, zB_ne0.mp h144, zB_ne0.mp h155⟩] at hv3
              exact ih (i + 1) (q + 3) _ _ _ _ μ1 (by omega) hS1 (hv1.tr hO1) (by omega) hv3
            · refine zb M_vows_s158 rfl ?_
              refine z_ret M_vows_d160 rfl ?_
              first
                | (rw [es, esz] at h80
                   have hq3 : m < q + 3 := by
                     rw [Int32.lt_iff_toInt_lt, show (3 : Int32) = nI 3 from rfl, pk_sub_toInt (by omega) (by omega), nI_toInt hv2] at h80
                     omega
                   have e : voL (hInt S s) m (j + 1) q i F = (i, F) := if_pos (Or.inl hq3)
                   rw [← hv3, e]
                   exact ⟨rfl, hv0, hv1⟩)
                | (have hV : fV F = 12 := (nI_eq (a := fV F) (b := 12) (by omega) (by omega)).mp (hvv.symm.trans h89)
                   have e : voL (hInt S s) m (j + 1) q i F = (i, F) := if_pos (Or.inr hV)
                   rw [← hv3, e]
                   exact ⟨rfl, hv0, hv1⟩)
                | (rw [if_neg (fun z => by first | exact (zB_eq0.mp h132) z.1 | exact (zB_eq0.mp h144) z.2.1 | exact (zB_eq0.mp h155) z.2.2)] at hv3
                   rw [← hv3]
                   exact ⟨rfl, hv0, hv1⟩)
      · refine zb M_vows_s92 rfl ?_
        refine z_ret M_vows_d94 rfl ?_
        first
          | (rw [es, esz] at h80
             have hq3 : m < q + 3 := by
               rw [Int32.lt_iff_toInt_lt, show (3 : Int32) = nI 3 from rfl, pk_sub_toInt (by omega) (by omega), nI_toInt hv2] at h80
               omega
             have e : voL (hInt S s) m (j + 1) q i F = (i, F) := if_pos (Or.inl hq3)
             rw [← hv3, e]
             exact ⟨rfl, hv0, hv1⟩)
          | (have hV : fV F = 12 := (nI_eq (a := fV F) (b := 12) (by omega) (by omega)).mp (hvv.symm.trans h89)
             have e : voL (hInt S s) m (j + 1) q i F = (i, F) := if_pos (Or.inr hV)
             rw [← hv3, e]
             exact ⟨rfl, hv0, hv1⟩)
          | (rw [if_neg (fun z => by first | exact (zB_eq0.mp h132) z.1 | exact (zB_eq0.mp h144) z.2.1 | exact (zB_eq0.mp h155) z.2.2)] at hv3
             rw [← hv3]
             exact ⟨rfl, hv0, hv1⟩)

set_option maxRecDepth 100000 in
set_option maxHeartbeats 4000000 in
theorem s_M_vows {g : zG} {d : Nat} {S : zS} {μ : zMem} {s i n : Int32} (hd : 2 ≤ d) (hS : mS S μ) (hok : okH S) : zM g d M_vows [.ref 0, .int s, .int i, .int n] μ (pO mS onlyM (opVows S s i n) μ) := by
  refine zM_of (by decide +kernel) rfl rfl (Nat.le_of_ble_eq_true rfl) rfl ?_
  obtain ⟨ho, h2, hT, hC, hD, hI, hA, hH⟩ := hS
  have hS : mS S μ := ⟨ho, h2, hT, hC, hD, hI, hA, hH⟩
  have hb := ho.b
  have hv := ho.v
  have h6 := ho.b6
  have h12 := ho.v12
  have hz : zq sM μ μ := zq.rf
  refine zb M_vows_s0 rfl ?_
  refine zcallV M_vows_d2 k11_124 (by omega) (o_isShelf _) rfl rfl rfl (Nat.le_of_ble_eq_true rfl) ?_
  rintro _ μx ⟨rfl, hx⟩
  rw [hx]
  clear hx μx
  refine z_eq M_vows_d5 (tgt := 19) rfl (fun h5 => ?_) (fun h5 => ?_)
  · refine zb M_vows_s19 rfl ?_
    refine z_ret M_vows_d20 rfl ?_
    first
      | (unfold opVows; rw [if_pos (fun z => (zB_eq0.mp h5) z.1)]; exact ⟨rfl, hS, onlyM.rf⟩)
      | (unfold opVows; rw [if_pos (fun z => (zB_eq0.mp h16) z.2)]; exact ⟨rfl, hS, onlyM.rf⟩)
      | (rw [es, e48] at h27 h39
         first
           | (rw [es, e49] at h48; rw [if_neg h27, if_pos (fun z => h48 z.2)]; exact ⟨rfl, hS, onlyM.rf⟩)
           | (rw [if_neg h27, if_pos (fun z => h39 z.1)]; exact ⟨rfl, hS, onlyM.rf⟩))
      | (rw [es, e48] at h27
         rw [if_pos h27]; exact ⟨rfl, hS, onlyM.rf⟩)
  · refine zb M_vows_s8 rfl ?_
    refine zcallV M_vows_d13 k11_112 (by omega) (c_M_isIn _ _ _) rfl rfl rfl (Nat.le_of_ble_eq_true rfl) ?_
    rintro _ μx ⟨rfl, hx⟩
    rw [hx]
    clear hx μx
    refine z_ne M_vows_d16 (tgt := 21) rfl (fun h16 => ?_) (fun h16 => ?_)
    · have g1 := zB_ne0.mp h5
      have g2 := zB_ne0.mp h16
      obtain ⟨q, hs6, rfl, es⟩ := zix (n := 6) g1.1 g1.2 (by omega)
      have hvs : vp_in (nI q) 6 := vp_in_nI (by omega) (by omega)
      have e48 := (hS.held q).1
      have e49 := (hS.held q).2.1
      unfold opVows
      rw [if_neg (fun z => z ⟨g1, g2⟩), es]
      refine zb1 M_vows_s21 rfl hvs ?_
      refine z_ne M_vows_d27 (tgt := 32) rfl (fun h27 => ?_) (fun h27 => ?_)
      · refine zb1 M_vows_s32 rfl hvs ?_
        refine z_cne M_vows_d39 (tgt := 51) rfl (fun h39 => ?_) (fun h39 => ?_)
        · refine zb M_vows_s51 rfl ?_
          refine z_ret M_vows_d53 rfl ?_
          first
            | (unfold opVows; rw [if_pos (fun z => (zB_eq0.mp h5) z.1)]; exact ⟨rfl, hS, onlyM.rf⟩)
            | (unfold opVows; rw [if_pos (fun z => (zB_eq0.mp h16) z.2)]; exact ⟨rfl, hS, onlyM.rf⟩)
            | (rw [es, e48] at h27 h39
               first
                 | (rw [es, e49] at h48; rw [if_neg h27, if_pos (fun z => h48 z.2)]; exact ⟨rfl, hS, onlyM.rf⟩)
                 | (rw [if_neg h27, if_pos (fun z => h39 z.1)]; exact ⟨rfl, hS, onlyM.rf⟩))
            | (rw [es, e48] at h27
               rw [if_pos h27]; exact ⟨rfl, hS, onlyM.rf⟩)
        · refine zb1 M_vows_s42 rfl hvs ?_
          refine z_eq M_vows_d48 (tgt := 54) rfl (fun h48 => ?_) (fun h48 => ?_)
          · refine zb M_vows_s54 rfl ?_
            rw [es, e48] at h27 h39
            rw [es, e49] at h48
            rw [if_neg h27, if_neg (fun z => z ⟨h39, h48⟩)]
            obtain ⟨-, ⟨m, hm, em⟩, -⟩ := hok.two hs6 h39
            obtain ⟨N, hN, rfl⟩ := nI_of2 (M := 12) (n := 12) rfl (Int32.not_lt.mpr (Int32.le_trans (by decide) g2.1)) g2.2
            by_cases hi0 : i < 0
            · rw [if_pos hi0]
              have hN1 : ¬ nI N ≤ 0 := fun z => by
                have := (nI_leI (a := 1) (b := N) (by omega) (by omega)).mp g2.1
                exact absurd z (nI_nle (by omega) (by omega))
              refine zb M_vows_s60 rfl ?_
              refine z_cge M_vows_d63 (tgt := 181) rfl (fun h63 => absurd h63 hN1) (fun h63 => ?_)
              refine zb M_vows_s66 rfl ?_
              refine z_lt M_vows_d67 (tgt := 181) rfl (fun h67 => ?_) (fun h67 => absurd hi0 h67)
              refine zb M_vows_s181 rfl ?_
              refine z_ret M_vows_d183 rfl ?_
              exact ⟨rfl, hS, onlyM.rf⟩
            · rw [if_neg hi0, em, nI_clamp (by omega), nI_clamp (by omega)]
              obtain ⟨qq, hqq, rfl⟩ := nI_of hi0
              rw [nI_clamp hqq]
              exact w_M_vows hd hs6 hm em hN hi0 N 0 qq S.1 _ _ _ μ (by omega) hS onlyM.rf hqq rfl
          · refine zb M_vows_s51 rfl ?_
            refine z_ret M_vows_d53 rfl ?_
            first
              | (unfold opVows; rw [if_pos (fun z => (zB_eq0.mp h5) z.1)]; exact ⟨rfl, hS, onlyM.rf⟩)
              | (unfold opVows; rw [if_pos (fun z => (zB_eq0.mp h16) z.2)]; exact ⟨rfl, hS, onlyM.rf⟩)
              | (rw [es, e48] at h27 h39
                 first
                   | (rw [es, e49] at h48; rw [if_neg h27, if_pos (fun z => h48 z.2)]; exact ⟨rfl, hS, onlyM.rf⟩)
                   | (rw [if_neg h27, if_pos (fun z => h39 z.1)]; exact ⟨rfl, hS, onlyM.rf⟩))
              | (rw [es, e48] at h27
                 rw [if_pos h27]; exact ⟨rfl, hS, onlyM.rf⟩)
      · refine zb M_vows_s30 rfl ?_
        refine z_ret M_vows_d31 rfl ?_
        first
          | (unfold opVows; rw [if_pos (fun z => (zB_eq0.mp h5) z.1)]; exact ⟨rfl, hS, onlyM.rf⟩)
          | (unfold opVows; rw [if_pos (fun z => (zB_eq0.mp h16) z.2)]; exact ⟨rfl, hS, onlyM.rf⟩)
          | (rw [es, e48] at h27 h39
             first
               | (rw [es, e49] at h48; rw [if_neg h27, if_pos (fun z => h48 z.2)]; exact ⟨rfl, hS, onlyM.rf⟩)
               | (rw [if_neg h27, if_pos (fun z => h39 z.1)]; exact ⟨rfl, hS, onlyM.rf⟩))
          | (rw [es, e48] at h27
             rw [if_pos h27]; exact ⟨rfl, hS, onlyM.rf⟩)
    · refine zb M_vows_s19 rfl ?_
      refine z_ret M_vows_d20 rfl ?_
      first
        | (unfold opVows; rw [if_pos (fun z => (zB_eq0.mp h5) z.1)]; exact ⟨rfl, hS, onlyM.rf⟩)
        | (unfold opVows; rw [if_pos (fun z => (zB_eq0.mp h16) z.2)]; exact ⟨rfl, hS, onlyM.rf⟩)
        | (rw [es, e48] at h27 h39
           first
             | (rw [es, e49] at h48; rw [if_neg h27, if_pos (fun z => h48 z.2)]; exact ⟨rfl, hS, onlyM.rf⟩)
             | (rw [if_neg h27, if_pos (fun z => h39 z.1)]; exact ⟨rfl, hS, onlyM.rf⟩))
        | (rw [es, e48] at h27
           rw [if_pos h27]; exact ⟨rfl, hS, onlyM.rf⟩)
