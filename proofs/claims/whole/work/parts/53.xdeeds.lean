/-! the class: deeds, images, counts -/
theorem cpy_at {f h : Nat → Int32} {n k : Nat} (hk : k < n) : va_cpy f h 0 0 n k = f k := by
  rw [pk_cpy_in (Nat.zero_le _) (by omega)]
  congr 1
  omega

theorem isV_nI {F : zF} {q : Nat} (hq : q < fV F) (h12 : fV F ≤ 12) : isV F (nI q) := ⟨Int32.not_lt.mp (nI_pos (by omega)), nI_lt hq (by omega)⟩

set_option maxRecDepth 100000 in
set_option maxHeartbeats 4000000 in
theorem xs_breakVow {g : zG} {d : Nat} {S : zS} {μ : zMem} {q : Nat} (hd : 1 ≤ d) (hq : q < fV S.1) (hS : xS S μ) : zM g d D_breakVow [.ref 7, .int (nI q)] μ (pO xS onlyX (opBreaks S (nI q)) μ) := by
  refine zM_of (by decide +kernel) rfl rfl (Nat.le_of_ble_eq_true rfl) rfl ?_
  obtain ⟨ho, h2, hT, hC, hD, hI, hA, hH⟩ := hS
  have hS : xS S μ := ⟨ho, h2, hT, hC, hD, hI, hA, hH⟩
  have hb := ho.b
  have hv := ho.v
  have hB6 := ho.b6
  have hV12 := ho.v12
  have hz : zq sX μ μ := zq.rf
  have e3 : μ.1 7 2 = tod S := h2.2
  have d0 : μ.1 75 0 = (zD S).1 := hD.1
  have d1 : μ.1 75 1 = (zD S).2.1 := hD.2.1
  have d2 : μ.1 75 2 = (zD S).2.2.1 := hD.2.2.1
  have d3 : μ.1 75 3 = (zD S).2.2.2 := hD.2.2.2
  have g1 : isV S.1 (nI q) := isV_nI hq (by omega)
  have eq : (nI q).toNatClampNeg = q := nI_clamp (by omega)
  have hvi : vp_in (nI q) 12 := vp_in_nI (by omega) (by omega)
  refine zb D_breakVow_s0 rfl ?_
  rw [e3]
  refine zcallV D_breakVow_d9 k3_32 (by omega) (x_isKept _ (by omega) ho) rfl rfl rfl (Nat.le_of_ble_eq_true rfl) ?_
  rintro _ μx ⟨rfl, hx⟩
  rw [hx]
  clear hx μx
  refine z_ne D_breakVow_d12 (tgt := 17) rfl (fun h12 => ?_) (fun h12 => ?_)
  · refine zb4 D_breakVow_s17 rfl (by first | exact hvi | exact vp_in_nI (n := 0) (by omega) (by omega) | exact vp_in_nI (n := 1) (by omega) (by omega) | exact vp_in_nI (n := 2) (by omega) (by omega) | exact vp_in_nI (n := 3) (by omega) (by omega)) (by first | exact hvi | exact vp_in_nI (n := 0) (by omega) (by omega) | exact vp_in_nI (n := 1) (by omega) (by omega) | exact vp_in_nI (n := 2) (by omega) (by omega) | exact vp_in_nI (n := 3) (by omega) (by omega)) (by first | exact hvi | exact vp_in_nI (n := 0) (by omega) (by omega) | exact vp_in_nI (n := 1) (by omega) (by omega) | exact vp_in_nI (n := 2) (by omega) (by omega) | exact vp_in_nI (n := 3) (by omega) (by omega)) (by first | exact hvi | exact vp_in_nI (n := 0) (by omega) (by omega) | exact vp_in_nI (n := 1) (by omega) (by omega) | exact vp_in_nI (n := 2) (by omega) (by omega) | exact vp_in_nI (n := 3) (by omega) (by omega)) ?_
    refine z_ret D_breakVow_d53 rfl ?_
    unfold opBreaks
    rw [if_neg (fun z => z g1), eq]
    first
      | (rw [if_neg (fun z => z (zB_ne0.mp h12))]
         simp (disch := decide) only [zpI_ne, zpI_at, Nat.reduceEqDiff, reduceIte, show (0 : Int32).toNatClampNeg = 0 from rfl, show (1 : Int32).toNatClampNeg = 1 from rfl, show (2 : Int32).toNatClampNeg = 2 from rfl, show (3 : Int32).toNatClampNeg = 3 from rfl, e3, d0]
         have ho1 : oX (fsag (fsbr S.1 q (tod S)) q 999) (zpI (zpI (zpI μ 59 q (tod S)) 60 q 999) 75 0 ((zD S).1 + 1)) := ⟨(ho.p59.p60).1, ((ho.p59 (v := q) (x := tod S)).p60 (v := q) (x := 999)).2⟩
         exact ⟨rfl, ⟨ho1, h2, hT, hC, ⟨rfl, hD.2.1, hD.2.2.1, hD.2.2.2⟩, hI, hA, (by repeat (first | exact hH | refine xH.put (by decide) ?_))⟩, (by repeat (first | exact onlyX.rf | refine onlyX.put rfl ?_))⟩)
      | (rw [if_pos (zB_eq0.mp h12)]; exact ⟨rfl, hS, onlyX.rf⟩)
  · refine zb D_breakVow_s15 rfl ?_
    refine z_ret D_breakVow_d16 rfl ?_
    unfold opBreaks
    rw [if_neg (fun z => z g1), eq]
    first
      | (rw [if_neg (fun z => z (zB_ne0.mp h12))]
         simp (disch := decide) only [zpI_ne, zpI_at, Nat.reduceEqDiff, reduceIte, show (0 : Int32).toNatClampNeg = 0 from rfl, show (1 : Int32).toNatClampNeg = 1 from rfl, show (2 : Int32).toNatClampNeg = 2 from rfl, show (3 : Int32).toNatClampNeg = 3 from rfl, e3, d0]
         have ho1 : oX (fsag (fsbr S.1 q (tod S)) q 999) (zpI (zpI (zpI μ 59 q (tod S)) 60 q 999) 75 0 ((zD S).1 + 1)) := ⟨(ho.p59.p60).1, ((ho.p59 (v := q) (x := tod S)).p60 (v := q) (x := 999)).2⟩
         exact ⟨rfl, ⟨ho1, h2, hT, hC, ⟨rfl, hD.2.1, hD.2.2.1, hD.2.2.2⟩, hI, hA, (by repeat (first | exact hH | refine xH.put (by decide) ?_))⟩, (by repeat (first | exact onlyX.rf | refine onlyX.put rfl ?_))⟩)
      | (rw [if_pos (zB_eq0.mp h12)]; exact ⟨rfl, hS, onlyX.rf⟩)

set_option maxRecDepth 100000 in
set_option maxHeartbeats 4000000 in
theorem xs_keepAgain {g : zG} {d : Nat} {S : zS} {μ : zMem} {q : Nat} (hd : 1 ≤ d) (hq : q < fV S.1) (hS : xS S μ) : zM g d D_keepAgain [.ref 7, .int (nI q)] μ (pO xS onlyX (opKeeps S (nI q)) μ) := by
  refine zM_of (by decide +kernel) rfl rfl (Nat.le_of_ble_eq_true rfl) rfl ?_
  obtain ⟨ho, h2, hT, hC, hD, hI, hA, hH⟩ := hS
  have hS : xS S μ := ⟨ho, h2, hT, hC, hD, hI, hA, hH⟩
  have hb := ho.b
  have hv := ho.v
  have hB6 := ho.b6
  have hV12 := ho.v12
  have hz : zq sX μ μ := zq.rf
  have e3 : μ.1 7 2 = tod S := h2.2
  have d0 : μ.1 75 0 = (zD S).1 := hD.1
  have d1 : μ.1 75 1 = (zD S).2.1 := hD.2.1
  have d2 : μ.1 75 2 = (zD S).2.2.1 := hD.2.2.1
  have d3 : μ.1 75 3 = (zD S).2.2.2 := hD.2.2.2
  have g1 : isV S.1 (nI q) := isV_nI hq (by omega)
  have eq : (nI q).toNatClampNeg = q := nI_clamp (by omega)
  have hvi : vp_in (nI q) 12 := vp_in_nI (by omega) (by omega)
  refine zb D_keepAgain_s0 rfl ?_
  rw [e3]
  refine zcallV D_keepAgain_d9 k3_32 (by omega) (x_isKept _ (by omega) ho) rfl rfl rfl (Nat.le_of_ble_eq_true rfl) ?_
  rintro _ μx ⟨rfl, hx⟩
  rw [hx]
  clear hx μx
  refine z_eq D_keepAgain_d12 (tgt := 17) rfl (fun h12 => ?_) (fun h12 => ?_)
  · refine zb1 D_keepAgain_s17 rfl (by first | exact hvi | exact vp_in_nI (n := 0) (by omega) (by omega) | exact vp_in_nI (n := 1) (by omega) (by omega) | exact vp_in_nI (n := 2) (by omega) (by omega) | exact vp_in_nI (n := 3) (by omega) (by omega)) ?_
    refine z_cne D_keepAgain_d30 (tgt := 36) rfl (fun h30 => ?_) (fun h30 => ?_)
    · refine zb3 D_keepAgain_s36 rfl (by first | exact hvi | exact vp_in_nI (n := 0) (by omega) (by omega) | exact vp_in_nI (n := 1) (by omega) (by omega) | exact vp_in_nI (n := 2) (by omega) (by omega) | exact vp_in_nI (n := 3) (by omega) (by omega)) (by first | exact hvi | exact vp_in_nI (n := 0) (by omega) (by omega) | exact vp_in_nI (n := 1) (by omega) (by omega) | exact vp_in_nI (n := 2) (by omega) (by omega) | exact vp_in_nI (n := 3) (by omega) (by omega)) (by first | exact hvi | exact vp_in_nI (n := 0) (by omega) (by omega) | exact vp_in_nI (n := 1) (by omega) (by omega) | exact vp_in_nI (n := 2) (by omega) (by omega) | exact vp_in_nI (n := 3) (by omega) (by omega)) ?_
      refine z_ret D_keepAgain_d60 rfl ?_
      unfold opKeeps
      rw [if_neg (fun z => z g1), eq]
      first
        | (rw [if_pos (zB_ne0.mp h12)]; exact ⟨rfl, hS, onlyX.rf⟩)
        | (rw [if_neg (zB_eq0.mp h12)]
           rw [eq, e3, ho.e59] at h30
           first
             | (rw [if_pos h30]; exact ⟨rfl, hS, onlyX.rf⟩)
             | (rw [if_neg h30]
                simp (disch := decide) only [zpI_ne, zpI_at, Nat.reduceEqDiff, reduceIte, show (0 : Int32).toNatClampNeg = 0 from rfl, show (1 : Int32).toNatClampNeg = 1 from rfl, show (2 : Int32).toNatClampNeg = 2 from rfl, show (3 : Int32).toNatClampNeg = 3 from rfl, e3, d1]
                have ho1 : oX (fsag S.1 q (tod S)) (zpI (zpI μ 60 q (tod S)) 75 1 ((zD S).2.1 + 1)) := ⟨ho.p60.1, (ho.p60 (v := q) (x := tod S)).2⟩
                exact ⟨rfl, ⟨ho1, h2, hT, hC, ⟨hD.1, rfl, hD.2.2.1, hD.2.2.2⟩, hI, hA, (by repeat (first | exact hH | refine xH.put (by decide) ?_))⟩, (by repeat (first | exact onlyX.rf | refine onlyX.put rfl ?_))⟩))
    · refine zb D_keepAgain_s33 rfl ?_
      refine z_ret D_keepAgain_d35 rfl ?_
      unfold opKeeps
      rw [if_neg (fun z => z g1), eq]
      first
        | (rw [if_pos (zB_ne0.mp h12)]; exact ⟨rfl, hS, onlyX.rf⟩)
        | (rw [if_neg (zB_eq0.mp h12)]
           rw [eq, e3, ho.e59] at h30
           first
             | (rw [if_pos h30]; exact ⟨rfl, hS, onlyX.rf⟩)
             | (rw [if_neg h30]
                simp (disch := decide) only [zpI_ne, zpI_at, Nat.reduceEqDiff, reduceIte, show (0 : Int32).toNatClampNeg = 0 from rfl, show (1 : Int32).toNatClampNeg = 1 from rfl, show (2 : Int32).toNatClampNeg = 2 from rfl, show (3 : Int32).toNatClampNeg = 3 from rfl, e3, d1]
                have ho1 : oX (fsag S.1 q (tod S)) (zpI (zpI μ 60 q (tod S)) 75 1 ((zD S).2.1 + 1)) := ⟨ho.p60.1, (ho.p60 (v := q) (x := tod S)).2⟩
                exact ⟨rfl, ⟨ho1, h2, hT, hC, ⟨hD.1, rfl, hD.2.2.1, hD.2.2.2⟩, hI, hA, (by repeat (first | exact hH | refine xH.put (by decide) ?_))⟩, (by repeat (first | exact onlyX.rf | refine onlyX.put rfl ?_))⟩))
  · refine zb D_keepAgain_s15 rfl ?_
    refine z_ret D_keepAgain_d16 rfl ?_
    unfold opKeeps
    rw [if_neg (fun z => z g1), eq]
    first
      | (rw [if_pos (zB_ne0.mp h12)]; exact ⟨rfl, hS, onlyX.rf⟩)
      | (rw [if_neg (zB_eq0.mp h12)]
         rw [eq, e3, ho.e59] at h30
         first
           | (rw [if_pos h30]; exact ⟨rfl, hS, onlyX.rf⟩)
           | (rw [if_neg h30]
              simp (disch := decide) only [zpI_ne, zpI_at, Nat.reduceEqDiff, reduceIte, show (0 : Int32).toNatClampNeg = 0 from rfl, show (1 : Int32).toNatClampNeg = 1 from rfl, show (2 : Int32).toNatClampNeg = 2 from rfl, show (3 : Int32).toNatClampNeg = 3 from rfl, e3, d1]
              have ho1 : oX (fsag S.1 q (tod S)) (zpI (zpI μ 60 q (tod S)) 75 1 ((zD S).2.1 + 1)) := ⟨ho.p60.1, (ho.p60 (v := q) (x := tod S)).2⟩
              exact ⟨rfl, ⟨ho1, h2, hT, hC, ⟨hD.1, rfl, hD.2.2.1, hD.2.2.2⟩, hI, hA, (by repeat (first | exact hH | refine xH.put (by decide) ?_))⟩, (by repeat (first | exact onlyX.rf | refine onlyX.put rfl ?_))⟩))

set_option maxRecDepth 100000 in
set_option maxHeartbeats 4000000 in
theorem xs_breaks {g : zG} {d : Nat} {S : zS} {μ : zMem} {v : Int32} (hd : 2 ≤ d) (hS : xS S μ) : zM g d X_breaks [.ref 1, .int v] μ (pO xS onlyX (opBreaks S v) μ) := by
  refine zM_of (by decide +kernel) rfl rfl (Nat.le_of_ble_eq_true rfl) rfl ?_
  obtain ⟨ho, h2, hT, hC, hD, hI, hA, hH⟩ := hS
  have hS : xS S μ := ⟨ho, h2, hT, hC, hD, hI, hA, hH⟩
  have hb := ho.b
  have hv := ho.v
  have hB6 := ho.b6
  have hV12 := ho.v12
  have hz : zq sX μ μ := zq.rf
  refine zb X_breaks_s0 rfl ?_
  refine zcallV X_breaks_d5 k10_128 (by omega) (x_hasVow _ ho) rfl rfl rfl (Nat.le_of_ble_eq_true rfl) ?_
  rintro _ μx ⟨rfl, hx⟩
  rw [hx]
  clear hx μx
  refine z_eq X_breaks_d8 (tgt := 22) rfl (fun h8 => ?_) (fun h8 => ?_)
  · refine zb X_breaks_s22 rfl ?_
    refine z_ret X_breaks_d23 rfl ?_
    first
      | exact ⟨rfl, hS1, hO1⟩
      | (unfold opBreaks
         rw [if_pos (zB_eq0.mp h8)]; exact ⟨rfl, hS, onlyX.rf⟩)
  · have g1 := zB_ne0.mp h8
    obtain ⟨q, hq, rfl, eq⟩ := zix g1.1 g1.2 (by omega)
    refine zb X_breaks_s11 rfl ?_
    refine zcallV X_breaks_d16 k10_280 (by omega) (xs_breakVow (by omega) hq hS) rfl rfl rfl (Nat.le_of_ble_eq_true rfl) ?_
    rintro _ μ1 ⟨rfl, hS1, hO1⟩
    refine zb X_breaks_s19 rfl ?_
    refine z_ret X_breaks_d23 rfl ?_
    first
      | exact ⟨rfl, hS1, hO1⟩
      | (unfold opBreaks
         rw [if_pos (zB_eq0.mp h8)]; exact ⟨rfl, hS, onlyX.rf⟩)

set_option maxRecDepth 100000 in
set_option maxHeartbeats 4000000 in
theorem xs_keeps {g : zG} {d : Nat} {S : zS} {μ : zMem} {v : Int32} (hd : 2 ≤ d) (hS : xS S μ) : zM g d X_keeps [.ref 1, .int v] μ (pO xS onlyX (opKeeps S v) μ) := by
  refine zM_of (by decide +kernel) rfl rfl (Nat.le_of_ble_eq_true rfl) rfl ?_
  obtain ⟨ho, h2, hT, hC, hD, hI, hA, hH⟩ := hS
  have hS : xS S μ := ⟨ho, h2, hT, hC, hD, hI, hA, hH⟩
  have hb := ho.b
  have hv := ho.v
  have hB6 := ho.b6
  have hV12 := ho.v12
  have hz : zq sX μ μ := zq.rf
  refine zb X_keeps_s0 rfl ?_
  refine zcallV X_keeps_d5 k10_128 (by omega) (x_hasVow _ ho) rfl rfl rfl (Nat.le_of_ble_eq_true rfl) ?_
  rintro _ μx ⟨rfl, hx⟩
  rw [hx]
  clear hx μx
  refine z_eq X_keeps_d8 (tgt := 22) rfl (fun h8 => ?_) (fun h8 => ?_)
  · refine zb X_keeps_s22 rfl ?_
    refine z_ret X_keeps_d23 rfl ?_
    first
      | exact ⟨rfl, hS1, hO1⟩
      | (unfold opKeeps
         rw [if_pos (zB_eq0.mp h8)]; exact ⟨rfl, hS, onlyX.rf⟩)
  · have g1 := zB_ne0.mp h8
    obtain ⟨q, hq, rfl, eq⟩ := zix g1.1 g1.2 (by omega)
    refine zb X_keeps_s11 rfl ?_
    refine zcallV X_keeps_d16 k10_283 (by omega) (xs_keepAgain (by omega) hq hS) rfl rfl rfl (Nat.le_of_ble_eq_true rfl) ?_
    rintro _ μ1 ⟨rfl, hS1, hO1⟩
    refine zb X_keeps_s19 rfl ?_
    refine z_ret X_keeps_d23 rfl ?_
    first
      | exact ⟨rfl, hS1, hO1⟩
      | (unfold opKeeps
         rw [if_pos (zB_eq0.mp h8)]; exact ⟨rfl, hS, onlyX.rf⟩)

set_option maxRecDepth 100000 in
set_option maxHeartbeats 4000000 in
theorem xs_pass {g : zG} {d : Nat} {S : zS} {μ : zMem} {n : Int32} (hS : xS S μ) : zM g d X_pass [.ref 1, .int n] μ (pO xS onlyX (opPass S n) μ) := by
  refine zM_of (by decide +kernel) rfl rfl (Nat.le_of_ble_eq_true rfl) rfl ?_
  obtain ⟨ho, h2, hT, hC, hD, hI, hA, hH⟩ := hS
  have hS : xS S μ := ⟨ho, h2, hT, hC, hD, hI, hA, hH⟩
  have hb := ho.b
  have hv := ho.v
  have hB6 := ho.b6
  have hV12 := ho.v12
  have hz : zq sX μ μ := zq.rf
  have h2' := h2
  have e3 : μ.1 7 2 = tod S := h2.2
  have d0 : μ.1 75 0 = (zD S).1 := hD.1
  have d1 : μ.1 75 1 = (zD S).2.1 := hD.2.1
  have d2 : μ.1 75 2 = (zD S).2.2.1 := hD.2.2.1
  have d3 : μ.1 75 3 = (zD S).2.2.2 := hD.2.2.2
  refine zb X_pass_s0 rfl ?_
  refine z_clt X_pass_d2 (tgt := 11) rfl (fun h2 => ?_) (fun h2 => ?_)
  · refine zb X_pass_s11 rfl ?_
    refine z_ret X_pass_d12 rfl ?_
    unfold opPass
    first
      | (rw [if_pos (fun z => absurd h2 (Int32.not_lt.mpr z.1))]; exact ⟨rfl, hS, onlyX.rf⟩)
      | (rw [if_pos (fun z => h8 z.2)]; exact ⟨rfl, hS, onlyX.rf⟩)
      | (rw [e3] at h25
         rw [if_neg (fun z => z ⟨Int32.not_lt.mp hB2, h8⟩)]
         first
           | (rw [if_pos h25]; exact ⟨rfl, hS, onlyX.rf⟩)
           | (rw [if_neg (fun z => z h25)]
              simp (disch := decide) only [zpI_ne, zpI_at, Nat.reduceEqDiff, reduceIte, e3]
              have ho1 : oX S.1 (zpI μ 7 2 (tod S + n)) := ⟨ho.1, ho.2.1, ho.2.2⟩
              exact ⟨rfl, ⟨ho1, ⟨h2'.1, rfl⟩, hT, hC, hD, hI, hA, (by repeat (first | exact hH | refine xH.put (by decide) ?_))⟩, (by repeat (first | exact onlyX.rf | refine onlyX.put rfl ?_))⟩))
  · have hB2 := h2
    refine zb X_pass_s5 rfl ?_
    refine z_cle X_pass_d8 (tgt := 13) rfl (fun h8 => ?_) (fun h8 => ?_)
    · refine zb X_pass_s13 rfl ?_
      refine z_cle X_pass_d25 (tgt := 31) rfl (fun h25 => ?_) (fun h25 => ?_)
      · refine zb X_pass_s31 rfl ?_
        refine z_ret X_pass_d51 rfl ?_
        unfold opPass
        first
          | (rw [if_pos (fun z => absurd h2 (Int32.not_lt.mpr z.1))]; exact ⟨rfl, hS, onlyX.rf⟩)
          | (rw [if_pos (fun z => h8 z.2)]; exact ⟨rfl, hS, onlyX.rf⟩)
          | (rw [e3] at h25
             rw [if_neg (fun z => z ⟨Int32.not_lt.mp hB2, h8⟩)]
             first
               | (rw [if_pos h25]; exact ⟨rfl, hS, onlyX.rf⟩)
               | (rw [if_neg (fun z => z h25)]
                  simp (disch := decide) only [zpI_ne, zpI_at, Nat.reduceEqDiff, reduceIte, e3]
                  have ho1 : oX S.1 (zpI μ 7 2 (tod S + n)) := ⟨ho.1, ho.2.1, ho.2.2⟩
                  exact ⟨rfl, ⟨ho1, ⟨h2'.1, rfl⟩, hT, hC, hD, hI, hA, (by repeat (first | exact hH | refine xH.put (by decide) ?_))⟩, (by repeat (first | exact onlyX.rf | refine onlyX.put rfl ?_))⟩))
      · refine zb X_pass_s28 rfl ?_
        refine z_ret X_pass_d30 rfl ?_
        unfold opPass
        first
          | (rw [if_pos (fun z => absurd h2 (Int32.not_lt.mpr z.1))]; exact ⟨rfl, hS, onlyX.rf⟩)
          | (rw [if_pos (fun z => h8 z.2)]; exact ⟨rfl, hS, onlyX.rf⟩)
          | (rw [e3] at h25
             rw [if_neg (fun z => z ⟨Int32.not_lt.mp hB2, h8⟩)]
             first
               | (rw [if_pos h25]; exact ⟨rfl, hS, onlyX.rf⟩)
               | (rw [if_neg (fun z => z h25)]
                  simp (disch := decide) only [zpI_ne, zpI_at, Nat.reduceEqDiff, reduceIte, e3]
                  have ho1 : oX S.1 (zpI μ 7 2 (tod S + n)) := ⟨ho.1, ho.2.1, ho.2.2⟩
                  exact ⟨rfl, ⟨ho1, ⟨h2'.1, rfl⟩, hT, hC, hD, hI, hA, (by repeat (first | exact hH | refine xH.put (by decide) ?_))⟩, (by repeat (first | exact onlyX.rf | refine onlyX.put rfl ?_))⟩))
    · refine zb X_pass_s11 rfl ?_
      refine z_ret X_pass_d12 rfl ?_
      unfold opPass
      first
        | (rw [if_pos (fun z => absurd h2 (Int32.not_lt.mpr z.1))]; exact ⟨rfl, hS, onlyX.rf⟩)
        | (rw [if_pos (fun z => h8 z.2)]; exact ⟨rfl, hS, onlyX.rf⟩)
        | (rw [e3] at h25
           rw [if_neg (fun z => z ⟨Int32.not_lt.mp hB2, h8⟩)]
           first
             | (rw [if_pos h25]; exact ⟨rfl, hS, onlyX.rf⟩)
             | (rw [if_neg (fun z => z h25)]
                simp (disch := decide) only [zpI_ne, zpI_at, Nat.reduceEqDiff, reduceIte, e3]
                have ho1 : oX S.1 (zpI μ 7 2 (tod S + n)) := ⟨ho.1, ho.2.1, ho.2.2⟩
                exact ⟨rfl, ⟨ho1, ⟨h2'.1, rfl⟩, hT, hC, hD, hI, hA, (by repeat (first | exact hH | refine xH.put (by decide) ?_))⟩, (by repeat (first | exact onlyX.rf | refine onlyX.put rfl ?_))⟩))

set_option maxRecDepth 100000 in
set_option maxHeartbeats 4000000 in
theorem xs_ringBell {g : zG} {d : Nat} {S : zS} {μ : zMem} {q : Nat} {h : Int32} (hF : okF S.1) (hd : 6 ≤ d) (hq : q < fB S.1) (hh : 0 ≤ h ∧ h ≤ 23) (hS : xS S μ) : zM g d D_ringBell [.ref 7, .int (nI q), .int h] μ (pO xS onlyX (opRing S (nI q) h) μ) := by
  refine zM_of (by decide +kernel) rfl rfl (Nat.le_of_ble_eq_true rfl) rfl ?_
  obtain ⟨ho, h2, hT, hC, hD, hI, hA, hH⟩ := hS
  have hS : xS S μ := ⟨ho, h2, hT, hC, hD, hI, hA, hH⟩
  have hb := ho.b
  have hv := ho.v
  have hB6 := ho.b6
  have hV12 := ho.v12
  have hz : zq sX μ μ := zq.rf
  have e3 : μ.1 7 2 = tod S := h2.2
  have d0 : μ.1 75 0 = (zD S).1 := hD.1
  have d1 : μ.1 75 1 = (zD S).2.1 := hD.2.1
  have d2 : μ.1 75 2 = (zD S).2.2.1 := hD.2.2.1
  have d3 : μ.1 75 3 = (zD S).2.2.2 := hD.2.2.2
  have eq : (nI q).toNatClampNeg = q := nI_clamp (by omega)
  have hvi : vp_in (nI q) 6 := vp_in_nI (by omega) (by omega)
  refine zb D_ringBell_s0 rfl ?_
  rw [e3]
  refine zcallV D_ringBell_d10 k3_44 (by omega) (x_offOf hF (by omega) ho) rfl rfl rfl (Nat.le_of_ble_eq_true rfl) ?_
  rintro _ μ1 ⟨rfl, hz1⟩
  obtain ⟨ho', h2', hT', hC', hD', hI', hA', hH⟩ := hS.q hz1
  have hO' := onlyX_zq hz1
  have f2 : μ1.1 75 2 = (zD S).2.2.1 := hD'.2.2.1
  have f3 : μ1.1 75 3 = (zD S).2.2.2 := hD'.2.2.2
  refine zb3 D_ringBell_s13 rfl (by first | exact hvi | exact vp_in_nI (n := 0) (by omega) (by omega) | exact vp_in_nI (n := 1) (by omega) (by omega) | exact vp_in_nI (n := 2) (by omega) (by omega) | exact vp_in_nI (n := 3) (by omega) (by omega)) (by first | exact hvi | exact vp_in_nI (n := 0) (by omega) (by omega) | exact vp_in_nI (n := 1) (by omega) (by omega) | exact vp_in_nI (n := 2) (by omega) (by omega) | exact vp_in_nI (n := 3) (by omega) (by omega)) (by first | exact hvi | exact vp_in_nI (n := 0) (by omega) (by omega) | exact vp_in_nI (n := 1) (by omega) (by omega) | exact vp_in_nI (n := 2) (by omega) (by omega) | exact vp_in_nI (n := 3) (by omega) (by omega)) ?_
  refine z_eq D_ringBell_d32 (tgt := 39) rfl (fun h32 => ?_) (fun h32 => ?_)
  · refine zb D_ringBell_s39 rfl ?_
    refine zcallN D_ringBell_d40 k3_48 (by omega) (x_bit _) rfl rfl (Nat.le_of_ble_eq_true rfl) ?_
    rintro _ μx ⟨rfl, hx⟩
    rw [hx]
    clear hx μx
    refine zb2 D_ringBell_s43 rfl (by first | exact hvi | exact vp_in_nI (n := 0) (by omega) (by omega) | exact vp_in_nI (n := 1) (by omega) (by omega) | exact vp_in_nI (n := 2) (by omega) (by omega) | exact vp_in_nI (n := 3) (by omega) (by omega)) (by first | exact hvi | exact vp_in_nI (n := 0) (by omega) (by omega) | exact vp_in_nI (n := 1) (by omega) (by omega) | exact vp_in_nI (n := 2) (by omega) (by omega) | exact vp_in_nI (n := 3) (by omega) (by omega)) ?_
    refine z_ret D_ringBell_d56 rfl ?_
    unfold opRing
    rw [if_neg (fun z => z ⟨⟨Int32.not_lt.mp (nI_pos (by omega)), nI_lt hq (by omega)⟩, hh⟩)]
    simp (disch := decide) only [zpI_ne, zpI_at, Nat.reduceEqDiff, reduceIte, show (0 : Int32).toNatClampNeg = 0 from rfl, show (1 : Int32).toNatClampNeg = 1 from rfl, show (2 : Int32).toNatClampNeg = 2 from rfl, show (3 : Int32).toNatClampNeg = 3 from rfl, f2, f3, eq, ho'.e54]
    have ho1 : ∀ a b : Int32, oX S.1 (zpI (zpI μ1 75 2 a) 75 3 b) := fun a b => ⟨ho'.1, ho'.2.1, ho'.2.2⟩
    refine ⟨rfl, ⟨ho1 _ _, h2', hT', hC', ⟨hD'.1, hD'.2.1, rfl, ?_⟩, hI', hA', (by repeat (first | exact hH | refine xH.put (by decide) ?_))⟩, hO'.tr (onlyX.put rfl (onlyX.put rfl onlyX.rf))⟩
    refine congrArg (fun x => (zD S).2.2.2 + x) ?_
    first
      | exact zB_cong (iff_of_true (by decide) h32)
      | exact zB_cong (iff_of_false (by decide) (fun z => z h32))
  · refine zb D_ringBell_s35 rfl ?_
    refine zcallN D_ringBell_d40 k3_48 (by omega) (x_bit _) rfl rfl (Nat.le_of_ble_eq_true rfl) ?_
    rintro _ μx ⟨rfl, hx⟩
    rw [hx]
    clear hx μx
    refine zb2 D_ringBell_s43 rfl (by first | exact hvi | exact vp_in_nI (n := 0) (by omega) (by omega) | exact vp_in_nI (n := 1) (by omega) (by omega) | exact vp_in_nI (n := 2) (by omega) (by omega) | exact vp_in_nI (n := 3) (by omega) (by omega)) (by first | exact hvi | exact vp_in_nI (n := 0) (by omega) (by omega) | exact vp_in_nI (n := 1) (by omega) (by omega) | exact vp_in_nI (n := 2) (by omega) (by omega) | exact vp_in_nI (n := 3) (by omega) (by omega)) ?_
    refine z_ret D_ringBell_d56 rfl ?_
    unfold opRing
    rw [if_neg (fun z => z ⟨⟨Int32.not_lt.mp (nI_pos (by omega)), nI_lt hq (by omega)⟩, hh⟩)]
    simp (disch := decide) only [zpI_ne, zpI_at, Nat.reduceEqDiff, reduceIte, show (0 : Int32).toNatClampNeg = 0 from rfl, show (1 : Int32).toNatClampNeg = 1 from rfl, show (2 : Int32).toNatClampNeg = 2 from rfl, show (3 : Int32).toNatClampNeg = 3 from rfl, f2, f3, eq, ho'.e54]
    have ho1 : ∀ a b : Int32, oX S.1 (zpI (zpI μ1 75 2 a) 75 3 b) := fun a b => ⟨ho'.1, ho'.2.1, ho'.2.2⟩
    refine ⟨rfl, ⟨ho1 _ _, h2', hT', hC', ⟨hD'.1, hD'.2.1, rfl, ?_⟩, hI', hA', (by repeat (first | exact hH | refine xH.put (by decide) ?_))⟩, hO'.tr (onlyX.put rfl (onlyX.put rfl onlyX.rf))⟩
    refine congrArg (fun x => (zD S).2.2.2 + x) ?_
    first
      | exact zB_cong (iff_of_true (by decide) h32)
      | exact zB_cong (iff_of_false (by decide) (fun z => z h32))

set_option maxRecDepth 100000 in
set_option maxHeartbeats 4000000 in
theorem xs_ring {g : zG} {d : Nat} {S : zS} {μ : zMem} {b h : Int32} (hF : okF S.1) (hd : 7 ≤ d) (hS : xS S μ) : zM g d X_ring [.ref 1, .int b, .int h] μ (pO xS onlyX (opRing S b h) μ) := by
  refine zM_of (by decide +kernel) rfl rfl (Nat.le_of_ble_eq_true rfl) rfl ?_
  obtain ⟨ho, h2, hT, hC, hD, hI, hA, hH⟩ := hS
  have hS : xS S μ := ⟨ho, h2, hT, hC, hD, hI, hA, hH⟩
  have hb := ho.b
  have hv := ho.v
  have hB6 := ho.b6
  have hV12 := ho.v12
  have hz : zq sX μ μ := zq.rf
  refine zb X_ring_s0 rfl ?_
  refine zcallV X_ring_d5 k10_167 (by omega) (x_hasBell _ ho) rfl rfl rfl (Nat.le_of_ble_eq_true rfl) ?_
  rintro _ μx ⟨rfl, hx⟩
  rw [hx]
  clear hx μx
  refine z_eq X_ring_d8 (tgt := 20) rfl (fun h8 => ?_) (fun h8 => ?_)
  · refine zb X_ring_s20 rfl ?_
    refine z_ret X_ring_d22 rfl ?_
    first
      | exact ⟨rfl, hS1, hO1⟩
      | (unfold opRing
         rw [if_pos (fun z => (zB_eq0.mp h8) z.1)]; exact ⟨rfl, hS, onlyX.rf⟩)
      | (unfold opRing
         rw [if_pos (fun z => (zB_eq0.mp h17) z.2)]; exact ⟨rfl, hS, onlyX.rf⟩)
  · refine zb X_ring_s11 rfl ?_
    refine zcallS X_ring_d14 k10_170 (by omega) (x_isWithin _ _) rfl rfl (Nat.le_of_ble_eq_true rfl) ?_
    rintro _ μx ⟨rfl, hx⟩
    rw [hx]
    clear hx μx
    refine z_ne X_ring_d17 (tgt := 23) rfl (fun h17 => ?_) (fun h17 => ?_)
    · have g1 := zB_ne0.mp h8
      obtain ⟨q, hq, rfl, eq⟩ := zix g1.1 g1.2 (by omega)
      refine zb X_ring_s23 rfl ?_
      refine zcallV X_ring_d29 k10_286 (by omega) (xs_ringBell hF (by omega) hq (zB_ne0.mp h17) hS) rfl rfl rfl (Nat.le_of_ble_eq_true rfl) ?_
      rintro _ μ1 ⟨rfl, hS1, hO1⟩
      refine z_ret X_ring_d32 rfl ?_
      first
        | exact ⟨rfl, hS1, hO1⟩
        | (unfold opRing
           rw [if_pos (fun z => (zB_eq0.mp h8) z.1)]; exact ⟨rfl, hS, onlyX.rf⟩)
        | (unfold opRing
           rw [if_pos (fun z => (zB_eq0.mp h17) z.2)]; exact ⟨rfl, hS, onlyX.rf⟩)
    · refine zb X_ring_s20 rfl ?_
      refine z_ret X_ring_d22 rfl ?_
      first
        | exact ⟨rfl, hS1, hO1⟩
        | (unfold opRing
           rw [if_pos (fun z => (zB_eq0.mp h8) z.1)]; exact ⟨rfl, hS, onlyX.rf⟩)
        | (unfold opRing
           rw [if_pos (fun z => (zB_eq0.mp h17) z.2)]; exact ⟨rfl, hS, onlyX.rf⟩)

set_option maxRecDepth 100000 in
set_option maxHeartbeats 4000000 in
theorem xs_led {g : zG} {d : Nat} {S : zS} {μ : zMem} {w : Int32} (hd : 1 ≤ d) (hS : xS S μ) : zM g d X_led [.ref 1, .int w] μ (pO xS onlyX ((opLed S w, S)) μ) := by
  refine zM_of (by decide +kernel) rfl rfl (Nat.le_of_ble_eq_true rfl) rfl ?_
  obtain ⟨ho, h2, hT, hC, hD, hI, hA, hH⟩ := hS
  have hS : xS S μ := ⟨ho, h2, hT, hC, hD, hI, hA, hH⟩
  have hb := ho.b
  have hv := ho.v
  have hB6 := ho.b6
  have hV12 := ho.v12
  have hz : zq sX μ μ := zq.rf
  have e3 : μ.1 7 2 = tod S := h2.2
  have d0 : μ.1 75 0 = (zD S).1 := hD.1
  have d1 : μ.1 75 1 = (zD S).2.1 := hD.2.1
  have d2 : μ.1 75 2 = (zD S).2.2.1 := hD.2.2.1
  have d3 : μ.1 75 3 = (zD S).2.2.2 := hD.2.2.2
  refine zb X_led_s0 rfl ?_
  refine zcallS X_led_d2 k10_170 (by omega) (x_isWithin _ _) rfl rfl (Nat.le_of_ble_eq_true rfl) ?_
  rintro _ μx ⟨rfl, hx⟩
  rw [hx]
  clear hx μx
  refine z_ne X_led_d5 (tgt := 10) rfl (fun h5 => ?_) (fun h5 => ?_)
  · refine zb X_led_s10 rfl ?_
    refine z_cge X_led_d12 (tgt := 27) rfl (fun h12 => ?_) (fun h12 => ?_)
    · refine zb X_led_s27 rfl ?_
      refine z_ret X_led_d34 rfl ?_
      refine ⟨?_, hS, onlyX.rf⟩
      first
        | (rw [eq]
           rcases (show q = 0 ∨ q = 1 ∨ q = 2 ∨ q = 3 by omega) with rfl | rfl | rfl | rfl
           · exact congrArg (fun z => some (Value.int z)) d0
           · exact congrArg (fun z => some (Value.int z)) d1
           · exact congrArg (fun z => some (Value.int z)) d2
           · exact congrArg (fun z => some (Value.int z)) d3)
        | (have g1 := zB_ne0.mp h5
           have e4 : w = 4 := Int32.le_antisymm g1.2 h12
           subst e4
           exact congrArg (fun z => some (Value.int z)) e3)
        | (have n1 := zB_eq0.mp h5
           have k : ∀ x : Int32, (0 ≤ x ∧ x ≤ 4) → ¬ w = x := fun x hx z => n1 (z ▸ hx)
           unfold opLed
           rw [if_neg (k 0 (by decide)), if_neg (k 1 (by decide)), if_neg (k 2 (by decide)), if_neg (k 3 (by decide)), if_neg (k 4 (by decide))])
    · have g1 := zB_ne0.mp h5
      obtain ⟨q, hq, rfl, eq⟩ := zix (n := 4) g1.1 (Int32.not_le.mp h12) (by omega)
      have hvi : vp_in (nI q) 4 := vp_in_nI (by omega) (by omega)
      refine zb1 X_led_s15 rfl hvi ?_
      refine z_ret X_led_d34 rfl ?_
      refine ⟨?_, hS, onlyX.rf⟩
      first
        | (rw [eq]
           rcases (show q = 0 ∨ q = 1 ∨ q = 2 ∨ q = 3 by omega) with rfl | rfl | rfl | rfl
           · exact congrArg (fun z => some (Value.int z)) d0
           · exact congrArg (fun z => some (Value.int z)) d1
           · exact congrArg (fun z => some (Value.int z)) d2
           · exact congrArg (fun z => some (Value.int z)) d3)
        | (have g1 := zB_ne0.mp h5
           have e4 : w = 4 := Int32.le_antisymm g1.2 h12
           subst e4
           exact congrArg (fun z => some (Value.int z)) e3)
        | (have n1 := zB_eq0.mp h5
           have k : ∀ x : Int32, (0 ≤ x ∧ x ≤ 4) → ¬ w = x := fun x hx z => n1 (z ▸ hx)
           unfold opLed
           rw [if_neg (k 0 (by decide)), if_neg (k 1 (by decide)), if_neg (k 2 (by decide)), if_neg (k 3 (by decide)), if_neg (k 4 (by decide))])
  · refine zb X_led_s8 rfl ?_
    refine z_ret X_led_d9 rfl ?_
    refine ⟨?_, hS, onlyX.rf⟩
    first
      | (rw [eq]
         rcases (show q = 0 ∨ q = 1 ∨ q = 2 ∨ q = 3 by omega) with rfl | rfl | rfl | rfl
         · exact congrArg (fun z => some (Value.int z)) d0
         · exact congrArg (fun z => some (Value.int z)) d1
         · exact congrArg (fun z => some (Value.int z)) d2
         · exact congrArg (fun z => some (Value.int z)) d3)
      | (have g1 := zB_ne0.mp h5
         have e4 : w = 4 := Int32.le_antisymm g1.2 h12
         subst e4
         exact congrArg (fun z => some (Value.int z)) e3)
      | (have n1 := zB_eq0.mp h5
         have k : ∀ x : Int32, (0 ≤ x ∧ x ≤ 4) → ¬ w = x := fun x hx z => n1 (z ▸ hx)
         unfold opLed
         rw [if_neg (k 0 (by decide)), if_neg (k 1 (by decide)), if_neg (k 2 (by decide)), if_neg (k 3 (by decide)), if_neg (k 4 (by decide))])

set_option maxRecDepth 100000 in
set_option maxHeartbeats 4000000 in
theorem xs_count {g : zG} {d : Nat} {S : zS} {μ : zMem} {w : Int32} (hS : xS S μ) : zM g d X_count [.ref 1, .int w] μ (pO xS onlyX ((opCount S w, S)) μ) := by
  refine zM_of (by decide +kernel) rfl rfl (Nat.le_of_ble_eq_true rfl) rfl ?_
  obtain ⟨ho, h2, hT, hC, hD, hI, hA, hH⟩ := hS
  have hS : xS S μ := ⟨ho, h2, hT, hC, hD, hI, hA, hH⟩
  have hb := ho.b
  have hv := ho.v
  have hB6 := ho.b6
  have hV12 := ho.v12
  have hz : zq sX μ μ := zq.rf
  refine zb X_count_s0 rfl ?_
  by_cases hs1_0 : w = 0
  · refine z_tabIn X_count_d1 (off := 39) (tgt := 40) (by rw [hs1_0]; decide) (by rw [hs1_0]; decide) (by rw [hs1_0]; decide) rfl ?_
    refine zb X_count_s40 rfl ?_
    refine z_ret X_count_d47 rfl ?_
    refine ⟨?_, hS, onlyX.rf⟩
    unfold opCount
    first
      | (rw [if_pos hs1_0]; exact congrArg (fun z => some (Value.int z)) hb)
      | (rw [if_neg hs1_0, if_pos hs1_1]; exact congrArg (fun z => some (Value.int z)) hv)
      | (rw [if_neg hs1_0, if_neg hs1_1, if_pos hs1_2]; exact congrArg (fun z => some (Value.int z)) hT.1)
      | (rw [if_neg hs1_0, if_neg hs1_1, if_neg hs1_2, if_pos hs1_3]; exact congrArg (fun z => some (Value.int z)) hC.1.1)
      | (rw [if_neg hs1_0, if_neg hs1_1, if_neg hs1_2, if_neg hs1_3, if_pos hs1_4]; exact congrArg (fun z => some (Value.int z)) hA.1)
      | (rw [if_neg hs1_0, if_neg hs1_1, if_neg hs1_2, if_neg hs1_3, if_neg hs1_4, if_pos hs1_5]; exact congrArg (fun z => some (Value.int z)) hA.2.2.2.1)
      | rw [if_neg hs1_0, if_neg hs1_1, if_neg hs1_2, if_neg hs1_3, if_neg hs1_4, if_neg hs1_5]
  · by_cases hs1_1 : w = 1
    · refine z_tabIn X_count_d1 (off := 47) (tgt := 48) (by rw [hs1_1]; decide) (by rw [hs1_1]; decide) (by rw [hs1_1]; decide) rfl ?_
      refine zb X_count_s48 rfl ?_
      refine z_ret X_count_d55 rfl ?_
      refine ⟨?_, hS, onlyX.rf⟩
      unfold opCount
      first
        | (rw [if_pos hs1_0]; exact congrArg (fun z => some (Value.int z)) hb)
        | (rw [if_neg hs1_0, if_pos hs1_1]; exact congrArg (fun z => some (Value.int z)) hv)
        | (rw [if_neg hs1_0, if_neg hs1_1, if_pos hs1_2]; exact congrArg (fun z => some (Value.int z)) hT.1)
        | (rw [if_neg hs1_0, if_neg hs1_1, if_neg hs1_2, if_pos hs1_3]; exact congrArg (fun z => some (Value.int z)) hC.1.1)
        | (rw [if_neg hs1_0, if_neg hs1_1, if_neg hs1_2, if_neg hs1_3, if_pos hs1_4]; exact congrArg (fun z => some (Value.int z)) hA.1)
        | (rw [if_neg hs1_0, if_neg hs1_1, if_neg hs1_2, if_neg hs1_3, if_neg hs1_4, if_pos hs1_5]; exact congrArg (fun z => some (Value.int z)) hA.2.2.2.1)
        | rw [if_neg hs1_0, if_neg hs1_1, if_neg hs1_2, if_neg hs1_3, if_neg hs1_4, if_neg hs1_5]
    · by_cases hs1_2 : w = 2
      · refine z_tabIn X_count_d1 (off := 55) (tgt := 56) (by rw [hs1_2]; decide) (by rw [hs1_2]; decide) (by rw [hs1_2]; decide) rfl ?_
        refine zb X_count_s56 rfl ?_
        refine z_ret X_count_d63 rfl ?_
        refine ⟨?_, hS, onlyX.rf⟩
        unfold opCount
        first
          | (rw [if_pos hs1_0]; exact congrArg (fun z => some (Value.int z)) hb)
          | (rw [if_neg hs1_0, if_pos hs1_1]; exact congrArg (fun z => some (Value.int z)) hv)
          | (rw [if_neg hs1_0, if_neg hs1_1, if_pos hs1_2]; exact congrArg (fun z => some (Value.int z)) hT.1)
          | (rw [if_neg hs1_0, if_neg hs1_1, if_neg hs1_2, if_pos hs1_3]; exact congrArg (fun z => some (Value.int z)) hC.1.1)
          | (rw [if_neg hs1_0, if_neg hs1_1, if_neg hs1_2, if_neg hs1_3, if_pos hs1_4]; exact congrArg (fun z => some (Value.int z)) hA.1)
          | (rw [if_neg hs1_0, if_neg hs1_1, if_neg hs1_2, if_neg hs1_3, if_neg hs1_4, if_pos hs1_5]; exact congrArg (fun z => some (Value.int z)) hA.2.2.2.1)
          | rw [if_neg hs1_0, if_neg hs1_1, if_neg hs1_2, if_neg hs1_3, if_neg hs1_4, if_neg hs1_5]
      · by_cases hs1_3 : w = 3
        · refine z_tabIn X_count_d1 (off := 63) (tgt := 64) (by rw [hs1_3]; decide) (by rw [hs1_3]; decide) (by rw [hs1_3]; decide) rfl ?_
          refine zb X_count_s64 rfl ?_
          refine z_ret X_count_d71 rfl ?_
          refine ⟨?_, hS, onlyX.rf⟩
          unfold opCount
          first
            | (rw [if_pos hs1_0]; exact congrArg (fun z => some (Value.int z)) hb)
            | (rw [if_neg hs1_0, if_pos hs1_1]; exact congrArg (fun z => some (Value.int z)) hv)
            | (rw [if_neg hs1_0, if_neg hs1_1, if_pos hs1_2]; exact congrArg (fun z => some (Value.int z)) hT.1)
            | (rw [if_neg hs1_0, if_neg hs1_1, if_neg hs1_2, if_pos hs1_3]; exact congrArg (fun z => some (Value.int z)) hC.1.1)
            | (rw [if_neg hs1_0, if_neg hs1_1, if_neg hs1_2, if_neg hs1_3, if_pos hs1_4]; exact congrArg (fun z => some (Value.int z)) hA.1)
            | (rw [if_neg hs1_0, if_neg hs1_1, if_neg hs1_2, if_neg hs1_3, if_neg hs1_4, if_pos hs1_5]; exact congrArg (fun z => some (Value.int z)) hA.2.2.2.1)
            | rw [if_neg hs1_0, if_neg hs1_1, if_neg hs1_2, if_neg hs1_3, if_neg hs1_4, if_neg hs1_5]
        · by_cases hs1_4 : w = 4
          · refine z_tabIn X_count_d1 (off := 71) (tgt := 72) (by rw [hs1_4]; decide) (by rw [hs1_4]; decide) (by rw [hs1_4]; decide) rfl ?_
            refine zb X_count_s72 rfl ?_
            refine z_ret X_count_d79 rfl ?_
            refine ⟨?_, hS, onlyX.rf⟩
            unfold opCount
            first
              | (rw [if_pos hs1_0]; exact congrArg (fun z => some (Value.int z)) hb)
              | (rw [if_neg hs1_0, if_pos hs1_1]; exact congrArg (fun z => some (Value.int z)) hv)
              | (rw [if_neg hs1_0, if_neg hs1_1, if_pos hs1_2]; exact congrArg (fun z => some (Value.int z)) hT.1)
              | (rw [if_neg hs1_0, if_neg hs1_1, if_neg hs1_2, if_pos hs1_3]; exact congrArg (fun z => some (Value.int z)) hC.1.1)
              | (rw [if_neg hs1_0, if_neg hs1_1, if_neg hs1_2, if_neg hs1_3, if_pos hs1_4]; exact congrArg (fun z => some (Value.int z)) hA.1)
              | (rw [if_neg hs1_0, if_neg hs1_1, if_neg hs1_2, if_neg hs1_3, if_neg hs1_4, if_pos hs1_5]; exact congrArg (fun z => some (Value.int z)) hA.2.2.2.1)
              | rw [if_neg hs1_0, if_neg hs1_1, if_neg hs1_2, if_neg hs1_3, if_neg hs1_4, if_neg hs1_5]
          · by_cases hs1_5 : w = 5
            · refine z_tabIn X_count_d1 (off := 79) (tgt := 80) (by rw [hs1_5]; decide) (by rw [hs1_5]; decide) (by rw [hs1_5]; decide) rfl ?_
              refine zb X_count_s80 rfl ?_
              refine z_ret X_count_d87 rfl ?_
              refine ⟨?_, hS, onlyX.rf⟩
              unfold opCount
              first
                | (rw [if_pos hs1_0]; exact congrArg (fun z => some (Value.int z)) hb)
                | (rw [if_neg hs1_0, if_pos hs1_1]; exact congrArg (fun z => some (Value.int z)) hv)
                | (rw [if_neg hs1_0, if_neg hs1_1, if_pos hs1_2]; exact congrArg (fun z => some (Value.int z)) hT.1)
                | (rw [if_neg hs1_0, if_neg hs1_1, if_neg hs1_2, if_pos hs1_3]; exact congrArg (fun z => some (Value.int z)) hC.1.1)
                | (rw [if_neg hs1_0, if_neg hs1_1, if_neg hs1_2, if_neg hs1_3, if_pos hs1_4]; exact congrArg (fun z => some (Value.int z)) hA.1)
                | (rw [if_neg hs1_0, if_neg hs1_1, if_neg hs1_2, if_neg hs1_3, if_neg hs1_4, if_pos hs1_5]; exact congrArg (fun z => some (Value.int z)) hA.2.2.2.1)
                | rw [if_neg hs1_0, if_neg hs1_1, if_neg hs1_2, if_neg hs1_3, if_neg hs1_4, if_neg hs1_5]
            · refine z_tabOut X_count_d1 (tgt := 88) (zsw_out 6 (by decide) (fun k hk => by rcases (show k = 0 ∨ k = 1 ∨ k = 2 ∨ k = 3 ∨ k = 4 ∨ k = 5 by omega) with rfl | rfl | rfl | rfl | rfl | rfl <;> first | exact hs1_0 | exact hs1_1 | exact hs1_2 | exact hs1_3 | exact hs1_4 | exact hs1_5)) rfl ?_
              refine zb X_count_s88 rfl ?_
              refine z_ret X_count_d89 rfl ?_
              refine ⟨?_, hS, onlyX.rf⟩
              unfold opCount
              first
                | (rw [if_pos hs1_0]; exact congrArg (fun z => some (Value.int z)) hb)
                | (rw [if_neg hs1_0, if_pos hs1_1]; exact congrArg (fun z => some (Value.int z)) hv)
                | (rw [if_neg hs1_0, if_neg hs1_1, if_pos hs1_2]; exact congrArg (fun z => some (Value.int z)) hT.1)
                | (rw [if_neg hs1_0, if_neg hs1_1, if_neg hs1_2, if_pos hs1_3]; exact congrArg (fun z => some (Value.int z)) hC.1.1)
                | (rw [if_neg hs1_0, if_neg hs1_1, if_neg hs1_2, if_neg hs1_3, if_pos hs1_4]; exact congrArg (fun z => some (Value.int z)) hA.1)
                | (rw [if_neg hs1_0, if_neg hs1_1, if_neg hs1_2, if_neg hs1_3, if_neg hs1_4, if_pos hs1_5]; exact congrArg (fun z => some (Value.int z)) hA.2.2.2.1)
                | rw [if_neg hs1_0, if_neg hs1_1, if_neg hs1_2, if_neg hs1_3, if_neg hs1_4, if_neg hs1_5]

set_option maxRecDepth 100000 in
set_option maxHeartbeats 4000000 in
theorem xs_keepImage {g : zG} {d : Nat} {S : zS} {μ : zMem} (hd : 1 ≤ d) (hS : xS S μ) : zM g d D_keepImage [.ref 7] μ (fun r μ' => r = none ∧ xS (opImage S).2 μ' ∧ onlyX μ μ') := by
  refine zM_of (by decide +kernel) rfl rfl (Nat.le_of_ble_eq_true rfl) rfl ?_
  obtain ⟨ho, h2, hT, hC, hD, hI, hA, hH⟩ := hS
  have hS : xS S μ := ⟨ho, h2, hT, hC, hD, hI, hA, hH⟩
  have hb := ho.b
  have hv := ho.v
  have hB6 := ho.b6
  have hV12 := ho.v12
  have hz : zq sX μ μ := zq.rf
  have e3 : μ.1 7 2 = tod S := h2.2
  have d0 : μ.1 75 0 = (zD S).1 := hD.1
  have d1 : μ.1 75 1 = (zD S).2.1 := hD.2.1
  have d2 : μ.1 75 2 = (zD S).2.2.1 := hD.2.2.1
  have d3 : μ.1 75 3 = (zD S).2.2.2 := hD.2.2.2
  refine zb1 D_keepImage_s0 rfl (by first | assumption | exact vp_in_nI (by omega) (by omega) | decide) ?_
  refine zcpI D_keepImage_d35 k3_68 (by omega) (Nat.le_of_ble_eq_true rfl) rfl rfl (by decide) (by decide) (by decide) (by decide) (by decide) ?_
  refine zb D_keepImage_s38 rfl ?_
  refine zcpI D_keepImage_d53 k3_68 (by omega) (Nat.le_of_ble_eq_true rfl) rfl rfl (by decide) (by decide) (by decide) (by decide) (by decide) ?_
  refine zb D_keepImage_s56 rfl ?_
  refine zcpI D_keepImage_d71 k3_68 (by omega) (Nat.le_of_ble_eq_true rfl) rfl rfl (by decide) (by decide) (by decide) (by decide) (by decide) ?_
  refine z_retV D_keepImage_d74 rfl ?_
  refine ⟨rfl, ⟨⟨ho.1, ho.2.1, ho.2.2⟩, h2, hT, hC, hD, Or.inr ⟨rfl, fV S.1, hV12, rfl, ?_, fun v hvv => ⟨?_, ?_⟩, ?_, ?_, ?_, ?_, ?_⟩, hA, (by repeat (first | exact hH | refine xH.put (by decide) ?_ | refine xH.putA (by decide) ?_))⟩, (by repeat (first | exact onlyX.rf | refine onlyX.put rfl ?_ | refine onlyX.putA rfl ?_))⟩
  · simp (disch := decide) only [zpI_ne, zpI_at, zpA_ne, zpA_row, Nat.reduceEqDiff, reduceIte, show (0 : Int32).toNatClampNeg = 0 from rfl, show (4 : Int32).toNatClampNeg = 4 from rfl, show (12 : Int32).toNatClampNeg = 12 from rfl, hv]
  · simp (disch := decide) only [zpI_ne, zpI_at, zpA_ne, zpA_row, Nat.reduceEqDiff, reduceIte, show (0 : Int32).toNatClampNeg = 0 from rfl, show (4 : Int32).toNatClampNeg = 4 from rfl, show (12 : Int32).toNatClampNeg = 12 from rfl, cpy_at (show v < 12 by omega), ho.e59]
    rfl
  · simp (disch := decide) only [zpI_ne, zpI_at, zpA_ne, zpA_row, Nat.reduceEqDiff, reduceIte, show (0 : Int32).toNatClampNeg = 0 from rfl, show (4 : Int32).toNatClampNeg = 4 from rfl, show (12 : Int32).toNatClampNeg = 12 from rfl, cpy_at (show v < 12 by omega), ho.e60]
    rfl
  · simp (disch := decide) only [zpI_ne, zpI_at, zpA_ne, zpA_row, Nat.reduceEqDiff, reduceIte, show (0 : Int32).toNatClampNeg = 0 from rfl, show (4 : Int32).toNatClampNeg = 4 from rfl, show (12 : Int32).toNatClampNeg = 12 from rfl, e3]
    rfl
  · simp (disch := decide) only [zpI_ne, zpI_at, zpA_ne, zpA_row, Nat.reduceEqDiff, reduceIte, show (0 : Int32).toNatClampNeg = 0 from rfl, show (4 : Int32).toNatClampNeg = 4 from rfl, show (12 : Int32).toNatClampNeg = 12 from rfl, cpy_at (show 0 < 4 by omega), d0]
    rfl
  · simp (disch := decide) only [zpI_ne, zpI_at, zpA_ne, zpA_row, Nat.reduceEqDiff, reduceIte, show (0 : Int32).toNatClampNeg = 0 from rfl, show (4 : Int32).toNatClampNeg = 4 from rfl, show (12 : Int32).toNatClampNeg = 12 from rfl, cpy_at (show 1 < 4 by omega), d1]
    rfl
  · simp (disch := decide) only [zpI_ne, zpI_at, zpA_ne, zpA_row, Nat.reduceEqDiff, reduceIte, show (0 : Int32).toNatClampNeg = 0 from rfl, show (4 : Int32).toNatClampNeg = 4 from rfl, show (12 : Int32).toNatClampNeg = 12 from rfl, cpy_at (show 2 < 4 by omega), d2]
    rfl
  · simp (disch := decide) only [zpI_ne, zpI_at, zpA_ne, zpA_row, Nat.reduceEqDiff, reduceIte, show (0 : Int32).toNatClampNeg = 0 from rfl, show (4 : Int32).toNatClampNeg = 4 from rfl, show (12 : Int32).toNatClampNeg = 12 from rfl, cpy_at (show 3 < 4 by omega), d3]
    rfl

set_option maxRecDepth 100000 in
set_option maxHeartbeats 4000000 in
theorem xs_image {g : zG} {d : Nat} {S : zS} {μ : zMem} (hd : 2 ≤ d) (hS : xS S μ) : zM g d X_image [.ref 1] μ (pO xS onlyX (opImage S) μ) := by
  refine zM_of (by decide +kernel) rfl rfl (Nat.le_of_ble_eq_true rfl) rfl ?_
  obtain ⟨ho, h2, hT, hC, hD, hI, hA, hH⟩ := hS
  have hS : xS S μ := ⟨ho, h2, hT, hC, hD, hI, hA, hH⟩
  have hb := ho.b
  have hv := ho.v
  have hB6 := ho.b6
  have hV12 := ho.v12
  have hz : zq sX μ μ := zq.rf
  refine zb X_image_s0 rfl ?_
  refine zcallV X_image_d4 k10_292 (by omega) (xs_keepImage (by omega) hS) rfl rfl rfl (Nat.le_of_ble_eq_true rfl) ?_
  rintro _ μ1 ⟨rfl, hS1, hO1⟩
  refine zb X_image_s7 rfl ?_
  refine z_ret X_image_d14 rfl ?_
  exact ⟨congrArg (fun z => some (Value.int z)) hS1.2.1.2, hS1, hO1⟩

theorem xI.n {m : zIm} {μ : zMem} (h : xI m μ) (h0 : ¬ m.1 < 0) : μ.1 7 3 = 1 ∧ ∃ q : Nat, q ≤ 12 ∧ m.1 = nI q ∧ μ.1 7 8 = nI q ∧ (∀ v, v < q → μ.1 77 v = m.2.1 v ∧ μ.1 78 v = m.2.2.1 v) ∧ μ.1 7 7 = m.2.2.2.1 ∧ μ.1 76 0 = m.2.2.2.2.1 ∧ μ.1 76 1 = m.2.2.2.2.2.1 ∧ μ.1 76 2 = m.2.2.2.2.2.2.1 ∧ μ.1 76 3 = m.2.2.2.2.2.2.2 := by
  rcases h with z | z
  · rw [z.1] at h0
    exact absurd (by decide) h0
  · exact z
/-- an image half laid back -/
def sBk (S : zS) (n : Nat) : zS := sD (sDay (sF S (bkF S.1 (zI_ S).2.1 (zI_ S).2.2.1 n)) (zI_ S).2.2.2.1) (zI_ S).2.2.2.2
theorem sBk_op {S : zS} {n : Nat} (hn : n ≤ 12) (e : (zI_ S).1 = nI n) : opBack S = ((zI_ S).2.2.2.1, sBk S n) := by
  unfold opBack
  rw [e, if_neg (nI_pos (by omega)), nI_clamp (by omega)]
  rfl

set_option maxRecDepth 100000 in
set_option maxHeartbeats 4000000 in
theorem w_D_back {g : zG} {d : Nat} {S : zS} {μ0 : zMem} {n : Nat} (hn : n ≤ 12) (hI1 : (zI_ S).1 = nI n) : ∀ (j i : Nat) (μ : zMem), i + j = n → (xS (sBk S i) μ) → (onlyX μ0 μ) → zW g D_layBack d 24 [some (.ref 7), some (.int (nI i))] [] μ (fun r μ' => r = none ∧ xS (sBk S n) μ' ∧ onlyX μ0 μ') := by
  intro j
  induction j with
  | zero =>
    intro i  μ hi  hv0 hv1
    have hI : xI (zI_ S) μ := hv0.2.2.2.2.2.1
    obtain ⟨y1, q, y2, y3, y4, y5, y6⟩ := hI.n (by rw [hI1]; exact nI_pos (by omega))
    have e0 : n = q := (nI_eq (by omega) (by omega)).mp (hI1.symm.trans y3)
    subst e0
    have hbd : μ.1 7 8 = nI n := y4
    have hi : n = i := by omega
    subst hi
    refine zb D_layBack_s24 rfl ?_
    refine z_cge D_layBack_d29 (tgt := 74) rfl (fun h29 => ?_) (fun h29 => absurd (show μ.1 7 8 ≤ nI (n) by first | exact Int32.le_refl _ | (rw [hbd]; exact Int32.le_refl _)) h29)
    refine z_retV D_layBack_d74 rfl ?_
    exact ⟨rfl, hv0, hv1⟩
  | succ j ih =>
    intro i  μ hi  hv0 hv1
    have hI : xI (zI_ S) μ := hv0.2.2.2.2.2.1
    obtain ⟨y1, q, y2, y3, y4, y5, y6⟩ := hI.n (by rw [hI1]; exact nI_pos (by omega))
    have e0 : n = q := (nI_eq (by omega) (by omega)).mp (hI1.symm.trans y3)
    subst e0
    have hbd : μ.1 7 8 = nI n := y4
    have hilt : i < n := by omega
    have ei : (nI i).toNatClampNeg = i := nI_clamp (by omega)
    have hK := y5 i hilt
    have hvi : vp_in (nI i) 12 := vp_in_nI (by omega) (by omega)
    refine zb D_layBack_s24 rfl ?_
    refine z_cge D_layBack_d29 (tgt := 74) rfl (fun h29 => absurd h29 (show ¬ μ.1 7 8 ≤ nI i by first | exact nI_ge hilt (by omega) | (rw [hbd]; exact nI_ge hilt (by omega)))) (fun h29 => ?_)
    refine zb D_layBack_s32 rfl ?_
    refine z_cge D_layBack_d35 (tgt := 74) rfl (fun h35 => absurd h35 (nI_ge (b := 12) (by omega) (by omega))) (fun h35 => ?_)
    refine zb4 D_layBack_s38 rfl hvi hvi hvi hvi ?_
    rw [nI_1, ei]
    simp (disch := decide) only [zpI_ne]
    rw [hK.1, hK.2]
    obtain ⟨ho, h2, hT, hC, hD, hI', hA, hH⟩ := hv0
    have ho1 := (ho.p59 (v := i) (x := (zI_ S).2.1 i)).p60 (v := i) (x := (zI_ S).2.2.1 i)
    have e := bkF_s S.1 (zI_ S).2.1 (zI_ S).2.2.1 i
    replace e : fsag (fsbr (sBk S i).1 i ((zI_ S).2.1 i)) i ((zI_ S).2.2.1 i) = _ := e
    rw [e] at ho1
    exact ih (i + 1) _ (by omega) ⟨ho1, h2, hT, hC, hD, hI', hA, (by repeat (first | exact hH | refine xH.put (by decide) ?_))⟩ (hv1.tr (onlyX.put rfl (onlyX.put rfl onlyX.rf)))

set_option maxRecDepth 100000 in
set_option maxHeartbeats 4000000 in
theorem xs_layBack {g : zG} {d : Nat} {S : zS} {μ : zMem} {n : Nat} (hd : 1 ≤ d) (hn : n ≤ 12) (e1 : (zI_ S).1 = nI n) (hS : xS S μ) : zM g d D_layBack [.ref 7] μ (fun r μ' => r = none ∧ xS (sBk S n) μ' ∧ onlyX μ μ') := by
  refine zM_of (by decide +kernel) rfl rfl (Nat.le_of_ble_eq_true rfl) rfl ?_
  obtain ⟨ho, h2, hT, hC, hD, hI, hA, hH⟩ := hS
  have hS : xS S μ := ⟨ho, h2, hT, hC, hD, hI, hA, hH⟩
  have hb := ho.b
  have hv := ho.v
  have hB6 := ho.b6
  have hV12 := ho.v12
  have hz : zq sX μ μ := zq.rf
  have e3 : μ.1 7 2 = tod S := h2.2
  have d0 : μ.1 75 0 = (zD S).1 := hD.1
  have d1 : μ.1 75 1 = (zD S).2.1 := hD.2.1
  have d2 : μ.1 75 2 = (zD S).2.2.1 := hD.2.2.1
  have d3 : μ.1 75 3 = (zD S).2.2.2 := hD.2.2.2
  have hI0 : xI (zI_ S) μ := hI
  obtain ⟨y1, q, y2, y3, y4, y5, y6, y7, y8, y9, y10⟩ := hI0.n (by rw [e1]; exact nI_pos (by omega))
  refine zb D_layBack_s0 rfl ?_
  refine zcpI D_layBack_d19 k3_68 (by omega) (Nat.le_of_ble_eq_true rfl) rfl rfl (by decide) (by decide) (by decide) (by decide) (by decide) ?_
  refine zb D_layBack_s22 rfl ?_
  refine w_D_back (S := S) (μ0 := μ) hn e1 n 0 _ (by omega) ⟨⟨ho.1, ho.2.1, ho.2.2⟩, ⟨h2.1, ?_⟩, hT, hC, ⟨?_, ?_, ?_, ?_⟩, hI, hA, (by repeat (first | exact hH | refine xH.put (by decide) ?_ | refine xH.putA (by decide) ?_))⟩ (by repeat (first | exact onlyX.rf | refine onlyX.put rfl ?_ | refine onlyX.putA rfl ?_))
  · simp (disch := decide) only [zpI_ne, zpI_at, zpA_ne, zpA_row, Nat.reduceEqDiff, reduceIte, show (0 : Int32).toNatClampNeg = 0 from rfl, show (4 : Int32).toNatClampNeg = 4 from rfl, show (12 : Int32).toNatClampNeg = 12 from rfl, y6]
    rfl
  · simp (disch := decide) only [zpI_ne, zpI_at, zpA_ne, zpA_row, Nat.reduceEqDiff, reduceIte, show (0 : Int32).toNatClampNeg = 0 from rfl, show (4 : Int32).toNatClampNeg = 4 from rfl, show (12 : Int32).toNatClampNeg = 12 from rfl, cpy_at (show 0 < 4 by omega), y7]
    rfl
  · simp (disch := decide) only [zpI_ne, zpI_at, zpA_ne, zpA_row, Nat.reduceEqDiff, reduceIte, show (0 : Int32).toNatClampNeg = 0 from rfl, show (4 : Int32).toNatClampNeg = 4 from rfl, show (12 : Int32).toNatClampNeg = 12 from rfl, cpy_at (show 1 < 4 by omega), y8]
    rfl
  · simp (disch := decide) only [zpI_ne, zpI_at, zpA_ne, zpA_row, Nat.reduceEqDiff, reduceIte, show (0 : Int32).toNatClampNeg = 0 from rfl, show (4 : Int32).toNatClampNeg = 4 from rfl, show (12 : Int32).toNatClampNeg = 12 from rfl, cpy_at (show 2 < 4 by omega), y9]
    rfl
  · simp (disch := decide) only [zpI_ne, zpI_at, zpA_ne, zpA_row, Nat.reduceEqDiff, reduceIte, show (0 : Int32).toNatClampNeg = 0 from rfl, show (4 : Int32).toNatClampNeg = 4 from rfl, show (12 : Int32).toNatClampNeg = 12 from rfl, cpy_at (show 3 < 4 by omega), y10]
    rfl

set_option maxRecDepth 100000 in
set_option maxHeartbeats 4000000 in
theorem xs_back {g : zG} {d : Nat} {S : zS} {μ : zMem} (hd : 2 ≤ d) (hS : xS S μ) : zM g d X_back [.ref 1] μ (pO xS onlyX (opBack S) μ) := by
  refine zM_of (by decide +kernel) rfl rfl (Nat.le_of_ble_eq_true rfl) rfl ?_
  obtain ⟨ho, h2, hT, hC, hD, hI, hA, hH⟩ := hS
  have hS : xS S μ := ⟨ho, h2, hT, hC, hD, hI, hA, hH⟩
  have hb := ho.b
  have hv := ho.v
  have hB6 := ho.b6
  have hV12 := ho.v12
  have hz : zq sX μ μ := zq.rf
  have hI0 : xI (zI_ S) μ := hI
  refine zb X_back_s0 rfl ?_
  refine z_ne X_back_d7 (tgt := 13) rfl (fun h7 => ?_) (fun h7 => ?_)
  · have hn0 : ¬ (zI_ S).1 < 0 := by
      rcases hI0 with z | ⟨z, q, hq, e, -⟩
      · exact absurd z.2 h7
      · rw [e]; exact nI_pos (by omega)
    obtain ⟨y1, q, y2, y3, -⟩ := hI0.n hn0
    refine zb X_back_s13 rfl ?_
    refine zcallV X_back_d17 k10_299 (by omega) (xs_layBack (by omega) y2 y3 hS) rfl rfl rfl (Nat.le_of_ble_eq_true rfl) ?_
    rintro _ μ1 ⟨rfl, hS1, hO1⟩
    refine zb X_back_s20 rfl ?_
    refine z_ret X_back_d27 rfl ?_
    first
      | (rw [sBk_op y2 y3]
         exact ⟨congrArg (fun z => some (Value.int z)) hS1.2.1.2, hS1, hO1⟩)
      | (have hn0 : (zI_ S).1 < 0 := by
           rcases hI0 with z | z
           · rw [z.1]; decide
           · rw [z.1] at h7; exact absurd h7 (by decide)
         unfold opBack
         rw [if_pos hn0]
         exact ⟨rfl, hS, onlyX.rf⟩)
  · refine zb X_back_s10 rfl ?_
    refine z_ret X_back_d12 rfl ?_
    first
      | (rw [sBk_op y2 y3]
         exact ⟨congrArg (fun z => some (Value.int z)) hS1.2.1.2, hS1, hO1⟩)
      | (have hn0 : (zI_ S).1 < 0 := by
           rcases hI0 with z | z
           · rw [z.1]; decide
           · rw [z.1] at h7; exact absurd h7 (by decide)
         unfold opBack
         rw [if_pos hn0]
         exact ⟨rfl, hS, onlyX.rf⟩)
