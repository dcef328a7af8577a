/-! the reference: undone, redone, the tape, deeds, images, counts -/
def qlocP (T T' : Nat → Int32) (n : Nat) : Prop := ∀ p, p < n → T p = T' p
theorem qnx_loc {T T' : Nat → Int32} {n : Nat} (h : qlocP T T' n) : qnx T n = qnx T' n := by
  funext p
  unfold qnx
  by_cases q : p < n
  · rw [if_pos q, if_pos q]; exact h p q
  · rw [if_neg q, if_neg q]
theorem qnum_loc {T T' : Nat → Int32} {n : Nat} (h : qlocP T T' n) : ∀ (k p : Nat) (v : Int32), qnum T n k p v = qnum T' n k p v
  | 0, _, _ => rfl
  | k + 1, p, v => by
    simp only [qnum, qnx_loc h]
    by_cases q : qdig (qnx T' n p)
    · rw [if_pos q, if_pos q, h p (qnx_lt (by intro z; rw [z] at q; exact absurd q (by decide))), qnum_loc h]
    · rw [if_neg q, if_neg q]
theorem qlp_loc {T T' : Nat → Int32} {n : Nat} (h : qlocP T T' n) (po : Nat → qR) (isop : Int32 → Bool) : ∀ (f p : Nat) (c : qC) (e : qD), qlp T n po isop f p c e = qlp T' n po isop f p c e
  | 0, _, _, _ => rfl
  | f + 1, p, c, e => by
    simp only [qlp, qnx_loc h]
    split
    · split
      · rfl
      · exact qlp_loc h po isop f _ _ _
    · rfl
theorem qbin_loc {T T' : Nat → Int32} {n : Nat} (h : qlocP T T' n) (po : Nat → qR) (isop : Int32 → Bool) (f : Nat) : qbin T n po isop f = qbin T' n po isop f := by
  funext p
  unfold qbin
  split
  · rfl
  · exact qlp_loc h po isop _ _ _ _
theorem qE_loc {T T' : Nat → Int32} {n : Nat} (h : qlocP T T' n) (po : Nat → qR) : qE T n po = qE T' n po := by
  unfold qE qA qBB qS qP
  simp only [qbin_loc h]
theorem qO_loc {T T' : Nat → Int32} {n : Nat} (h : qlocP T T' n) : ∀ k : Nat, qO T n k = qO T' n k
  | 0 => by
    funext p
    simp only [qO, qnx_loc h, qnum_loc h]
  | k + 1 => by
    funext p
    simp only [qO, qnx_loc h, qnum_loc h, qO_loc h k, qE_loc h]
theorem qLw_loc {T T' : Nat → Int32} {n : Nat} (h : qlocP T T' n) : ∀ (f p sz : Nat), qLw T n f p sz = qLw T' n f p sz
  | 0, _, _ => rfl
  | f + 1, p, sz => by
    have hL : qLn T n p sz = qLn T' n p sz := by
      unfold qLn qTop
      rw [qO_loc h, qE_loc h, qnx_loc h]
    simp only [qLw, hL, qnx_loc h, qLw_loc h f]
theorem qden_loc {T T' : Nat → Int32} {n : Nat} (h : qlocP T T' n) : qden T n = qden T' n := by
  unfold qden
  rw [qLw_loc h]
theorem qlaw_loc {T T' : Nat → Int32} {n : Nat} (h : qlocP T T' n) (on : Int32) : qlaw on T n = qlaw on T' n := by
  funext w k dd hh b p
  unfold qlaw
  rw [qden_loc h]
theorem qtx_loc (T old : Nat → Int32) (n : Nat) : qlocP (qtx T old n) T n := fun p hp => if_pos hp
def fnL (F : zF) (L : Int32 → Int32 → Int32 → Int32 → Int32 → Int32 → Int32) : zF := (F.1, ftone F, ftune F, fbell F, fwt F, fby F, fbr F, fag F, L)
def opLaw (S : zS) : Int32 × zS := match qLw (tT S).2 (tT S).1 121 0 0 with
  | .inl p => (-100 - nI p, sTp S (0, (tT S).2))
  | .inr _ => (1, sF (sTp S (0, (tT S).2)) (fnL S.1 (qlaw 1 (tT S).2 (tT S).1)))

theorem oM.law {F : zF} {μ μ' : zMem} {L : Int32 → Int32 → Int32 → Int32 → Int32 → Int32 → Int32} (h : oM F μ) (e0 : μ'.1 0 0 = μ.1 0 0) (e1 : μ'.1 0 1 = μ.1 0 1) (er : ∀ c, 25 ≤ c → c ≤ 31 → μ'.1 c = μ.1 c) (hO : lawOK μ') (hL : lawM μ' = L) : oM (fnL F L) μ' := by
  obtain ⟨⟨h3, h4, h5⟩, h6⟩ := h
  have e : fM μ' = fnL F L := by
    rw [← h6]
    unfold fM
    rw [e0, e1, er 25 (by omega) (by omega), er 26 (by omega) (by omega), er 27 (by omega) (by omega), er 28 (by omega) (by omega), er 29 (by omega) (by omega), er 30 (by omega) (by omega), er 31 (by omega) (by omega), hL]
    rfl
  have k1 : fB (fnL F L) = fB F := rfl
  have k2 : fV (fnL F L) = fV F := rfl
  rw [h6] at h3 h4
  refine ⟨⟨?_, ?_, hO⟩, e⟩
  · rw [e, k1, e0]; exact h3
  · rw [e, k2, e1]; exact h4
theorem law_is {μ' : zMem} {R : Nat → Int32} {n : Nat} {z : qC × qD} (h8 : μ'.1 0 8 = 1) (h33 : μ'.1 33 = R) (h5 : μ'.1 0 5 = nI n) (hn : n ≤ 120) (hR : qLw R n 121 0 0 = .inr z) : lawOK μ' ∧ lawM μ' = qlaw 1 R n := by
  unfold lawOK lawM
  rw [h8, h33, h5, nI_clamp (by omega)]
  exact ⟨fun _ => ⟨n, z.1, z.2, rfl, hn, hR⟩, rfl⟩

set_option maxRecDepth 100000 in
set_option maxHeartbeats 4000000 in
theorem s_M_law {g : zG} {d : Nat} {S : zS} {μ : zMem} (hd : 46 ≤ d) (hS : mS S μ) : zM g d M_law [.ref 0] μ (pO mS onlyM (opLaw S) μ) := by
  obtain ⟨ho, h2, hT, hC, hD, hI, hA, hH⟩ := hS
  refine (c_M_law (n := (tT S).1) hd hT.1 hT.2.1).mono (fun v μ' hq => ?_)
  have eT : μ.1 32 = (tT S).2 := hT.2.2
  have hle : (tT S).1 ≤ 120 := hT.2.1
  unfold opLaw
  unfold qlawQ at hq
  rw [eT] at hq
  have hoth : ∀ (a b c : Int32) (x : zMem), onlyM μ x → onlyM μ (m3 x a b c) := fun a b c x hx => hx.tr ⟨fun c hc => ⟨by
    have : ¬ c = 0 := fun z => by rw [z] at hc; cases hc
    funext j
    show (if c = 0 then _ else x.1 c j) = _
    rw [if_neg this], rfl⟩, rfl⟩
  cases hl : qLw (tT S).2 (tT S).1 121 0 0 with
  | inl p =>
    rw [hl] at hq
    obtain ⟨rfl, r, rfl⟩ := hq
    dsimp only
    have ho1 : oM S.1 (zpI (m3 μ (nI p) (nI (6 - 6)) r) 0 4 0) := by
      have k := ho.law (μ' := zpI (m3 μ (nI p) (nI (6 - 6)) r) 0 4 0) (L := flaw S.1) rfl rfl (fun c h1 h2 => ?_) ho.1.2.2 (by rw [← ho.2]; rfl)
      · exact k
      · rw [zpI_ne (by omega)]
        funext j
        show (if c = 0 then _ else μ.1 c j) = _
        rw [if_neg (by omega)]
    exact ⟨rfl, ⟨ho1, h2, ⟨rfl, Nat.zero_le _, eT⟩, hC, hD, hI, hA, hH⟩, onlyM.put rfl (hoth _ _ _ _ onlyM.rf)⟩
  | inr z =>
    rw [hl] at hq
    obtain ⟨rfl, rfl⟩ := hq
    dsimp only
    have ho1 : oM (fnL S.1 (qlaw 1 (tT S).2 (tT S).1)) (zpI (zpI (zpI (zpA (m3 μ (nI (tT S).1) (nI (6 - 6)) 1) 33 (qtx (tT S).2 (μ.1 33) (tT S).1)) 0 5 (nI (tT S).1)) 0 8 1) 0 4 0) := by
      have k := law_is (μ' := zpI (zpI (zpI (zpA (m3 μ (nI (tT S).1) (nI (6 - 6)) 1) 33 (qtx (tT S).2 (μ.1 33) (tT S).1)) 0 5 (nI (tT S).1)) 0 8 1) 0 4 0) (R := qtx (tT S).2 (μ.1 33) (tT S).1) rfl rfl rfl hle ((qLw_loc (qtx_loc _ _ _) _ _ _).trans hl)
      refine ho.law rfl rfl (fun c h1 h2 => ?_) k.1 (k.2.trans (qlaw_loc (qtx_loc _ _ _) _))
      rw [zpI_ne (by omega), zpI_ne (by omega), zpI_ne (by omega)]
      funext j
      show (if c = 33 then _ else (m3 _ _ _ _).1 c) j = _
      rw [if_neg (by omega)]
      show (if c = 0 then _ else μ.1 c j) = _
      rw [if_neg (by omega)]
    exact ⟨rfl, ⟨ho1, h2, ⟨rfl, Nat.zero_le _, eT⟩, hC, hD, hI, hA, hH⟩, onlyM.put rfl (onlyM.put rfl (onlyM.put rfl (onlyM.putA rfl (hoth _ _ _ _ onlyM.rf))))⟩

set_option maxRecDepth 100000 in
set_option maxHeartbeats 4000000 in
theorem s_M_undo {g : zG} {d : Nat} {S : zS} {μ : zMem} (hS : mS S μ) (hok : okC S) (hd : 1 ≤ d) : zM g d M_undo [.ref 0] μ (pO mS onlyM (opUndo S) μ) := by
  refine zM_of (by decide +kernel) rfl rfl (Nat.le_of_ble_eq_true rfl) rfl ?_
  obtain ⟨ho, h2, hT, hC, hD, hI, hA, hH⟩ := hS
  have hS : mS S μ := ⟨ho, h2, hT, hC, hD, hI, hA, hH⟩
  have hb := ho.b
  have hv := ho.v
  have h6 := ho.b6
  have h12 := ho.v12
  have hz : zq sM μ μ := zq.rf
  have hC1 : mC (cC S) μ := hC
  have e22 : μ.1 0 22 = nI (cC S).1.1 := hC1.1.1
  have e23 : μ.1 0 23 = nI (cC S).1.2 := hC1.1.2.1
  have hle := hC1.1.2.2
  refine zb M_undo_s0 rfl ?_
  refine z_ne M_undo_d4 (tgt := 10) rfl (fun h4 => ?_) (fun h4 => ?_)
  · have h0 : ¬ (cC S).1.1 = 0 := fun z => h4 (by rw [e22, z]; rfl)
    have em : nI (cC S).1.1 - 1 = nI ((cC S).1.1 - 1) := by rw [show (1 : Int32) = nI 1 from rfl, pk_sub (by omega)]
    have hvm : vp_in (nI ((cC S).1.1 - 1)) 40 := vp_in_nI (by omega) (by omega)
    have ec : (nI ((cC S).1.1 - 1)).toNatClampNeg = (cC S).1.1 - 1 := nI_clamp (by omega)
    have hS2 := hS.made (m := (cC S).1.1 - 1) (by omega)
    have hk := hok ((cC S).1.1 - 1) (by omega)
    refine zb3 M_undo_s10 rfl (by simp (disch := decide) only [zpI_ne, zpI_at, Nat.reduceEqDiff, reduceIte, e22, em]; exact hvm) (by simp (disch := decide) only [zpI_ne, zpI_at, Nat.reduceEqDiff, reduceIte, e22, em]; exact hvm) (by simp (disch := decide) only [zpI_ne, zpI_at, Nat.reduceEqDiff, reduceIte, e22, em]; exact hvm) ?_
    simp (disch := decide) only [zpI_ne, zpI_at, Nat.reduceEqDiff, reduceIte, e22, em, ec]
    rw [hC1.2.1, hC1.2.2.1, hC1.2.2.2.1]
    refine zcallV M_undo_d48 k11_157 (by omega) (s_M_write (S := sC S (chMade (cC S) ((cC S).1.1 - 1))) hk.1 hS2) rfl rfl rfl (Nat.le_of_ble_eq_true rfl) ?_
    rintro _ μ1 ⟨rfl, hS3, hO3⟩
    have e3 : μ1.1 0 22 = nI ((cC S).1.1 - 1) := hS3.2.2.2.1.1.1
    refine zb M_undo_s51 rfl ?_
    refine z_ret M_undo_d55 rfl ?_
    unfold opUndo
    first
      | (rw [if_pos ((nI_eq (b := 0) (by omega) (by omega)).mp (by rw [← e22]; exact h4))]; exact ⟨rfl, hS, onlyM.rf⟩)
      | (rw [if_neg h0, e3]; exact ⟨rfl, hS3, (onlyM.put rfl onlyM.rf).tr hO3⟩)
  · refine zb M_undo_s7 rfl ?_
    refine z_ret M_undo_d9 rfl ?_
    unfold opUndo
    first
      | (rw [if_pos ((nI_eq (b := 0) (by omega) (by omega)).mp (by rw [← e22]; exact h4))]; exact ⟨rfl, hS, onlyM.rf⟩)
      | (rw [if_neg h0, e3]; exact ⟨rfl, hS3, (onlyM.put rfl onlyM.rf).tr hO3⟩)

set_option maxRecDepth 100000 in
set_option maxHeartbeats 4000000 in
theorem s_M_redo {g : zG} {d : Nat} {S : zS} {μ : zMem} (hS : mS S μ) (hok : okC S) (hd : 1 ≤ d) : zM g d M_redo [.ref 0] μ (pO mS onlyM (opRedo S) μ) := by
  refine zM_of (by decide +kernel) rfl rfl (Nat.le_of_ble_eq_true rfl) rfl ?_
  obtain ⟨ho, h2, hT, hC, hD, hI, hA, hH⟩ := hS
  have hS : mS S μ := ⟨ho, h2, hT, hC, hD, hI, hA, hH⟩
  have hb := ho.b
  have hv := ho.v
  have h6 := ho.b6
  have h12 := ho.v12
  have hz : zq sM μ μ := zq.rf
  have hC1 : mC (cC S) μ := hC
  have e22 : μ.1 0 22 = nI (cC S).1.1 := hC1.1.1
  have e23 : μ.1 0 23 = nI (cC S).1.2 := hC1.1.2.1
  have hle := hC1.1.2.2
  refine zb M_redo_s0 rfl ?_
  refine z_cne M_redo_d8 (tgt := 14) rfl (fun h8 => ?_) (fun h8 => ?_)
  · have h0 : ¬ (cC S).1.1 = (cC S).1.2 := fun z => h8 (by rw [e22, e23, z])
    have hvm : vp_in (μ.1 0 22) 40 := by rw [e22]; exact vp_in_nI (by omega) (by omega)
    have ec : (nI (cC S).1.1).toNatClampNeg = (cC S).1.1 := nI_clamp (by omega)
    have hk := hok (cC S).1.1 (by omega)
    refine zb3 M_redo_s14 rfl hvm hvm hvm ?_
    rw [e22, ec, hC1.2.1, hC1.2.2.1, hC1.2.2.2.2]
    refine zcallV M_redo_d42 k11_157 (by omega) (s_M_write hk.1 hS) rfl rfl rfl (Nat.le_of_ble_eq_true rfl) ?_
    rintro _ μ1 ⟨rfl, hS3, hO3⟩
    have e3 : μ1.1 0 22 = nI (cC S).1.1 := hS3.2.2.2.1.1.1
    have e4 : μ1.1 0 23 = nI (cC S).1.2 := hS3.2.2.2.1.1.2.1
    refine zb M_redo_s45 rfl ?_
    refine z_ret M_redo_d64 rfl ?_
    unfold opRedo
    first
      | (rw [if_pos ((nI_eq (by omega) (by omega)).mp (by rw [← e22, ← e23]; exact h8))]; exact ⟨rfl, hS, onlyM.rf⟩)
      | (have hS4 := hS3.made (m := (cC S).1.1 + 1) (show (cC S).1.1 + 1 ≤ (cC S).1.2 by omega)
         simp (disch := decide) only [zpI_ne, zpI_at, Nat.reduceEqDiff, reduceIte, e3, e4, nI_1]
         rw [if_neg h0, pk_sub (by omega)]
         exact ⟨rfl, hS4, (hO3.tr (onlyM.put rfl onlyM.rf))⟩)
  · refine zb M_redo_s11 rfl ?_
    refine z_ret M_redo_d13 rfl ?_
    unfold opRedo
    first
      | (rw [if_pos ((nI_eq (by omega) (by omega)).mp (by rw [← e22, ← e23]; exact h8))]; exact ⟨rfl, hS, onlyM.rf⟩)
      | (have hS4 := hS3.made (m := (cC S).1.1 + 1) (show (cC S).1.1 + 1 ≤ (cC S).1.2 by omega)
         simp (disch := decide) only [zpI_ne, zpI_at, Nat.reduceEqDiff, reduceIte, e3, e4, nI_1]
         rw [if_neg h0, pk_sub (by omega)]
         exact ⟨rfl, hS4, (hO3.tr (onlyM.put rfl onlyM.rf))⟩)

set_option maxRecDepth 100000 in
set_option maxHeartbeats 4000000 in
theorem s_M_of {g : zG} {d : Nat} {S : zS} {μ : zMem} {n w : Int32} (hd : 2 ≤ d) (hS : mS S μ) : zM g d M_of [.ref 0, .int n, .int w] μ (pO mS onlyM ((opOf S n w, S)) μ) := by
  refine zM_of (by decide +kernel) rfl rfl (Nat.le_of_ble_eq_true rfl) rfl ?_
  obtain ⟨ho, h2, hT, hC, hD, hI, hA, hH⟩ := hS
  have hS : mS S μ := ⟨ho, h2, hT, hC, hD, hI, hA, hH⟩
  have hb := ho.b
  have hv := ho.v
  have h6 := ho.b6
  have h12 := ho.v12
  have hz : zq sM μ μ := zq.rf
  refine zb M_of_s0 rfl ?_
  refine z_cne M_of_d3 (tgt := 28) rfl (fun h3 => ?_) (fun h3 => ?_)
  · refine zb M_of_s28 rfl ?_
    refine z_cne M_of_d31 (tgt := 43) rfl (fun h31 => ?_) (fun h31 => ?_)
    · refine zb M_of_s43 rfl ?_
      refine zcallV M_of_d46 k11_137 (by omega) (s_M_isNumber _ _ (by omega) ho) rfl rfl rfl (Nat.le_of_ble_eq_true rfl) ?_
      rintro _ μx ⟨rfl, hx⟩
      rw [hx]
      clear hx μx
      refine z_eq M_of_d49 (tgt := 61) rfl (fun h49 => ?_) (fun h49 => ?_)
      · refine zb M_of_s61 rfl ?_
        refine z_ret M_of_d62 rfl ?_
        refine ⟨?_, hS, onlyM.rf⟩
        unfold opOf
        first
          | (rw [if_pos (show w = 10 ∧ isV S.1 (nI q) from And.intro h3 g1), eq, ← h2.2]; exact congrArg (fun z => some (Value.int z)) (zB_cong zB_ne0))
          | (rw [if_neg (fun z => by first | exact h3 z.1 | exact (zB_eq0.mp h11) z.2)]
             first
               | (rw [if_pos (show w = 11 ∧ n = 0 from And.intro h31 h35)]; exact congrArg (fun z => some (Value.int z)) h2.2)
               | (rw [if_neg (fun z => by first | exact h31 z.1 | exact h35 z.2)]
                  first
                    | rw [if_pos hN]
                    | rw [if_neg (zB_eq0.mp h49)]))
      · have hN := zB_ne0.mp h49
        refine zb M_of_s52 rfl ?_
        refine zcallV M_of_d55 k11_148 (by omega) (s_M_read hN h2.1 ho) rfl rfl rfl (Nat.le_of_ble_eq_true rfl) ?_
        rintro _ μx ⟨rfl, hx⟩
        rw [hx]
        clear hx μx
        refine zb M_of_s58 rfl ?_
        refine z_ret M_of_d62 rfl ?_
        refine ⟨?_, hS, onlyM.rf⟩
        unfold opOf
        first
          | (rw [if_pos (show w = 10 ∧ isV S.1 (nI q) from And.intro h3 g1), eq, ← h2.2]; exact congrArg (fun z => some (Value.int z)) (zB_cong zB_ne0))
          | (rw [if_neg (fun z => by first | exact h3 z.1 | exact (zB_eq0.mp h11) z.2)]
             first
               | (rw [if_pos (show w = 11 ∧ n = 0 from And.intro h31 h35)]; exact congrArg (fun z => some (Value.int z)) h2.2)
               | (rw [if_neg (fun z => by first | exact h31 z.1 | exact h35 z.2)]
                  first
                    | rw [if_pos hN]
                    | rw [if_neg (zB_eq0.mp h49)]))
    · refine zb M_of_s34 rfl ?_
      refine z_ne M_of_d35 (tgt := 43) rfl (fun h35 => ?_) (fun h35 => ?_)
      · refine zb M_of_s43 rfl ?_
        refine zcallV M_of_d46 k11_137 (by omega) (s_M_isNumber _ _ (by omega) ho) rfl rfl rfl (Nat.le_of_ble_eq_true rfl) ?_
        rintro _ μx ⟨rfl, hx⟩
        rw [hx]
        clear hx μx
        refine z_eq M_of_d49 (tgt := 61) rfl (fun h49 => ?_) (fun h49 => ?_)
        · refine zb M_of_s61 rfl ?_
          refine z_ret M_of_d62 rfl ?_
          refine ⟨?_, hS, onlyM.rf⟩
          unfold opOf
          first
            | (rw [if_pos (show w = 10 ∧ isV S.1 (nI q) from And.intro h3 g1), eq, ← h2.2]; exact congrArg (fun z => some (Value.int z)) (zB_cong zB_ne0))
            | (rw [if_neg (fun z => by first | exact h3 z.1 | exact (zB_eq0.mp h11) z.2)]
               first
                 | (rw [if_pos (show w = 11 ∧ n = 0 from And.intro h31 h35)]; exact congrArg (fun z => some (Value.int z)) h2.2)
                 | (rw [if_neg (fun z => by first | exact h31 z.1 | exact h35 z.2)]
                    first
                      | rw [if_pos hN]
                      | rw [if_neg (zB_eq0.mp h49)]))
        · have hN := zB_ne0.mp h49
          refine zb M_of_s52 rfl ?_
          refine zcallV M_of_d55 k11_148 (by omega) (s_M_read hN h2.1 ho) rfl rfl rfl (Nat.le_of_ble_eq_true rfl) ?_
          rintro _ μx ⟨rfl, hx⟩
          rw [hx]
          clear hx μx
          refine zb M_of_s58 rfl ?_
          refine z_ret M_of_d62 rfl ?_
          refine ⟨?_, hS, onlyM.rf⟩
          unfold opOf
          first
            | (rw [if_pos (show w = 10 ∧ isV S.1 (nI q) from And.intro h3 g1), eq, ← h2.2]; exact congrArg (fun z => some (Value.int z)) (zB_cong zB_ne0))
            | (rw [if_neg (fun z => by first | exact h3 z.1 | exact (zB_eq0.mp h11) z.2)]
               first
                 | (rw [if_pos (show w = 11 ∧ n = 0 from And.intro h31 h35)]; exact congrArg (fun z => some (Value.int z)) h2.2)
                 | (rw [if_neg (fun z => by first | exact h31 z.1 | exact h35 z.2)]
                    first
                      | rw [if_pos hN]
                      | rw [if_neg (zB_eq0.mp h49)]))
      · refine zb M_of_s38 rfl ?_
        refine z_ret M_of_d42 rfl ?_
        refine ⟨?_, hS, onlyM.rf⟩
        unfold opOf
        first
          | (rw [if_pos (show w = 10 ∧ isV S.1 (nI q) from And.intro h3 g1), eq, ← h2.2]; exact congrArg (fun z => some (Value.int z)) (zB_cong zB_ne0))
          | (rw [if_neg (fun z => by first | exact h3 z.1 | exact (zB_eq0.mp h11) z.2)]
             first
               | (rw [if_pos (show w = 11 ∧ n = 0 from And.intro h31 h35)]; exact congrArg (fun z => some (Value.int z)) h2.2)
               | (rw [if_neg (fun z => by first | exact h31 z.1 | exact h35 z.2)]
                  first
                    | rw [if_pos hN]
                    | rw [if_neg (zB_eq0.mp h49)]))
  · refine zb M_of_s6 rfl ?_
    refine zcallV M_of_d8 k11_131 (by omega) (c_M_isVow _) rfl rfl rfl (Nat.le_of_ble_eq_true rfl) ?_
    rintro _ μx ⟨rfl, hx⟩
    rw [hx]
    clear hx μx
    rw [ho.v]
    refine z_eq M_of_d11 (tgt := 28) rfl (fun h11 => ?_) (fun h11 => ?_)
    · refine zb M_of_s28 rfl ?_
      refine z_cne M_of_d31 (tgt := 43) rfl (fun h31 => ?_) (fun h31 => ?_)
      · refine zb M_of_s43 rfl ?_
        refine zcallV M_of_d46 k11_137 (by omega) (s_M_isNumber _ _ (by omega) ho) rfl rfl rfl (Nat.le_of_ble_eq_true rfl) ?_
        rintro _ μx ⟨rfl, hx⟩
        rw [hx]
        clear hx μx
        refine z_eq M_of_d49 (tgt := 61) rfl (fun h49 => ?_) (fun h49 => ?_)
        · refine zb M_of_s61 rfl ?_
          refine z_ret M_of_d62 rfl ?_
          refine ⟨?_, hS, onlyM.rf⟩
          unfold opOf
          first
            | (rw [if_pos (show w = 10 ∧ isV S.1 (nI q) from And.intro h3 g1), eq, ← h2.2]; exact congrArg (fun z => some (Value.int z)) (zB_cong zB_ne0))
            | (rw [if_neg (fun z => by first | exact h3 z.1 | exact (zB_eq0.mp h11) z.2)]
               first
                 | (rw [if_pos (show w = 11 ∧ n = 0 from And.intro h31 h35)]; exact congrArg (fun z => some (Value.int z)) h2.2)
                 | (rw [if_neg (fun z => by first | exact h31 z.1 | exact h35 z.2)]
                    first
                      | rw [if_pos hN]
                      | rw [if_neg (zB_eq0.mp h49)]))
        · have hN := zB_ne0.mp h49
          refine zb M_of_s52 rfl ?_
          refine zcallV M_of_d55 k11_148 (by omega) (s_M_read hN h2.1 ho) rfl rfl rfl (Nat.le_of_ble_eq_true rfl) ?_
          rintro _ μx ⟨rfl, hx⟩
          rw [hx]
          clear hx μx
          refine zb M_of_s58 rfl ?_
          refine z_ret M_of_d62 rfl ?_
          refine ⟨?_, hS, onlyM.rf⟩
          unfold opOf
          first
            | (rw [if_pos (show w = 10 ∧ isV S.1 (nI q) from And.intro h3 g1), eq, ← h2.2]; exact congrArg (fun z => some (Value.int z)) (zB_cong zB_ne0))
            | (rw [if_neg (fun z => by first | exact h3 z.1 | exact (zB_eq0.mp h11) z.2)]
               first
                 | (rw [if_pos (show w = 11 ∧ n = 0 from And.intro h31 h35)]; exact congrArg (fun z => some (Value.int z)) h2.2)
                 | (rw [if_neg (fun z => by first | exact h31 z.1 | exact h35 z.2)]
                    first
                      | rw [if_pos hN]
                      | rw [if_neg (zB_eq0.mp h49)]))
      · refine zb M_of_s34 rfl ?_
        refine z_ne M_of_d35 (tgt := 43) rfl (fun h35 => ?_) (fun h35 => ?_)
        · refine zb M_of_s43 rfl ?_
          refine zcallV M_of_d46 k11_137 (by omega) (s_M_isNumber _ _ (by omega) ho) rfl rfl rfl (Nat.le_of_ble_eq_true rfl) ?_
          rintro _ μx ⟨rfl, hx⟩
          rw [hx]
          clear hx μx
          refine z_eq M_of_d49 (tgt := 61) rfl (fun h49 => ?_) (fun h49 => ?_)
          · refine zb M_of_s61 rfl ?_
            refine z_ret M_of_d62 rfl ?_
            refine ⟨?_, hS, onlyM.rf⟩
            unfold opOf
            first
              | (rw [if_pos (show w = 10 ∧ isV S.1 (nI q) from And.intro h3 g1), eq, ← h2.2]; exact congrArg (fun z => some (Value.int z)) (zB_cong zB_ne0))
              | (rw [if_neg (fun z => by first | exact h3 z.1 | exact (zB_eq0.mp h11) z.2)]
                 first
                   | (rw [if_pos (show w = 11 ∧ n = 0 from And.intro h31 h35)]; exact congrArg (fun z => some (Value.int z)) h2.2)
                   | (rw [if_neg (fun z => by first | exact h31 z.1 | exact h35 z.2)]
                      first
                        | rw [if_pos hN]
                        | rw [if_neg (zB_eq0.mp h49)]))
          · have hN := zB_ne0.mp h49
            refine zb M_of_s52 rfl ?_
            refine zcallV M_of_d55 k11_148 (by omega) (s_M_read hN h2.1 ho) rfl rfl rfl (Nat.le_of_ble_eq_true rfl) ?_
            rintro _ μx ⟨rfl, hx⟩
            rw [hx]
            clear hx μx
            refine zb M_of_s58 rfl ?_
            refine z_ret M_of_d62 rfl ?_
            refine ⟨?_, hS, onlyM.rf⟩
            unfold opOf
            first
              | (rw [if_pos (show w = 10 ∧ isV S.1 (nI q) from And.intro h3 g1), eq, ← h2.2]; exact congrArg (fun z => some (Value.int z)) (zB_cong zB_ne0))
              | (rw [if_neg (fun z => by first | exact h3 z.1 | exact (zB_eq0.mp h11) z.2)]
                 first
                   | (rw [if_pos (show w = 11 ∧ n = 0 from And.intro h31 h35)]; exact congrArg (fun z => some (Value.int z)) h2.2)
                   | (rw [if_neg (fun z => by first | exact h31 z.1 | exact h35 z.2)]
                      first
                        | rw [if_pos hN]
                        | rw [if_neg (zB_eq0.mp h49)]))
        · refine zb M_of_s38 rfl ?_
          refine z_ret M_of_d42 rfl ?_
          refine ⟨?_, hS, onlyM.rf⟩
          unfold opOf
          first
            | (rw [if_pos (show w = 10 ∧ isV S.1 (nI q) from And.intro h3 g1), eq, ← h2.2]; exact congrArg (fun z => some (Value.int z)) (zB_cong zB_ne0))
            | (rw [if_neg (fun z => by first | exact h3 z.1 | exact (zB_eq0.mp h11) z.2)]
               first
                 | (rw [if_pos (show w = 11 ∧ n = 0 from And.intro h31 h35)]; exact congrArg (fun z => some (Value.int z)) h2.2)
                 | (rw [if_neg (fun z => by first | exact h31 z.1 | exact h35 z.2)]
                    first
                      | rw [if_pos hN]
                      | rw [if_neg (zB_eq0.mp h49)]))
    · have g1 := zB_ne0.mp h11
      obtain ⟨q, hq, rfl, eq⟩ := zix g1.1 g1.2 (by omega)
      refine zb M_of_s14 rfl ?_
      refine zcallV M_of_d21 k11_164 (by omega) (o_isKept ho _ (by omega)) rfl rfl rfl (Nat.le_of_ble_eq_true rfl) ?_
      rintro _ μx ⟨rfl, hx⟩
      rw [hx]
      clear hx μx
      refine zcallV M_of_d24 k11_167 (by omega) (c_M_one _) rfl rfl rfl (Nat.le_of_ble_eq_true rfl) ?_
      rintro _ μx ⟨rfl, hx⟩
      rw [hx]
      clear hx μx
      refine z_ret M_of_d27 rfl ?_
      refine ⟨?_, hS, onlyM.rf⟩
      unfold opOf
      first
        | (rw [if_pos (show w = 10 ∧ isV S.1 (nI q) from And.intro h3 g1), eq, ← h2.2]; exact congrArg (fun z => some (Value.int z)) (zB_cong zB_ne0))
        | (rw [if_neg (fun z => by first | exact h3 z.1 | exact (zB_eq0.mp h11) z.2)]
           first
             | (rw [if_pos (show w = 11 ∧ n = 0 from And.intro h31 h35)]; exact congrArg (fun z => some (Value.int z)) h2.2)
             | (rw [if_neg (fun z => by first | exact h31 z.1 | exact h35 z.2)]
                first
                  | rw [if_pos hN]
                  | rw [if_neg (zB_eq0.mp h49)]))

set_option maxRecDepth 100000 in
set_option maxHeartbeats 4000000 in
theorem s_M_feed {g : zG} {d : Nat} {S : zS} {μ : zMem} {b : Int32} (hd : 1 ≤ d) (hS : mS S μ) : zM g d M_feed [.ref 0, .int b] μ (pO mS onlyM (opFeed S b) μ) := by
  refine zM_of (by decide +kernel) rfl rfl (Nat.le_of_ble_eq_true rfl) rfl ?_
  obtain ⟨ho, h2, hT, hC, hD, hI, hA, hH⟩ := hS
  have hS : mS S μ := ⟨ho, h2, hT, hC, hD, hI, hA, hH⟩
  have hb := ho.b
  have hv := ho.v
  have h6 := ho.b6
  have h12 := ho.v12
  have hz : zq sM μ μ := zq.rf
  have eT : μ.1 0 4 = nI (tT S).1 := hT.1
  have hle : (tT S).1 ≤ 120 := hT.2.1
  have e32 : μ.1 32 = (tT S).2 := hT.2.2
  refine zb M_feed_s0 rfl ?_
  refine zcallV M_feed_d6 k11_112 (by omega) (c_M_isIn _ _ _) rfl rfl rfl (Nat.le_of_ble_eq_true rfl) ?_
  rintro _ μx ⟨rfl, hx⟩
  rw [hx]
  clear hx μx
  refine z_ne M_feed_d9 (tgt := 14) rfl (fun h9 => ?_) (fun h9 => ?_)
  · refine zb M_feed_s14 rfl ?_
    refine z_cne M_feed_d20 (tgt := 26) rfl (fun h20 => ?_) (fun h20 => ?_)
    · have h0 : ¬ (tT S).1 = 120 := fun z => h20 (by rw [eT, z]; rfl)
      have hvm : vp_in (μ.1 0 4) 120 := by rw [eT]; exact vp_in_nI (by omega) (by omega)
      refine zb1 M_feed_s26 rfl hvm ?_
      refine z_ret M_feed_d50 rfl ?_
      unfold opFeed
      first
        | (rw [if_pos (zB_eq0.mp h9)]; exact ⟨rfl, hS, onlyM.rf⟩)
        | (rw [if_neg (fun z => z (zB_ne0.mp h9)), if_pos ((nI_eq (a := (tT S).1) (b := 120) (by omega) (by omega)).mp (eT.symm.trans (show μ.1 0 4 = nI 120 from h20)))]; exact ⟨rfl, hS, onlyM.rf⟩)
        | (rw [if_neg (fun z => z (zB_ne0.mp h9)), if_neg h0]
           simp (disch := decide) only [zpI_ne, zpI_at, reduceIte, eT, nI_clamp (show (tT S).1 < 2 ^ 31 by omega), nI_1]
           have ho1 : oM S.1 (zpI (zpI μ 32 (tT S).1 b) 0 4 (nI ((tT S).1 + 1))) := ⟨ho.1, by rw [← ho.2]; rfl⟩
           refine ⟨rfl, ⟨ho1, h2, ⟨rfl, ?_, ?_⟩, hC, hD, hI, hA, hH⟩, (by repeat (first | exact onlyM.rf | refine onlyM.put rfl ?_))⟩
           · show (tT S).1 + 1 ≤ 120
             omega
           · show _ = fu (tT S).2 (tT S).1 b
             rw [← e32]
             rfl)
    · refine zb M_feed_s23 rfl ?_
      refine z_ret M_feed_d25 rfl ?_
      unfold opFeed
      first
        | (rw [if_pos (zB_eq0.mp h9)]; exact ⟨rfl, hS, onlyM.rf⟩)
        | (rw [if_neg (fun z => z (zB_ne0.mp h9)), if_pos ((nI_eq (a := (tT S).1) (b := 120) (by omega) (by omega)).mp (eT.symm.trans (show μ.1 0 4 = nI 120 from h20)))]; exact ⟨rfl, hS, onlyM.rf⟩)
        | (rw [if_neg (fun z => z (zB_ne0.mp h9)), if_neg h0]
           simp (disch := decide) only [zpI_ne, zpI_at, reduceIte, eT, nI_clamp (show (tT S).1 < 2 ^ 31 by omega), nI_1]
           have ho1 : oM S.1 (zpI (zpI μ 32 (tT S).1 b) 0 4 (nI ((tT S).1 + 1))) := ⟨ho.1, by rw [← ho.2]; rfl⟩
           refine ⟨rfl, ⟨ho1, h2, ⟨rfl, ?_, ?_⟩, hC, hD, hI, hA, hH⟩, (by repeat (first | exact onlyM.rf | refine onlyM.put rfl ?_))⟩
           · show (tT S).1 + 1 ≤ 120
             omega
           · show _ = fu (tT S).2 (tT S).1 b
             rw [← e32]
             rfl)
  · refine zb M_feed_s12 rfl ?_
    refine z_ret M_feed_d13 rfl ?_
    unfold opFeed
    first
      | (rw [if_pos (zB_eq0.mp h9)]; exact ⟨rfl, hS, onlyM.rf⟩)
      | (rw [if_neg (fun z => z (zB_ne0.mp h9)), if_pos ((nI_eq (a := (tT S).1) (b := 120) (by omega) (by omega)).mp (eT.symm.trans (show μ.1 0 4 = nI 120 from h20)))]; exact ⟨rfl, hS, onlyM.rf⟩)
      | (rw [if_neg (fun z => z (zB_ne0.mp h9)), if_neg h0]
         simp (disch := decide) only [zpI_ne, zpI_at, reduceIte, eT, nI_clamp (show (tT S).1 < 2 ^ 31 by omega), nI_1]
         have ho1 : oM S.1 (zpI (zpI μ 32 (tT S).1 b) 0 4 (nI ((tT S).1 + 1))) := ⟨ho.1, by rw [← ho.2]; rfl⟩
         refine ⟨rfl, ⟨ho1, h2, ⟨rfl, ?_, ?_⟩, hC, hD, hI, hA, hH⟩, (by repeat (first | exact onlyM.rf | refine onlyM.put rfl ?_))⟩
         · show (tT S).1 + 1 ≤ 120
           omega
         · show _ = fu (tT S).2 (tT S).1 b
           rw [← e32]
           rfl)
