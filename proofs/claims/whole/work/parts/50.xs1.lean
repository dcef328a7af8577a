/-! what the class stands for; its bells, vows, numbers, deeds -/
def x2 (p : Int32 × Int32) (μ : zMem) : Prop := μ.1 2 9 = p.1 ∧ μ.1 7 2 = p.2
def xT (t : Nat × (Nat → Int32)) (μ : zMem) : Prop := μ.1 3 1 = nI t.1 ∧ t.1 ≤ 120 ∧ μ.1 61 = t.2
def xC (c : zCh) (μ : zMem) : Prop := (μ.1 8 4 = nI c.1.1 ∧ μ.1 8 5 = nI c.1.2 ∧ c.1.1 ≤ c.1.2 ∧ c.1.2 ≤ 40) ∧ μ.1 79 = c.2.1 ∧ μ.1 80 = c.2.2.1 ∧ μ.1 81 = c.2.2.2.1 ∧ μ.1 82 = c.2.2.2.2
def xD (q : zD4) (μ : zMem) : Prop := μ.1 75 0 = q.1 ∧ μ.1 75 1 = q.2.1 ∧ μ.1 75 2 = q.2.2.1 ∧ μ.1 75 3 = q.2.2.2
def xI (m : zIm) (μ : zMem) : Prop := (m.1 = -1 ∧ μ.1 7 3 = 0) ∨ (μ.1 7 3 = 1 ∧ ∃ q : Nat, q ≤ 12 ∧ m.1 = nI q ∧ μ.1 7 8 = nI q ∧ (∀ v, v < q → μ.1 77 v = m.2.1 v ∧ μ.1 78 v = m.2.2.1 v) ∧ μ.1 7 7 = m.2.2.2.1 ∧ μ.1 76 0 = m.2.2.2.2.1 ∧ μ.1 76 1 = m.2.2.2.2.2.1 ∧ μ.1 76 2 = m.2.2.2.2.2.2.1 ∧ μ.1 76 3 = m.2.2.2.2.2.2.2)
def xA (a : zAc) (μ : zMem) : Prop := μ.1 9 2 = nI a.1.1 ∧ a.1.1 ≤ 50 ∧ μ.1 83 = a.1.2 ∧ μ.1 9 3 = a.2.1 ∧ ∀ i, i < 24 → μ.1 84 i = a.2.2 i
def xH (h : zSh) (μ : zMem) : Prop := ∀ s, s < 6 → ((h.1 s = 0 ∧ μ.1 (13 + s) 1 = -1 ∧ μ.1 (13 + s) 2 = -1) ∨ (h.1 s = 1 ∧ μ.1 (13 + s) 1 = h.2.2.2.1 s ∧ μ.1 (13 + s) 2 = -1) ∨ (h.1 s = 2 ∧ μ.1 (13 + s) 1 = -1 ∧ μ.1 (13 + s) 2 = h.2.1 s ∧ μ.1 (13 + s) 3 = h.2.2.1 s)) ∧ ∀ i, i < 60 → μ.2.1 (19 + s) i = h.2.2.2.2 s i
def xS (S : zS) (μ : zMem) : Prop := oX S.1 μ ∧ x2 S.2.1 μ ∧ xT S.2.2.1 μ ∧ xC S.2.2.2.1 μ ∧ xD S.2.2.2.2.1 μ ∧ xI S.2.2.2.2.2.1 μ ∧ xA S.2.2.2.2.2.2.1 μ ∧ xH S.2.2.2.2.2.2.2 μ
def onlyX (μ μ' : zMem) : Prop := ∀ c, isMc c = true → μ'.1 c = μ.1 c ∧ μ'.2.1 c = μ.2.1 c
theorem onlyX.rf {μ : zMem} : onlyX μ μ := fun _ _ => ⟨rfl, rfl⟩
theorem onlyX.tr {a b c : zMem} (h : onlyX a b) (h2 : onlyX b c) : onlyX a c := fun x hx => ⟨(h2 x hx).1.trans (h x hx).1, (h2 x hx).2.trans (h x hx).2⟩
theorem onlyX.put {μ a : zMem} {c k : Nat} {x : Int32} (hc : isMc c = false) (h : onlyX μ a) : onlyX μ (zpI a c k x) := by
  refine h.tr (fun q hq => ⟨zpI_ne (fun e => by rw [e, hc] at hq; cases hq), rfl⟩)
theorem onlyX.putA {μ a : zMem} {c : Nat} {r : Nat → Int32} (hc : isMc c = false) (h : onlyX μ a) : onlyX μ (zpA a c r) := by
  refine h.tr (fun q hq => ⟨?_, rfl⟩)
  have : q ≠ c := fun e => by rw [e, hc] at hq; cases hq
  simp [zpA, zuA, this]
theorem onlyX_zq {μ a : zMem} (h : zq sX μ a) : onlyX μ a := by
  refine fun q hq => ⟨funext fun k => h.1 q k ?_, by rw [h.2]⟩
  unfold isMc at hq
  have hlt : q = 0 ∨ (25 ≤ q ∧ q ≤ 53) := by
    simp only [Bool.or_eq_true, Bool.and_eq_true, beq_iff_eq, Nat.ble_eq] at hq
    exact hq
  unfold sX
  have h1 : (Nat.ble 62 q && Nat.ble q 74) = false := by
    rw [Bool.and_eq_false_iff]
    left
    rcases Bool.eq_false_or_eq_true (Nat.ble 62 q) with z | z
    · rw [Nat.ble_eq] at z; omega
    · exact z
  rw [h1]
  rcases hlt with rfl | ⟨a1, a2⟩
  · rfl
  · simp [show q ≠ 87 by omega, show q ≠ 88 by omega, show q ≠ 91 by omega, show q ≠ 92 by omega, show q ≠ 5 by omega]
theorem xS.q {S : zS} {μ μ' : zMem} (h : xS S μ) (hz : zq sX μ μ') : xS S μ' := by
  obtain ⟨h1, h2, h3, h4, h5, h6, h7, h8⟩ := h
  have r : ∀ c, (∀ k, sX c k = false) → μ'.1 c = μ.1 c := fun c hc => funext fun k => hz.1 c k (hc k)
  refine ⟨h1.q hz, ?_, ?_, ?_, ?_, ?_, ?_, ?_⟩
  · unfold x2 at h2 ⊢; rw [hz.1 2 9 rfl, hz.1 7 2 rfl]; exact h2
  · unfold xT at h3 ⊢; rw [hz.1 3 1 rfl, r 61 (fun _ => rfl)]; exact h3
  · unfold xC at h4 ⊢; rw [hz.1 8 4 rfl, hz.1 8 5 rfl, r 79 (fun _ => rfl), r 80 (fun _ => rfl), r 81 (fun _ => rfl), r 82 (fun _ => rfl)]; exact h4
  · unfold xD at h5 ⊢; rw [r 75 (fun _ => rfl)]; exact h5
  · unfold xI at h6 ⊢; rw [hz.1 7 3 rfl, hz.1 7 8 rfl, hz.1 7 7 rfl, r 76 (fun _ => rfl), r 77 (fun _ => rfl), r 78 (fun _ => rfl)]; exact h6
  · unfold xA at h7 ⊢; rw [hz.1 9 2 rfl, hz.1 9 3 rfl, r 83 (fun _ => rfl), r 84 (fun _ => rfl)]; exact h7
  · unfold xH at h8 ⊢
    intro s hs
    have e : μ'.1 (13 + s) = μ.1 (13 + s) := by
      rcases (show s = 0 ∨ s = 1 ∨ s = 2 ∨ s = 3 ∨ s = 4 ∨ s = 5 by omega) with rfl | rfl | rfl | rfl | rfl | rfl <;> exact r _ (fun _ => rfl)
    rw [e, hz.2]
    exact h8 s hs
theorem xH.put {h : zSh} {μ : zMem} {c k : Nat} {x : Int32} (hc : ¬ (13 ≤ c ∧ c ≤ 18)) (hh : xH h μ) : xH h (zpI μ c k x) := fun s hs => by
  have e : (zpI μ c k x).1 (13 + s) = μ.1 (13 + s) := zpI_ne (by omega)
  rw [e]
  exact hh s hs
theorem xH.putA {h : zSh} {μ : zMem} {c : Nat} {r : Nat → Int32} (hc : ¬ (13 ≤ c ∧ c ≤ 18)) (hh : xH h μ) : xH h (zpA μ c r) := fun s hs => by
  have e : (zpA μ c r).1 (13 + s) = μ.1 (13 + s) := by simp [zpA, zuA, show 13 + s ≠ c by omega]
  rw [e]
  exact hh s hs
theorem pO_X {g : zG} {d : Nat} {Y : zY} {av : List Value} {μ : zMem} {S : zS} {R : Int32} (hS : xS S μ) (h : zM g d Y av μ (fun r μ' => r = some (.int R) ∧ zq sX μ μ')) : zM g d Y av μ (pO xS onlyX (R, S) μ) := h.mono (fun _ _ q => ⟨q.1, hS.q q.2, onlyX_zq q.2⟩)
theorem oX.bell {F : zF} {μ : zMem} (h : oX F μ) (hB : fB F < 6) (t : Int32) : oX (fnB F t) (zpI (zpI (zpI μ 54 (fB F) t) 55 (fB F) 12) 2 7 (nI (fB F + 1))) := by
  obtain ⟨⟨h1, h2, h3, h4⟩, ⟨r1, r2, r3, r4, r5, r6, r7⟩, hl⟩ := h
  refine ⟨⟨rfl, hB, h3, h4⟩, ⟨?_, ?_, r3, r4, r5, r6, r7⟩, hl⟩
  · show _ = fu (ftone F) (fB F) t
    rw [← r1]; rfl
  · show _ = fu (ftune F) (fB F) 12
    rw [← r2]; rfl
theorem oX.vow {F : zF} {μ : zMem} (h : oX F μ) (hV : fV F < 12) (b w p : Int32) : oX (fnV F b w p) (zpI (zpI (zpI (zpI (zpI (zpI μ 56 (fV F) b) 57 (fV F) w) 58 (fV F) p) 59 (fV F) 999) 60 (fV F) 999) 2 8 (nI (fV F + 1))) := by
  obtain ⟨⟨h1, h2, h3, h4⟩, ⟨r1, r2, r3, r4, r5, r6, r7⟩, hl⟩ := h
  refine ⟨⟨h1, h2, rfl, hV⟩, ⟨r1, r2, ?_, ?_, ?_, ?_, ?_⟩, hl⟩
  · show _ = fu (fbell F) (fV F) b
    rw [← r3]; rfl
  · show _ = fu (fwt F) (fV F) w
    rw [← r4]; rfl
  · show _ = fu (fby F) (fV F) p
    rw [← r5]; rfl
  · show _ = fu (fbr F) (fV F) 999
    rw [← r6]; rfl
  · show _ = fu (fag F) (fV F) 999
    rw [← r7]; rfl
theorem oX.p59 {F : zF} {μ : zMem} {v : Nat} {x : Int32} (h : oX F μ) : oX (fsbr F v x) (zpI μ 59 v x) := by
  obtain ⟨h1, ⟨r1, r2, r3, r4, r5, r6, r7⟩, hl⟩ := h
  refine ⟨h1, ⟨r1, r2, r3, r4, r5, ?_, r7⟩, hl⟩
  show _ = fu (fbr F) v x
  rw [← r6]; rfl
theorem oX.p60 {F : zF} {μ : zMem} {v : Nat} {x : Int32} (h : oX F μ) : oX (fsag F v x) (zpI μ 60 v x) := by
  obtain ⟨h1, ⟨r1, r2, r3, r4, r5, r6, r7⟩, hl⟩ := h
  refine ⟨h1, ⟨r1, r2, r3, r4, r5, r6, ?_⟩, hl⟩
  show _ = fu (fag F) v x
  rw [← r7]; rfl

theorem oX.w0 {F : zF} {μ : zMem} {q : Nat} {x : Int32} (h : oX F μ) : oX (wrF F q 0 x) (zpI μ 54 q x) := by
  obtain ⟨h1, ⟨r1, r2, r3, r4, r5, r6, r7⟩, hl⟩ := h
  refine ⟨h1, ⟨?_, r2, r3, r4, r5, r6, r7⟩, hl⟩
  show _ = fu (ftone F) q x
  rw [← r1]; rfl

theorem oX.w1 {F : zF} {μ : zMem} {q : Nat} {x : Int32} (h : oX F μ) : oX (wrF F q 1 x) (zpI μ 55 q x) := by
  obtain ⟨h1, ⟨r1, r2, r3, r4, r5, r6, r7⟩, hl⟩ := h
  refine ⟨h1, ⟨r1, ?_, r3, r4, r5, r6, r7⟩, hl⟩
  show _ = fu (ftune F) q x
  rw [← r2]; rfl

theorem oX.w2 {F : zF} {μ : zMem} {q : Nat} {x : Int32} (h : oX F μ) : oX (wrF F q 2 x) (zpI μ 56 q x) := by
  obtain ⟨h1, ⟨r1, r2, r3, r4, r5, r6, r7⟩, hl⟩ := h
  refine ⟨h1, ⟨r1, r2, ?_, r4, r5, r6, r7⟩, hl⟩
  show _ = fu (fbell F) q x
  rw [← r3]; rfl

theorem oX.w3 {F : zF} {μ : zMem} {q : Nat} {x : Int32} (h : oX F μ) : oX (wrF F q 3 x) (zpI μ 57 q x) := by
  obtain ⟨h1, ⟨r1, r2, r3, r4, r5, r6, r7⟩, hl⟩ := h
  refine ⟨h1, ⟨r1, r2, r3, ?_, r5, r6, r7⟩, hl⟩
  show _ = fu (fwt F) q x
  rw [← r4]; rfl

theorem oX.w4 {F : zF} {μ : zMem} {q : Nat} {x : Int32} (h : oX F μ) : oX (wrF F q 4 x) (zpI μ 58 q x) := by
  obtain ⟨h1, ⟨r1, r2, r3, r4, r5, r6, r7⟩, hl⟩ := h
  refine ⟨h1, ⟨r1, r2, r3, r4, ?_, r6, r7⟩, hl⟩
  show _ = fu (fby F) q x
  rw [← r5]; rfl

theorem oX.w5 {F : zF} {μ : zMem} {q : Nat} {x : Int32} (h : oX F μ) : oX (wrF F q 5 x) (zpI μ 59 q x) := by
  obtain ⟨h1, ⟨r1, r2, r3, r4, r5, r6, r7⟩, hl⟩ := h
  refine ⟨h1, ⟨r1, r2, r3, r4, r5, ?_, r7⟩, hl⟩
  show _ = fu (fbr F) q x
  rw [← r6]; rfl

theorem oX.w6 {F : zF} {μ : zMem} {q : Nat} {x : Int32} (h : oX F μ) : oX (wrF F q 6 x) (zpI μ 60 q x) := by
  obtain ⟨h1, ⟨r1, r2, r3, r4, r5, r6, r7⟩, hl⟩ := h
  refine ⟨h1, ⟨r1, r2, r3, r4, r5, r6, ?_⟩, hl⟩
  show _ = fu (fag F) q x
  rw [← r7]; rfl

set_option maxRecDepth 100000 in
set_option maxHeartbeats 4000000 in
theorem xs_addBell {g : zG} {d : Nat} {S : zS} {μ : zMem} {t : Int32} (hB : fB S.1 < 6) (hS : xS S μ) : zM g d F_addBell [.ref 2, .int t] μ (pO xS onlyX (nI (fB S.1), sF S (fnB S.1 t)) μ) := by
  refine zM_of (by decide +kernel) rfl rfl (Nat.le_of_ble_eq_true rfl) rfl ?_
  obtain ⟨ho, h2, hT, hC, hD, hI, hA, hH⟩ := hS
  have hS : xS S μ := ⟨ho, h2, hT, hC, hD, hI, hA, hH⟩
  have hb := ho.b
  have hv := ho.v
  have hB6 := ho.b6
  have hV12 := ho.v12
  have hz : zq sX μ μ := zq.rf
  have hvb : vp_in (μ.1 2 7) 6 := by rw [hb]; exact vp_in_nI (by omega) (by omega)
  refine zb F_addBell_s0 rfl ?_
  refine z_clt F_addBell_d6 (tgt := 12) rfl (fun h6 => ?_) (fun h6 => absurd (show μ.1 2 7 < 6 by rw [hb]; exact nI_lt (b := 6) hB (by omega)) h6)
  refine zb2 F_addBell_s12 rfl hvb hvb ?_
  refine z_ret F_addBell_d44 rfl ?_
  simp (disch := decide) only [zpI_ne, hb, hv, nI_clamp (show fB S.1 < 2 ^ 31 by omega), nI_clamp (show fV S.1 < 2 ^ 31 by omega), nI_1]
  exact ⟨rfl, ⟨ho.bell hB t, h2, hT, hC, hD, hI, hA, (by repeat (first | exact hH | refine xH.put (by decide) ?_))⟩, (by repeat (first | exact onlyX.rf | refine onlyX.put rfl ?_))⟩

set_option maxRecDepth 100000 in
set_option maxHeartbeats 4000000 in
theorem xs_addVow {g : zG} {d : Nat} {S : zS} {μ : zMem} {b w p : Int32} (hV : fV S.1 < 12) (hS : xS S μ) : zM g d F_addVow [.ref 2, .int b, .int w, .int p] μ (pO xS onlyX (nI (fV S.1), sF S (fnV S.1 b w p)) μ) := by
  refine zM_of (by decide +kernel) rfl rfl (Nat.le_of_ble_eq_true rfl) rfl ?_
  obtain ⟨ho, h2, hT, hC, hD, hI, hA, hH⟩ := hS
  have hS : xS S μ := ⟨ho, h2, hT, hC, hD, hI, hA, hH⟩
  have hb := ho.b
  have hv := ho.v
  have hB6 := ho.b6
  have hV12 := ho.v12
  have hz : zq sX μ μ := zq.rf
  have hvb : vp_in (μ.1 2 8) 12 := by rw [hv]; exact vp_in_nI (by omega) (by omega)
  refine zb F_addVow_s0 rfl ?_
  refine z_clt F_addVow_d6 (tgt := 12) rfl (fun h6 => ?_) (fun h6 => absurd (show μ.1 2 8 < 12 by rw [hv]; exact nI_lt (b := 12) hV (by omega)) h6)
  refine zb5 F_addVow_s12 rfl hvb hvb hvb hvb hvb ?_
  refine z_ret F_addVow_d77 rfl ?_
  simp (disch := decide) only [zpI_ne, hb, hv, nI_clamp (show fB S.1 < 2 ^ 31 by omega), nI_clamp (show fV S.1 < 2 ^ 31 by omega), nI_1]
  exact ⟨rfl, ⟨ho.vow hV b w p, h2, hT, hC, hD, hI, hA, (by repeat (first | exact hH | refine xH.put (by decide) ?_))⟩, (by repeat (first | exact onlyX.rf | refine onlyX.put rfl ?_))⟩

set_option maxRecDepth 100000 in
set_option maxHeartbeats 4000000 in
theorem xs_bell {g : zG} {d : Nat} {S : zS} {μ : zMem} {t : Int32} (hd : 1 ≤ d) (hS : xS S μ) : zM g d X_bell [.ref 1, .int t] μ (pO xS onlyX (opBell S t) μ) := by
  refine zM_of (by decide +kernel) rfl rfl (Nat.le_of_ble_eq_true rfl) rfl ?_
  obtain ⟨ho, h2, hT, hC, hD, hI, hA, hH⟩ := hS
  have hS : xS S μ := ⟨ho, h2, hT, hC, hD, hI, hA, hH⟩
  have hb := ho.b
  have hv := ho.v
  have hB6 := ho.b6
  have hV12 := ho.v12
  have hz : zq sX μ μ := zq.rf
  refine zb X_bell_s0 rfl ?_
  refine z_lt X_bell_d1 (tgt := 10) rfl (fun h1 => ?_) (fun h1 => ?_)
  · refine zb X_bell_s10 rfl ?_
    refine z_ret X_bell_d11 rfl ?_
    unfold opBell
    first
      | (rw [if_pos (fun z => absurd h1 (Int32.not_lt.mpr z.1))]; exact ⟨rfl, hS, onlyX.rf⟩)
      | (have hb6 : fB S.1 = 6 := by
           rw [hb] at h21
           have := (nI_leI (a := 6) (by omega) (by omega)).mp h21
           omega
         rw [if_neg (fun z => z ⟨Int32.not_lt.mp h1, h7⟩), if_pos hb6]; exact ⟨rfl, hS, onlyX.rf⟩)
      | (rw [if_neg (fun z => z ⟨Int32.not_lt.mp h1, h7⟩), if_neg (show ¬ fB S.1 = 6 by omega)]; exact ⟨rfl, hS1, hO1⟩)
      | (rw [if_pos (fun z => h7 z.2)]; exact ⟨rfl, hS, onlyX.rf⟩)
  · refine zb X_bell_s4 rfl ?_
    refine z_cle X_bell_d7 (tgt := 12) rfl (fun h7 => ?_) (fun h7 => ?_)
    · refine zb X_bell_s12 rfl ?_
      refine z_cge X_bell_d21 (tgt := 35) rfl (fun h21 => ?_) (fun h21 => ?_)
      · refine zb X_bell_s35 rfl ?_
        refine z_ret X_bell_d37 rfl ?_
        unfold opBell
        first
          | (rw [if_pos (fun z => absurd h1 (Int32.not_lt.mpr z.1))]; exact ⟨rfl, hS, onlyX.rf⟩)
          | (have hb6 : fB S.1 = 6 := by
               rw [hb] at h21
               have := (nI_leI (a := 6) (by omega) (by omega)).mp h21
               omega
             rw [if_neg (fun z => z ⟨Int32.not_lt.mp h1, h7⟩), if_pos hb6]; exact ⟨rfl, hS, onlyX.rf⟩)
          | (rw [if_neg (fun z => z ⟨Int32.not_lt.mp h1, h7⟩), if_neg (show ¬ fB S.1 = 6 by omega)]; exact ⟨rfl, hS1, hO1⟩)
          | (rw [if_pos (fun z => h7 z.2)]; exact ⟨rfl, hS, onlyX.rf⟩)
      · have hB : fB S.1 < 6 := by rw [hb] at h21; exact (nI_ltI (b := 6) (by omega) (by omega)).mp (Int32.not_le.mp h21)
        refine zb X_bell_s24 rfl ?_
        refine zcallV X_bell_d29 k10_78 (by omega) (xs_addBell hB hS) rfl rfl rfl (Nat.le_of_ble_eq_true rfl) ?_
        rintro _ μ1 ⟨rfl, hS1, hO1⟩
        refine zb X_bell_s32 rfl ?_
        refine z_ret X_bell_d37 rfl ?_
        unfold opBell
        first
          | (rw [if_pos (fun z => absurd h1 (Int32.not_lt.mpr z.1))]; exact ⟨rfl, hS, onlyX.rf⟩)
          | (have hb6 : fB S.1 = 6 := by
               rw [hb] at h21
               have := (nI_leI (a := 6) (by omega) (by omega)).mp h21
               omega
             rw [if_neg (fun z => z ⟨Int32.not_lt.mp h1, h7⟩), if_pos hb6]; exact ⟨rfl, hS, onlyX.rf⟩)
          | (rw [if_neg (fun z => z ⟨Int32.not_lt.mp h1, h7⟩), if_neg (show ¬ fB S.1 = 6 by omega)]; exact ⟨rfl, hS1, hO1⟩)
          | (rw [if_pos (fun z => h7 z.2)]; exact ⟨rfl, hS, onlyX.rf⟩)
    · refine zb X_bell_s10 rfl ?_
      refine z_ret X_bell_d11 rfl ?_
      unfold opBell
      first
        | (rw [if_pos (fun z => absurd h1 (Int32.not_lt.mpr z.1))]; exact ⟨rfl, hS, onlyX.rf⟩)
        | (have hb6 : fB S.1 = 6 := by
             rw [hb] at h21
             have := (nI_leI (a := 6) (by omega) (by omega)).mp h21
             omega
           rw [if_neg (fun z => z ⟨Int32.not_lt.mp h1, h7⟩), if_pos hb6]; exact ⟨rfl, hS, onlyX.rf⟩)
        | (rw [if_neg (fun z => z ⟨Int32.not_lt.mp h1, h7⟩), if_neg (show ¬ fB S.1 = 6 by omega)]; exact ⟨rfl, hS1, hO1⟩)
        | (rw [if_pos (fun z => h7 z.2)]; exact ⟨rfl, hS, onlyX.rf⟩)

set_option maxRecDepth 100000 in
set_option maxHeartbeats 4000000 in
theorem xs_vow {g : zG} {d : Nat} {S : zS} {μ : zMem} {b w : Int32} (hd : 2 ≤ d) (hS : xS S μ) : zM g d X_vow [.ref 1, .int b, .int w] μ (pO xS onlyX (opVow S b w) μ) := by
  refine zM_of (by decide +kernel) rfl rfl (Nat.le_of_ble_eq_true rfl) rfl ?_
  obtain ⟨ho, h2, hT, hC, hD, hI, hA, hH⟩ := hS
  have hS : xS S μ := ⟨ho, h2, hT, hC, hD, hI, hA, hH⟩
  have hb := ho.b
  have hv := ho.v
  have hB6 := ho.b6
  have hV12 := ho.v12
  have hz : zq sX μ μ := zq.rf
  refine zb X_vow_s0 rfl ?_
  refine zcallV X_vow_d7 k10_82 (by omega) (x_isVow _ _ _ (by omega) ho) rfl rfl rfl (Nat.le_of_ble_eq_true rfl) ?_
  rintro _ μx ⟨rfl, hx⟩
  rw [hx]
  clear hx μx
  refine z_ne X_vow_d10 (tgt := 15) rfl (fun h10 => ?_) (fun h10 => ?_)
  · have g1 : isB S.1 b ∧ (1 ≤ w ∧ w ≤ 9) ∧ (0 ≤ (0 : Int32) ∧ (0 : Int32) ≤ 5) := zB_ne0.mp h10
    refine zb X_vow_s15 rfl ?_
    refine z_cge X_vow_d24 (tgt := 40) rfl (fun h24 => ?_) (fun h24 => ?_)
    · refine zb X_vow_s40 rfl ?_
      refine z_ret X_vow_d42 rfl ?_
      unfold opVow
      first
        | (have n1 : ¬ (isB S.1 b ∧ (1 ≤ w ∧ w ≤ 9) ∧ (0 ≤ (0 : Int32) ∧ (0 : Int32) ≤ 5)) := zB_eq0.mp h10
           rw [if_pos (fun z => n1 ⟨z.1, z.2, by decide, by decide⟩)]; exact ⟨rfl, hS, onlyX.rf⟩)
        | (have hb6 : fV S.1 = 12 := by
             rw [hv] at h24
             have := (nI_leI (a := 12) (by omega) (by omega)).mp h24
             omega
           rw [if_neg (fun z => z ⟨g1.1, g1.2.1⟩), if_pos hb6]; exact ⟨rfl, hS, onlyX.rf⟩)
        | (rw [if_neg (fun z => z ⟨g1.1, g1.2.1⟩), if_neg (show ¬ fV S.1 = 12 by omega)]; exact ⟨rfl, hS1, hO1⟩)
    · have hV : fV S.1 < 12 := by rw [hv] at h24; exact (nI_ltI (b := 12) (by omega) (by omega)).mp (Int32.not_le.mp h24)
      refine zb X_vow_s27 rfl ?_
      refine zcallV X_vow_d34 k10_89 (by omega) (xs_addVow hV hS) rfl rfl rfl (Nat.le_of_ble_eq_true rfl) ?_
      rintro _ μ1 ⟨rfl, hS1, hO1⟩
      refine zb X_vow_s37 rfl ?_
      refine z_ret X_vow_d42 rfl ?_
      unfold opVow
      first
        | (have n1 : ¬ (isB S.1 b ∧ (1 ≤ w ∧ w ≤ 9) ∧ (0 ≤ (0 : Int32) ∧ (0 : Int32) ≤ 5)) := zB_eq0.mp h10
           rw [if_pos (fun z => n1 ⟨z.1, z.2, by decide, by decide⟩)]; exact ⟨rfl, hS, onlyX.rf⟩)
        | (have hb6 : fV S.1 = 12 := by
             rw [hv] at h24
             have := (nI_leI (a := 12) (by omega) (by omega)).mp h24
             omega
           rw [if_neg (fun z => z ⟨g1.1, g1.2.1⟩), if_pos hb6]; exact ⟨rfl, hS, onlyX.rf⟩)
        | (rw [if_neg (fun z => z ⟨g1.1, g1.2.1⟩), if_neg (show ¬ fV S.1 = 12 by omega)]; exact ⟨rfl, hS1, hO1⟩)
  · refine zb X_vow_s13 rfl ?_
    refine z_ret X_vow_d14 rfl ?_
    unfold opVow
    first
      | (have n1 : ¬ (isB S.1 b ∧ (1 ≤ w ∧ w ≤ 9) ∧ (0 ≤ (0 : Int32) ∧ (0 : Int32) ≤ 5)) := zB_eq0.mp h10
         rw [if_pos (fun z => n1 ⟨z.1, z.2, by decide, by decide⟩)]; exact ⟨rfl, hS, onlyX.rf⟩)
      | (have hb6 : fV S.1 = 12 := by
           rw [hv] at h24
           have := (nI_leI (a := 12) (by omega) (by omega)).mp h24
           omega
         rw [if_neg (fun z => z ⟨g1.1, g1.2.1⟩), if_pos hb6]; exact ⟨rfl, hS, onlyX.rf⟩)
      | (rw [if_neg (fun z => z ⟨g1.1, g1.2.1⟩), if_neg (show ¬ fV S.1 = 12 by omega)]; exact ⟨rfl, hS1, hO1⟩)
