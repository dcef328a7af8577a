/-! the class: shelves kept, laid, put, read -/
def xH1 (h : zSh) (s : Nat) (μ : zMem) : Prop := ((h.1 s = 0 ∧ μ.1 (13 + s) 1 = -1 ∧ μ.1 (13 + s) 2 = -1) ∨ (h.1 s = 1 ∧ μ.1 (13 + s) 1 = h.2.2.2.1 s ∧ μ.1 (13 + s) 2 = -1) ∨ (h.1 s = 2 ∧ μ.1 (13 + s) 1 = -1 ∧ μ.1 (13 + s) 2 = h.2.1 s ∧ μ.1 (13 + s) 3 = h.2.2.1 s)) ∧ ∀ i, i < 60 → μ.2.1 (19 + s) i = h.2.2.2.2 s i
theorem xH.one {h : zSh} {μ : zMem} (hh : xH h μ) {s : Nat} (hs : s < 6) : xH1 h s μ := hh s hs
/-- one shelf changed -/
theorem xS.sh {S : zS} {μ μ' : zMem} {h' : zSh} {s : Nat} (h : xS S μ) (hs : s < 6) (e1 : ∀ c, ¬ c = 13 + s → μ'.1 c = μ.1 c) (e2 : μ'.2.2 = μ.2.2) (e3 : ∀ c, ¬ c = 19 + s → μ'.2.1 c = μ.2.1 c) (hn : ∀ s', s' < 6 → ¬ s' = s → xH1 (zH S) s' μ → xH1 h' s' μ) (h1 : xH1 h' s μ') : xS (sH S h') μ' ∧ onlyX μ μ' := by
  obtain ⟨ho, h2, hT, hC, hD, hI, hA, hH⟩ := h
  have r : ∀ c, ¬ (13 ≤ c ∧ c ≤ 18) → μ'.1 c = μ.1 c := fun c hc => e1 c (by omega)
  refine ⟨⟨?_, ?_, ?_, ?_, ?_, ?_, ?_, ?_⟩, ?_⟩
  · obtain ⟨⟨a1, a2, a3, a4⟩, ⟨r1, r2, r3, r4, r5, r6, r7⟩, hl⟩ := ho
    refine ⟨⟨?_, a2, ?_, a4⟩, ⟨?_, ?_, ?_, ?_, ?_, ?_, ?_⟩, ?_⟩
    · rw [r 2 (by decide)]; exact a1
    · rw [r 2 (by decide)]; exact a3
    · rw [r 54 (by decide)]; exact r1
    · rw [r 55 (by decide)]; exact r2
    · rw [r 56 (by decide)]; exact r3
    · rw [r 57 (by decide)]; exact r4
    · rw [r 58 (by decide)]; exact r5
    · rw [r 59 (by decide)]; exact r6
    · rw [r 60 (by decide)]; exact r7
    · unfold xL at hl ⊢
      rw [e2]
      rcases hl with ⟨a, c⟩ | ⟨a, c⟩
      · exact Or.inl ⟨a, c.q (by rw [r 10 (by decide)]) (r 85 (by decide)) (r 86 (by decide))⟩
      · exact Or.inr ⟨a, c.q (by rw [r 11 (by decide)]) (r 89 (by decide)) (r 90 (by decide))⟩
  · unfold x2 at h2 ⊢; rw [show (sH S h').2.1 = S.2.1 from rfl, r 2 (by decide), r 7 (by decide)]; exact h2
  · unfold xT at hT ⊢; rw [show (sH S h').2.2.1 = S.2.2.1 from rfl, r 3 (by decide), r 61 (by decide)]; exact hT
  · unfold xC at hC ⊢; rw [show (sH S h').2.2.2.1 = S.2.2.2.1 from rfl, r 8 (by decide), r 79 (by decide), r 80 (by decide), r 81 (by decide), r 82 (by decide)]; exact hC
  · unfold xD at hD ⊢; rw [show (sH S h').2.2.2.2.1 = S.2.2.2.2.1 from rfl, r 75 (by decide)]; exact hD
  · unfold xI at hI ⊢; rw [show (sH S h').2.2.2.2.2.1 = S.2.2.2.2.2.1 from rfl, r 7 (by decide), r 76 (by decide), r 77 (by decide), r 78 (by decide)]; exact hI
  · unfold xA at hA ⊢; rw [show (sH S h').2.2.2.2.2.2.1 = S.2.2.2.2.2.2.1 from rfl, r 9 (by decide), r 83 (by decide), r 84 (by decide)]; exact hA
  · intro s' hs'
    by_cases e : s' = s
    · subst e; exact h1
    · have q := hn s' hs' e (hH s' hs')
      unfold xH1 at q
      show xH1 h' s' μ'
      unfold xH1
      rw [e1 (13 + s') (by omega), e3 (19 + s') (by omega)]
      exact q
  · intro c hc
    have k : ¬ (13 ≤ c ∧ c ≤ 24) := fun z => by
      have : ∀ c : Nat, c < 25 → (13 ≤ c ∧ c ≤ 24) → isMc c = false := by decide
      rw [this c (by omega) z] at hc
      cases hc
    exact ⟨e1 c (by omega), e3 c (by omega)⟩
theorem xsh {S : zS} {μ : zMem} {s : Nat} (hS : xS S μ) (hok : okH S) (hs : s < 6) : (hHeld S s = 0 ∧ bE (13 + s) μ ∧ ¬ bR (13 + s) μ) ∨ (hHeld S s = 1 ∧ ¬ bE (13 + s) μ ∧ ¬ bR (13 + s) μ ∧ μ.1 (13 + s) 1 = hShown S s) ∨ (hHeld S s = 2 ∧ ¬ bE (13 + s) μ ∧ bR (13 + s) μ ∧ μ.1 (13 + s) 2 = hSort S s ∧ μ.1 (13 + s) 3 = hSize S s) := by
  have hA : xA (zA_ S) μ := hS.2.2.2.2.2.2.1
  have h50 := hA.2.1
  have q := (hS.2.2.2.2.2.2.2 s hs).1
  replace q : (hHeld S s = 0 ∧ μ.1 (13 + s) 1 = -1 ∧ μ.1 (13 + s) 2 = -1) ∨ (hHeld S s = 1 ∧ μ.1 (13 + s) 1 = hShown S s ∧ μ.1 (13 + s) 2 = -1) ∨ (hHeld S s = 2 ∧ μ.1 (13 + s) 1 = -1 ∧ μ.1 (13 + s) 2 = hSort S s ∧ μ.1 (13 + s) 3 = hSize S s) := q
  have k := hok s hs
  have nm : ∀ n : Nat, n < 2 ^ 31 → ¬ nI n = -1 := fun n hn z => by
    have := nI_toInt hn
    rw [z] at this
    have e : (-1 : Int32).toInt = -1 := rfl
    omega
  rcases q with ⟨a, b, c⟩ | ⟨a, b, c⟩ | ⟨a, b, c, e⟩
  · exact Or.inl ⟨a, ⟨b, c⟩, fun z => z c⟩
  · refine Or.inr (Or.inl ⟨a, fun z => ?_, fun z => z c, b⟩)
    rcases k with k | k | k
    · rw [a] at k; exact absurd k (by decide)
    · obtain ⟨b', hb', e'⟩ := k.2
      refine nm b' (by omega) ?_
      rw [← e', ← b]
      exact z.1
    · rw [a] at k; exact absurd k.1 (by decide)
  · rcases k with k | k | k
    · rw [a] at k; exact absurd k (by decide)
    · rw [a] at k; exact absurd k.1 (by decide)
    · obtain ⟨p, hp, e'⟩ := k.2.1
      have hs' : ¬ μ.1 (13 + s) 2 = -1 := by rw [c, e']; exact nm p (by omega)
      exact Or.inr (Or.inr ⟨a, fun z => hs' z.2, hs', c, e⟩)

set_option maxRecDepth 100000 in
set_option maxHeartbeats 4000000 in
theorem x_shelf_out {g : zG} {d : Nat} {i : Int32} {μ : zMem} (hd : 1 ≤ d) (hi : ¬ (0 ≤ i ∧ i ≤ 5)) : zM g d X_shelfAt [.ref 1, .int i] μ (fun r μ' => r = some .null ∧ μ' = μ) := by
  refine zM_of (by decide +kernel) rfl rfl (Nat.le_of_ble_eq_true rfl) rfl ?_
  refine zb X_shelfAt_s0 rfl ?_
  refine zcallS X_shelfAt_d2 k10_170 (by omega) (x_isWithin _ _) rfl rfl (Nat.le_of_ble_eq_true rfl) ?_
  rintro _ μx ⟨rfl, hx⟩
  rw [hx]
  clear hx μx
  refine z_eq X_shelfAt_d5 (tgt := 17) rfl (fun h5 => ?_) (fun h5 => absurd (zB_ne0.mp h5) hi)
  refine zb X_shelfAt_s17 rfl ?_
  refine z_retN X_shelfAt_d18 rfl (by first | exact Or.inl ⟨_, rfl⟩ | exact Or.inr ⟨_, rfl⟩) ?_
  exact ⟨rfl, rfl⟩

theorem m1le {V : Nat} (hV : V ≤ 60) : (-1 : Int32) ≤ nI V - 1 := by
  have e : (nI V - 1).toInt = (V : Int) - 1 := sub_toInt hV (N := 1) (by omega)
  rw [Int32.le_iff_toInt_le, e, show (-1 : Int32).toInt = -1 from rfl]
  omega
theorem km1 {b x : Int32} (h : ¬ b = -1) (h1 : -1 ≤ b) (h2 : b < x) : 0 ≤ b ∧ b < x := ⟨by grind, h2⟩
theorem leB' {V : Nat} {b : Int32} (hV : V ≤ 60) : b ≤ nI V - 1 ↔ b < nI V := leB hV

theorem g6 {i : Int32} (h : 0 ≤ i ∧ i < 6) : 0 ≤ i ∧ i ≤ 5 := ⟨h.1, by have := h.2; grind⟩
theorem clr_o {c c' : Nat} {μ : zMem} (h : ¬ c' = c) : (clr c μ).1 c' = μ.1 c' := by
  unfold clr
  rw [zpI_ne h, zpI_ne h, zpI_ne h]

set_option maxRecDepth 100000 in
set_option maxHeartbeats 4000000 in
theorem xs_keep_0 {g : zG} {d : Nat} {S : zS} {μ : zMem} {b : Int32} (hd : 2 ≤ d) (hS : xS S μ) : zM g d X_keep [.ref 1, .int (nI 0), .int b] μ (pO xS onlyX (opKeep S (nI 0) b) μ) := by
  refine zM_of (by decide +kernel) rfl rfl (Nat.le_of_ble_eq_true rfl) rfl ?_
  obtain ⟨ho, h2, hT, hC, hD, hI, hA, hH⟩ := hS
  have hS : xS S μ := ⟨ho, h2, hT, hC, hD, hI, hA, hH⟩
  have hb := ho.b
  have hv := ho.v
  have hB6 := ho.b6
  have hV12 := ho.v12
  have hz : zq sX μ μ := zq.rf
  replace hA : xA (zA_ S) μ := hA
  have e7 : μ.1 9 2 = nI (zA_ S).1.1 := hA.1
  have h50 : (zA_ S).1.1 ≤ 50 := hA.2.1
  replace hH : xH (zH S) μ := hH
  refine zb X_keep_s0 rfl ?_
  refine zcallV X_keep_d2 k10_93 (by omega) (x_shelf_0 (by omega)) rfl rfl rfl (Nat.le_of_ble_eq_true rfl) ?_
  rintro _ μx ⟨rfl, hx⟩
  rw [hx]
  clear hx μx
  refine zb X_keep_s5 rfl ?_
  refine z_null X_keep_d7 ?_
  refine zb X_keep_s10 rfl ?_
  refine z_ceq X_keep_d12 (tgt := 28) rfl (fun h12 => ?_) (fun h12 => ?_)
  · refine zb X_keep_s28 rfl ?_
    refine z_ge X_keep_d29 (tgt := 39) rfl (fun h29 => ?_) (fun h29 => ?_)
    · refine zb X_keep_s39 rfl ?_
      refine zcallV X_keep_d41 k10_335 (by omega) (x_hold_0 _ (by omega)) rfl rfl rfl (Nat.le_of_ble_eq_true rfl) ?_
      rintro _ μ1 ⟨rfl, e1⟩
      refine zb X_keep_s44 rfl ?_
      refine z_ret X_keep_d45 rfl ?_
      first
        | (subst e1
           have hb1 : -1 ≤ b ∧ b ≤ nI (zA_ S).1.1 - 1 := by
             first
               | (rw [h12]; exact And.intro (Int32.le_refl _) (m1le (by omega)))
               | (have g2 := zB_ne0.mp h23
                  exact And.intro (Int32.le_trans (by decide) g2.1) ((leB (by omega)).mpr g2.2))
           unfold opKeep
           rw [if_neg (fun z => z (And.intro (And.intro (by decide) (by decide)) hb1)), show (nI 0).toNatClampNeg = 0 from rfl]
           first
             | rw [if_pos (Int32.not_le.mp h29)]
             | rw [if_neg (Int32.not_lt.mpr h29)]
           refine ⟨rfl, hS.sh (s := 0) (by omega) (fun c hc => by first | (rw [zpI_ne hc]; exact clr_o hc) | exact clr_o hc) rfl (fun _ _ => rfl) (fun s' hs' hne q => ?_) ?_⟩
           · unfold xH1 at q ⊢
             have f : ∀ (x : Int32) (w : Nat → Int32), fu w 0 x s' = w s' := fun x w => if_neg hne
             simp only [f]
             exact q
           · refine ⟨?_, (hH.one (s := 0) (by omega)).2⟩
             first
               | exact Or.inr (Or.inl ⟨rfl, rfl, rfl⟩)
               | exact Or.inl ⟨rfl, rfl, rfl⟩)
        | (have nb : ¬ (0 ≤ b ∧ b < nI (zA_ S).1.1) := zB_eq0.mp h23
           unfold opKeep
           rw [if_pos (fun z => nb (km1 h12 z.2.1 ((leB' (by omega)).mp z.2.2)))]
           exact ⟨rfl, hS, onlyX.rf⟩)
    · refine zb X_keep_s32 rfl ?_
      refine zcallV X_keep_d33 k10_332 (by omega) (x_clear_0) rfl rfl rfl (Nat.le_of_ble_eq_true rfl) ?_
      rintro _ μ1 ⟨rfl, e1⟩
      refine zb X_keep_s36 rfl ?_
      refine z_ret X_keep_d45 rfl ?_
      first
        | (subst e1
           have hb1 : -1 ≤ b ∧ b ≤ nI (zA_ S).1.1 - 1 := by
             first
               | (rw [h12]; exact And.intro (Int32.le_refl _) (m1le (by omega)))
               | (have g2 := zB_ne0.mp h23
                  exact And.intro (Int32.le_trans (by decide) g2.1) ((leB (by omega)).mpr g2.2))
           unfold opKeep
           rw [if_neg (fun z => z (And.intro (And.intro (by decide) (by decide)) hb1)), show (nI 0).toNatClampNeg = 0 from rfl]
           first
             | rw [if_pos (Int32.not_le.mp h29)]
             | rw [if_neg (Int32.not_lt.mpr h29)]
           refine ⟨rfl, hS.sh (s := 0) (by omega) (fun c hc => by first | (rw [zpI_ne hc]; exact clr_o hc) | exact clr_o hc) rfl (fun _ _ => rfl) (fun s' hs' hne q => ?_) ?_⟩
           · unfold xH1 at q ⊢
             have f : ∀ (x : Int32) (w : Nat → Int32), fu w 0 x s' = w s' := fun x w => if_neg hne
             simp only [f]
             exact q
           · refine ⟨?_, (hH.one (s := 0) (by omega)).2⟩
             first
               | exact Or.inr (Or.inl ⟨rfl, rfl, rfl⟩)
               | exact Or.inl ⟨rfl, rfl, rfl⟩)
        | (have nb : ¬ (0 ≤ b ∧ b < nI (zA_ S).1.1) := zB_eq0.mp h23
           unfold opKeep
           rw [if_pos (fun z => nb (km1 h12 z.2.1 ((leB' (by omega)).mp z.2.2)))]
           exact ⟨rfl, hS, onlyX.rf⟩)
  · refine zb X_keep_s15 rfl ?_
    refine zcallV X_keep_d20 k10_329 (by omega) (x_hasBody (n := (zA_ S).1.1) b e7) rfl rfl rfl (Nat.le_of_ble_eq_true rfl) ?_
    rintro _ μx ⟨rfl, hx⟩
    rw [hx]
    clear hx μx
    refine z_ne X_keep_d23 (tgt := 28) rfl (fun h23 => ?_) (fun h23 => ?_)
    · refine zb X_keep_s28 rfl ?_
      refine z_ge X_keep_d29 (tgt := 39) rfl (fun h29 => ?_) (fun h29 => ?_)
      · refine zb X_keep_s39 rfl ?_
        refine zcallV X_keep_d41 k10_335 (by omega) (x_hold_0 _ (by omega)) rfl rfl rfl (Nat.le_of_ble_eq_true rfl) ?_
        rintro _ μ1 ⟨rfl, e1⟩
        refine zb X_keep_s44 rfl ?_
        refine z_ret X_keep_d45 rfl ?_
        first
          | (subst e1
             have hb1 : -1 ≤ b ∧ b ≤ nI (zA_ S).1.1 - 1 := by
               first
                 | (rw [h12]; exact And.intro (Int32.le_refl _) (m1le (by omega)))
                 | (have g2 := zB_ne0.mp h23
                    exact And.intro (Int32.le_trans (by decide) g2.1) ((leB (by omega)).mpr g2.2))
             unfold opKeep
             rw [if_neg (fun z => z (And.intro (And.intro (by decide) (by decide)) hb1)), show (nI 0).toNatClampNeg = 0 from rfl]
             first
               | rw [if_pos (Int32.not_le.mp h29)]
               | rw [if_neg (Int32.not_lt.mpr h29)]
             refine ⟨rfl, hS.sh (s := 0) (by omega) (fun c hc => by first | (rw [zpI_ne hc]; exact clr_o hc) | exact clr_o hc) rfl (fun _ _ => rfl) (fun s' hs' hne q => ?_) ?_⟩
             · unfold xH1 at q ⊢
               have f : ∀ (x : Int32) (w : Nat → Int32), fu w 0 x s' = w s' := fun x w => if_neg hne
               simp only [f]
               exact q
             · refine ⟨?_, (hH.one (s := 0) (by omega)).2⟩
               first
                 | exact Or.inr (Or.inl ⟨rfl, rfl, rfl⟩)
                 | exact Or.inl ⟨rfl, rfl, rfl⟩)
          | (have nb : ¬ (0 ≤ b ∧ b < nI (zA_ S).1.1) := zB_eq0.mp h23
             unfold opKeep
             rw [if_pos (fun z => nb (km1 h12 z.2.1 ((leB' (by omega)).mp z.2.2)))]
             exact ⟨rfl, hS, onlyX.rf⟩)
      · refine zb X_keep_s32 rfl ?_
        refine zcallV X_keep_d33 k10_332 (by omega) (x_clear_0) rfl rfl rfl (Nat.le_of_ble_eq_true rfl) ?_
        rintro _ μ1 ⟨rfl, e1⟩
        refine zb X_keep_s36 rfl ?_
        refine z_ret X_keep_d45 rfl ?_
        first
          | (subst e1
             have hb1 : -1 ≤ b ∧ b ≤ nI (zA_ S).1.1 - 1 := by
               first
                 | (rw [h12]; exact And.intro (Int32.le_refl _) (m1le (by omega)))
                 | (have g2 := zB_ne0.mp h23
                    exact And.intro (Int32.le_trans (by decide) g2.1) ((leB (by omega)).mpr g2.2))
             unfold opKeep
             rw [if_neg (fun z => z (And.intro (And.intro (by decide) (by decide)) hb1)), show (nI 0).toNatClampNeg = 0 from rfl]
             first
               | rw [if_pos (Int32.not_le.mp h29)]
               | rw [if_neg (Int32.not_lt.mpr h29)]
             refine ⟨rfl, hS.sh (s := 0) (by omega) (fun c hc => by first | (rw [zpI_ne hc]; exact clr_o hc) | exact clr_o hc) rfl (fun _ _ => rfl) (fun s' hs' hne q => ?_) ?_⟩
             · unfold xH1 at q ⊢
               have f : ∀ (x : Int32) (w : Nat → Int32), fu w 0 x s' = w s' := fun x w => if_neg hne
               simp only [f]
               exact q
             · refine ⟨?_, (hH.one (s := 0) (by omega)).2⟩
               first
                 | exact Or.inr (Or.inl ⟨rfl, rfl, rfl⟩)
                 | exact Or.inl ⟨rfl, rfl, rfl⟩)
          | (have nb : ¬ (0 ≤ b ∧ b < nI (zA_ S).1.1) := zB_eq0.mp h23
             unfold opKeep
             rw [if_pos (fun z => nb (km1 h12 z.2.1 ((leB' (by omega)).mp z.2.2)))]
             exact ⟨rfl, hS, onlyX.rf⟩)
    · refine zb X_keep_s26 rfl ?_
      refine z_ret X_keep_d27 rfl ?_
      first
        | (subst e1
           have hb1 : -1 ≤ b ∧ b ≤ nI (zA_ S).1.1 - 1 := by
             first
               | (rw [h12]; exact And.intro (Int32.le_refl _) (m1le (by omega)))
               | (have g2 := zB_ne0.mp h23
                  exact And.intro (Int32.le_trans (by decide) g2.1) ((leB (by omega)).mpr g2.2))
           unfold opKeep
           rw [if_neg (fun z => z (And.intro (And.intro (by decide) (by decide)) hb1)), show (nI 0).toNatClampNeg = 0 from rfl]
           first
             | rw [if_pos (Int32.not_le.mp h29)]
             | rw [if_neg (Int32.not_lt.mpr h29)]
           refine ⟨rfl, hS.sh (s := 0) (by omega) (fun c hc => by first | (rw [zpI_ne hc]; exact clr_o hc) | exact clr_o hc) rfl (fun _ _ => rfl) (fun s' hs' hne q => ?_) ?_⟩
           · unfold xH1 at q ⊢
             have f : ∀ (x : Int32) (w : Nat → Int32), fu w 0 x s' = w s' := fun x w => if_neg hne
             simp only [f]
             exact q
           · refine ⟨?_, (hH.one (s := 0) (by omega)).2⟩
             first
               | exact Or.inr (Or.inl ⟨rfl, rfl, rfl⟩)
               | exact Or.inl ⟨rfl, rfl, rfl⟩)
        | (have nb : ¬ (0 ≤ b ∧ b < nI (zA_ S).1.1) := zB_eq0.mp h23
           unfold opKeep
           rw [if_pos (fun z => nb (km1 h12 z.2.1 ((leB' (by omega)).mp z.2.2)))]
           exact ⟨rfl, hS, onlyX.rf⟩)

set_option maxRecDepth 100000 in
set_option maxHeartbeats 4000000 in
theorem xs_keep_1 {g : zG} {d : Nat} {S : zS} {μ : zMem} {b : Int32} (hd : 2 ≤ d) (hS : xS S μ) : zM g d X_keep [.ref 1, .int (nI 1), .int b] μ (pO xS onlyX (opKeep S (nI 1) b) μ) := by
  refine zM_of (by decide +kernel) rfl rfl (Nat.le_of_ble_eq_true rfl) rfl ?_
  obtain ⟨ho, h2, hT, hC, hD, hI, hA, hH⟩ := hS
  have hS : xS S μ := ⟨ho, h2, hT, hC, hD, hI, hA, hH⟩
  have hb := ho.b
  have hv := ho.v
  have hB6 := ho.b6
  have hV12 := ho.v12
  have hz : zq sX μ μ := zq.rf
  replace hA : xA (zA_ S) μ := hA
  have e7 : μ.1 9 2 = nI (zA_ S).1.1 := hA.1
  have h50 : (zA_ S).1.1 ≤ 50 := hA.2.1
  replace hH : xH (zH S) μ := hH
  refine zb X_keep_s0 rfl ?_
  refine zcallV X_keep_d2 k10_93 (by omega) (x_shelf_1 (by omega)) rfl rfl rfl (Nat.le_of_ble_eq_true rfl) ?_
  rintro _ μx ⟨rfl, hx⟩
  rw [hx]
  clear hx μx
  refine zb X_keep_s5 rfl ?_
  refine z_null X_keep_d7 ?_
  refine zb X_keep_s10 rfl ?_
  refine z_ceq X_keep_d12 (tgt := 28) rfl (fun h12 => ?_) (fun h12 => ?_)
  · refine zb X_keep_s28 rfl ?_
    refine z_ge X_keep_d29 (tgt := 39) rfl (fun h29 => ?_) (fun h29 => ?_)
    · refine zb X_keep_s39 rfl ?_
      refine zcallV X_keep_d41 k10_335 (by omega) (x_hold_1 _ (by omega)) rfl rfl rfl (Nat.le_of_ble_eq_true rfl) ?_
      rintro _ μ1 ⟨rfl, e1⟩
      refine zb X_keep_s44 rfl ?_
      refine z_ret X_keep_d45 rfl ?_
      first
        | (subst e1
           have hb1 : -1 ≤ b ∧ b ≤ nI (zA_ S).1.1 - 1 := by
             first
               | (rw [h12]; exact And.intro (Int32.le_refl _) (m1le (by omega)))
               | (have g2 := zB_ne0.mp h23
                  exact And.intro (Int32.le_trans (by decide) g2.1) ((leB (by omega)).mpr g2.2))
           unfold opKeep
           rw [if_neg (fun z => z (And.intro (And.intro (by decide) (by decide)) hb1)), show (nI 1).toNatClampNeg = 1 from rfl]
           first
             | rw [if_pos (Int32.not_le.mp h29)]
             | rw [if_neg (Int32.not_lt.mpr h29)]
           refine ⟨rfl, hS.sh (s := 1) (by omega) (fun c hc => by first | (rw [zpI_ne hc]; exact clr_o hc) | exact clr_o hc) rfl (fun _ _ => rfl) (fun s' hs' hne q => ?_) ?_⟩
           · unfold xH1 at q ⊢
             have f : ∀ (x : Int32) (w : Nat → Int32), fu w 1 x s' = w s' := fun x w => if_neg hne
             simp only [f]
             exact q
           · refine ⟨?_, (hH.one (s := 1) (by omega)).2⟩
             first
               | exact Or.inr (Or.inl ⟨rfl, rfl, rfl⟩)
               | exact Or.inl ⟨rfl, rfl, rfl⟩)
        | (have nb : ¬ (0 ≤ b ∧ b < nI (zA_ S).1.1) := zB_eq0.mp h23
           unfold opKeep
           rw [if_pos (fun z => nb (km1 h12 z.2.1 ((leB' (by omega)).mp z.2.2)))]
           exact ⟨rfl, hS, onlyX.rf⟩)
    · refine zb X_keep_s32 rfl ?_
      refine zcallV X_keep_d33 k10_332 (by omega) (x_clear_1) rfl rfl rfl (Nat.le_of_ble_eq_true rfl) ?_
      rintro _ μ1 ⟨rfl, e1⟩
      refine zb X_keep_s36 rfl ?_
      refine z_ret X_keep_d45 rfl ?_
      first
        | (subst e1
           have hb1 : -1 ≤ b ∧ b ≤ nI (zA_ S).1.1 - 1 := by
             first
               | (rw [h12]; exact And.intro (Int32.le_refl _) (m1le (by omega)))
               | (have g2 := zB_ne0.mp h23
                  exact And.intro (Int32.le_trans (by decide) g2.1) ((leB (by omega)).mpr g2.2))
           unfold opKeep
           rw [if_neg (fun z => z (And.intro (And.intro (by decide) (by decide)) hb1)), show (nI 1).toNatClampNeg = 1 from rfl]
           first
             | rw [if_pos (Int32.not_le.mp h29)]
             | rw [if_neg (Int32.not_lt.mpr h29)]
           refine ⟨rfl, hS.sh (s := 1) (by omega) (fun c hc => by first | (rw [zpI_ne hc]; exact clr_o hc) | exact clr_o hc) rfl (fun _ _ => rfl) (fun s' hs' hne q => ?_) ?_⟩
           · unfold xH1 at q ⊢
             have f : ∀ (x : Int32) (w : Nat → Int32), fu w 1 x s' = w s' := fun x w => if_neg hne
             simp only [f]
             exact q
           · refine ⟨?_, (hH.one (s := 1) (by omega)).2⟩
             first
               | exact Or.inr (Or.inl ⟨rfl, rfl, rfl⟩)
               | exact Or.inl ⟨rfl, rfl, rfl⟩)
        | (have nb : ¬ (0 ≤ b ∧ b < nI (zA_ S).1.1) := zB_eq0.mp h23
           unfold opKeep
           rw [if_pos (fun z => nb (km1 h12 z.2.1 ((leB' (by omega)).mp z.2.2)))]
           exact ⟨rfl, hS, onlyX.rf⟩)
  · refine zb X_keep_s15 rfl ?_
    refine zcallV X_keep_d20 k10_329 (by omega) (x_hasBody (n := (zA_ S).1.1) b e7) rfl rfl rfl (Nat.le_of_ble_eq_true rfl) ?_
    rintro _ μx ⟨rfl, hx⟩
    rw [hx]
    clear hx μx
    refine z_ne X_keep_d23 (tgt := 28) rfl (fun h23 => ?_) (fun h23 => ?_)
    · refine zb X_keep_s28 rfl ?_
      refine z_ge X_keep_d29 (tgt := 39) rfl (fun h29 => ?_) (fun h29 => ?_)
      · refine zb X_keep_s39 rfl ?_
        refine zcallV X_keep_d41 k10_335 (by omega) (x_hold_1 _ (by omega)) rfl rfl rfl (Nat.le_of_ble_eq_true rfl) ?_
        rintro _ μ1 ⟨rfl, e1⟩
        refine zb X_keep_s44 rfl ?_
        refine z_ret X_keep_d45 rfl ?_
        first
          | (subst e1
             have hb1 : -1 ≤ b ∧ b ≤ nI (zA_ S).1.1 - 1 := by
               first
                 | (rw [h12]; exact And.intro (Int32.le_refl _) (m1le (by omega)))
                 | (have g2 := zB_ne0.mp h23
                    exact And.intro (Int32.le_trans (by decide) g2.1) ((leB (by omega)).mpr g2.2))
             unfold opKeep
             rw [if_neg (fun z => z (And.intro (And.intro (by decide) (by decide)) hb1)), show (nI 1).toNatClampNeg = 1 from rfl]
             first
               | rw [if_pos (Int32.not_le.mp h29)]
               | rw [if_neg (Int32.not_lt.mpr h29)]
             refine ⟨rfl, hS.sh (s := 1) (by omega) (fun c hc => by first | (rw [zpI_ne hc]; exact clr_o hc) | exact clr_o hc) rfl (fun _ _ => rfl) (fun s' hs' hne q => ?_) ?_⟩
             · unfold xH1 at q ⊢
               have f : ∀ (x : Int32) (w : Nat → Int32), fu w 1 x s' = w s' := fun x w => if_neg hne
               simp only [f]
               exact q
             · refine ⟨?_, (hH.one (s := 1) (by omega)).2⟩
               first
                 | exact Or.inr (Or.inl ⟨rfl, rfl, rfl⟩)
                 | exact Or.inl ⟨rfl, rfl, rfl⟩)
          | (have nb : ¬ (0 ≤ b ∧ b < nI (zA_ S).1.1) := zB_eq0.mp h23
             unfold opKeep
             rw [if_pos (fun z => nb (km1 h12 z.2.1 ((leB' (by omega)).mp z.2.2)))]
             exact ⟨rfl, hS, onlyX.rf⟩)
      · refine zb X_keep_s32 rfl ?_
        refine zcallV X_keep_d33 k10_332 (by omega) (x_clear_1) rfl rfl rfl (Nat.le_of_ble_eq_true rfl) ?_
        rintro _ μ1 ⟨rfl, e1⟩
        refine zb X_keep_s36 rfl ?_
        refine z_ret X_keep_d45 rfl ?_
        first
          | (subst e1
             have hb1 : -1 ≤ b ∧ b ≤ nI (zA_ S).1.1 - 1 := by
               first
                 | (rw [h12]; exact And.intro (Int32.le_refl _) (m1le (by omega)))
                 | (have g2 := zB_ne0.mp h23
                    exact And.intro (Int32.le_trans (by decide) g2.1) ((leB (by omega)).mpr g2.2))
             unfold opKeep
             rw [if_neg (fun z => z (And.intro (And.intro (by decide) (by decide)) hb1)), show (nI 1).toNatClampNeg = 1 from rfl]
             first
               | rw [if_pos (Int32.not_le.mp h29)]
               | rw [if_neg (Int32.not_lt.mpr h29)]
             refine ⟨rfl, hS.sh (s := 1) (by omega) (fun c hc => by first | (rw [zpI_ne hc]; exact clr_o hc) | exact clr_o hc) rfl (fun _ _ => rfl) (fun s' hs' hne q => ?_) ?_⟩
             · unfold xH1 at q ⊢
               have f : ∀ (x : Int32) (w : Nat → Int32), fu w 1 x s' = w s' := fun x w => if_neg hne
               simp only [f]
               exact q
             · refine ⟨?_, (hH.one (s := 1) (by omega)).2⟩
               first
                 | exact Or.inr (Or.inl ⟨rfl, rfl, rfl⟩)
                 | exact Or.inl ⟨rfl, rfl, rfl⟩)
          | (have nb : ¬ (0 ≤ b ∧ b < nI (zA_ S).1.1) := zB_eq0.mp h23
             unfold opKeep
             rw [if_pos (fun z => nb (km1 h12 z.2.1 ((leB' (by omega)).mp z.2.2)))]
             exact ⟨rfl, hS, onlyX.rf⟩)
    · refine zb X_keep_s26 rfl ?_
      refine z_ret X_keep_d27 rfl ?_
      first
        | (subst e1
           have hb1 : -1 ≤ b ∧ b ≤ nI (zA_ S).1.1 - 1 := by
             first
               | (rw [h12]; exact And.intro (Int32.le_refl _) (m1le (by omega)))
               | (have g2 := zB_ne0.mp h23
                  exact And.intro (Int32.le_trans (by decide) g2.1) ((leB (by omega)).mpr g2.2))
           unfold opKeep
           rw [if_neg (fun z => z (And.intro (And.intro (by decide) (by decide)) hb1)), show (nI 1).toNatClampNeg = 1 from rfl]
           first
             | rw [if_pos (Int32.not_le.mp h29)]
             | rw [if_neg (Int32.not_lt.mpr h29)]
           refine ⟨rfl, hS.sh (s := 1) (by omega) (fun c hc => by first | (rw [zpI_ne hc]; exact clr_o hc) | exact clr_o hc) rfl (fun _ _ => rfl) (fun s' hs' hne q => ?_) ?_⟩
           · unfold xH1 at q ⊢
             have f : ∀ (x : Int32) (w : Nat → Int32), fu w 1 x s' = w s' := fun x w => if_neg hne
             simp only [f]
             exact q
           · refine ⟨?_, (hH.one (s := 1) (by omega)).2⟩
             first
               | exact Or.inr (Or.inl ⟨rfl, rfl, rfl⟩)
               | exact Or.inl ⟨rfl, rfl, rfl⟩)
        | (have nb : ¬ (0 ≤ b ∧ b < nI (zA_ S).1.1) := zB_eq0.mp h23
           unfold opKeep
           rw [if_pos (fun z => nb (km1 h12 z.2.1 ((leB' (by omega)).mp z.2.2)))]
           exact ⟨rfl, hS, onlyX.rf⟩)

set_option maxRecDepth 100000 in
set_option maxHeartbeats 4000000 in
theorem xs_keep_2 {g : zG} {d : Nat} {S : zS} {μ : zMem} {b : Int32} (hd : 2 ≤ d) (hS : xS S μ) : zM g d X_keep [.ref 1, .int (nI 2), .int b] μ (pO xS onlyX (opKeep S (nI 2) b) μ) := by
  refine zM_of (by decide +kernel) rfl rfl (Nat.le_of_ble_eq_true rfl) rfl ?_
  obtain ⟨ho, h2, hT, hC, hD, hI, hA, hH⟩ := hS
  have hS : xS S μ := ⟨ho, h2, hT, hC, hD, hI, hA, hH⟩
  have hb := ho.b
  have hv := ho.v
  have hB6 := ho.b6
  have hV12 := ho.v12
  have hz : zq sX μ μ := zq.rf
  replace hA : xA (zA_ S) μ := hA
  have e7 : μ.1 9 2 = nI (zA_ S).1.1 := hA.1
  have h50 : (zA_ S).1.1 ≤ 50 := hA.2.1
  replace hH : xH (zH S) μ := hH
  refine zb X_keep_s0 rfl ?_
  refine zcallV X_keep_d2 k10_93 (by omega) (x_shelf_2 (by omega)) rfl rfl rfl (Nat.le_of_ble_eq_true rfl) ?_
  rintro _ μx ⟨rfl, hx⟩
  rw [hx]
  clear hx μx
  refine zb X_keep_s5 rfl ?_
  refine z_null X_keep_d7 ?_
  refine zb X_keep_s10 rfl ?_
  refine z_ceq X_keep_d12 (tgt := 28) rfl (fun h12 => ?_) (fun h12 => ?_)
  · refine zb X_keep_s28 rfl ?_
    refine z_ge X_keep_d29 (tgt := 39) rfl (fun h29 => ?_) (fun h29 => ?_)
    · refine zb X_keep_s39 rfl ?_
      refine zcallV X_keep_d41 k10_335 (by omega) (x_hold_2 _ (by omega)) rfl rfl rfl (Nat.le_of_ble_eq_true rfl) ?_
      rintro _ μ1 ⟨rfl, e1⟩
      refine zb X_keep_s44 rfl ?_
      refine z_ret X_keep_d45 rfl ?_
      first
        | (subst e1
           have hb1 : -1 ≤ b ∧ b ≤ nI (zA_ S).1.1 - 1 := by
             first
               | (rw [h12]; exact And.intro (Int32.le_refl _) (m1le (by omega)))
               | (have g2 := zB_ne0.mp h23
                  exact And.intro (Int32.le_trans (by decide) g2.1) ((leB (by omega)).mpr g2.2))
           unfold opKeep
           rw [if_neg (fun z => z (And.intro (And.intro (by decide) (by decide)) hb1)), show (nI 2).toNatClampNeg = 2 from rfl]
           first
             | rw [if_pos (Int32.not_le.mp h29)]
             | rw [if_neg (Int32.not_lt.mpr h29)]
           refine ⟨rfl, hS.sh (s := 2) (by omega) (fun c hc => by first | (rw [zpI_ne hc]; exact clr_o hc) | exact clr_o hc) rfl (fun _ _ => rfl) (fun s' hs' hne q => ?_) ?_⟩
           · unfold xH1 at q ⊢
             have f : ∀ (x : Int32) (w : Nat → Int32), fu w 2 x s' = w s' := fun x w => if_neg hne
             simp only [f]
             exact q
           · refine ⟨?_, (hH.one (s := 2) (by omega)).2⟩
             first
               | exact Or.inr (Or.inl ⟨rfl, rfl, rfl⟩)
               | exact Or.inl ⟨rfl, rfl, rfl⟩)
        | (have nb : ¬ (0 ≤ b ∧ b < nI (zA_ S).1.1) := zB_eq0.mp h23
           unfold opKeep
           rw [if_pos (fun z => nb (km1 h12 z.2.1 ((leB' (by omega)).mp z.2.2)))]
           exact ⟨rfl, hS, onlyX.rf⟩)
    · refine zb X_keep_s32 rfl ?_
      refine zcallV X_keep_d33 k10_332 (by omega) (x_clear_2) rfl rfl rfl (Nat.le_of_ble_eq_true rfl) ?_
      rintro _ μ1 ⟨rfl, e1⟩
      refine zb X_keep_s36 rfl ?_
      refine z_ret X_keep_d45 rfl ?_
      first
        | (subst e1
           have hb1 : -1 ≤ b ∧ b ≤ nI (zA_ S).1.1 - 1 := by
             first
               | (rw [h12]; exact And.intro (Int32.le_refl _) (m1le (by omega)))
               | (have g2 := zB_ne0.mp h23
                  exact And.intro (Int32.le_trans (by decide) g2.1) ((leB (by omega)).mpr g2.2))
           unfold opKeep
           rw [if_neg (fun z => z (And.intro (And.intro (by decide) (by decide)) hb1)), show (nI 2).toNatClampNeg = 2 from rfl]
           first
             | rw [if_pos (Int32.not_le.mp h29)]
             | rw [if_neg (Int32.not_lt.mpr h29)]
           refine ⟨rfl, hS.sh (s := 2) (by omega) (fun c hc => by first | (rw [zpI_ne hc]; exact clr_o hc) | exact clr_o hc) rfl (fun _ _ => rfl) (fun s' hs' hne q => ?_) ?_⟩
           · unfold xH1 at q ⊢
             have f : ∀ (x : Int32) (w : Nat → Int32), fu w 2 x s' = w s' := fun x w => if_neg hne
             simp only [f]
             exact q
           · refine ⟨?_, (hH.one (s := 2) (by omega)).2⟩
             first
               | exact Or.inr (Or.inl ⟨rfl, rfl, rfl⟩)
               | exact Or.inl ⟨rfl, rfl, rfl⟩)
        | (have nb : ¬ (0 ≤ b ∧ b < nI (zA_ S).1.1) := zB_eq0.mp h23
           unfold opKeep
           rw [if_pos (fun z => nb (km1 h12 z.2.1 ((leB' (by omega)).mp z.2.2)))]
           exact ⟨rfl, hS, onlyX.rf⟩)
  · refine zb X_keep_s15 rfl ?_
    refine zcallV X_keep_d20 k10_329 (by omega) (x_hasBody (n := (zA_ S).1.1) b e7) rfl rfl rfl (Nat.le_of_ble_eq_true rfl) ?_
    rintro _ μx ⟨rfl, hx⟩
    rw [hx]
    clear hx μx
    refine z_ne X_keep_d23 (tgt := 28) rfl (fun h23 => ?_) (fun h23 => ?_)
    · refine zb X_keep_s28 rfl ?_
      refine z_ge X_keep_d29 (tgt := 39) rfl (fun h29 => ?_) (fun h29 => ?_)
      · refine zb X_keep_s39 rfl ?_
        refine zcallV X_keep_d41 k10_335 (by omega) (x_hold_2 _ (by omega)) rfl rfl rfl (Nat.le_of_ble_eq_true rfl) ?_
        rintro _ μ1 ⟨rfl, e1⟩
        refine zb X_keep_s44 rfl ?_
        refine z_ret X_keep_d45 rfl ?_
        first
          | (subst e1
             have hb1 : -1 ≤ b ∧ b ≤ nI (zA_ S).1.1 - 1 := by
               first
                 | (rw [h12]; exact And.intro (Int32.le_refl _) (m1le (by omega)))
                 | (have g2 := zB_ne0.mp h23
                    exact And.intro (Int32.le_trans (by decide) g2.1) ((leB (by omega)).mpr g2.2))
             unfold opKeep
             rw [if_neg (fun z => z (And.intro (And.intro (by decide) (by decide)) hb1)), show (nI 2).toNatClampNeg = 2 from rfl]
             first
               | rw [if_pos (Int32.not_le.mp h29)]
               | rw [if_neg (Int32.not_lt.mpr h29)]
             refine ⟨rfl, hS.sh (s := 2) (by omega) (fun c hc => by first | (rw [zpI_ne hc]; exact clr_o hc) | exact clr_o hc) rfl (fun _ _ => rfl) (fun s' hs' hne q => ?_) ?_⟩
             · unfold xH1 at q ⊢
               have f : ∀ (x : Int32) (w : Nat → Int32), fu w 2 x s' = w s' := fun x w => if_neg hne
               simp only [f]
               exact q
             · refine ⟨?_, (hH.one (s := 2) (by omega)).2⟩
               first
                 | exact Or.inr (Or.inl ⟨rfl, rfl, rfl⟩)
                 | exact Or.inl ⟨rfl, rfl, rfl⟩)
          | (have nb : ¬ (0 ≤ b ∧ b < nI (zA_ S).1.1) := zB_eq0.mp h23
             unfold opKeep
             rw [if_pos (fun z => nb (km1 h12 z.2.1 ((leB' (by omega)).mp z.2.2)))]
             exact ⟨rfl, hS, onlyX.rf⟩)
      · refine zb X_keep_s32 rfl ?_
        refine zcallV X_keep_d33 k10_332 (by omega) (x_clear_2) rfl rfl rfl (Nat.le_of_ble_eq_true rfl) ?_
        rintro _ μ1 ⟨rfl, e1⟩
        refine zb X_keep_s36 rfl ?_
        refine z_ret X_keep_d45 rfl ?_
        first
          | (subst e1
             have hb1 : -1 ≤ b ∧ b ≤ nI (zA_ S).1.1 - 1 := by
               first
                 | (rw [h12]; exact And.intro (Int32.le_refl _) (m1le (by omega)))
                 | (have g2 := zB_ne0.mp h23
                    exact And.intro (Int32.le_trans (by decide) g2.1) ((leB (by omega)).mpr g2.2))
             unfold opKeep
             rw [if_neg (fun z => z (And.intro (And.intro (by decide) (by decide)) hb1)), show (nI 2).toNatClampNeg = 2 from rfl]
             first
               | rw [if_pos (Int32.not_le.mp h29)]
               | rw [if_neg (Int32.not_lt.mpr h29)]
             refine ⟨rfl, hS.sh (s := 2) (by omega) (fun c hc => by first | (rw [zpI_ne hc]; exact clr_o hc) | exact clr_o hc) rfl (fun _ _ => rfl) (fun s' hs' hne q => ?_) ?_⟩
             · unfold xH1 at q ⊢
               have f : ∀ (x : Int32) (w : Nat → Int32), fu w 2 x s' = w s' := fun x w => if_neg hne
               simp only [f]
               exact q
             · refine ⟨?_, (hH.one (s := 2) (by omega)).2⟩
               first
                 | exact Or.inr (Or.inl ⟨rfl, rfl, rfl⟩)
                 | exact Or.inl ⟨rfl, rfl, rfl⟩)
          | (have nb : ¬ (0 ≤ b ∧ b < nI (zA_ S).1.1) := zB_eq0.mp h23
             unfold opKeep
             rw [if_pos (fun z => nb (km1 h12 z.2.1 ((leB' (by omega)).mp z.2.2)))]
             exact ⟨rfl, hS, onlyX.rf⟩)
    · refine zb X_keep_s26 rfl ?_
      refine z_ret X_keep_d27 rfl ?_
      first
        | (subst e1
           have hb1 : -1 ≤ b ∧ b ≤ nI (zA_ S).1.1 - 1 := by
             first
               | (rw [h12]; exact And.intro (Int32.le_refl _) (m1le (by omega)))
               | (have g2 := zB_ne0.mp h23
                  exact And.intro (Int32.le_trans (by decide) g2.1) ((leB (by omega)).mpr g2.2))
           unfold opKeep
           rw [if_neg (fun z => z (And.intro (And.intro (by decide) (by decide)) hb1)), show (nI 2).toNatClampNeg = 2 from rfl]
           first
             | rw [if_pos (Int32.not_le.mp h29)]
             | rw [if_neg (Int32.not_lt.mpr h29)]
           refine ⟨rfl, hS.sh (s := 2) (by omega) (fun c hc => by first | (rw [zpI_ne hc]; exact clr_o hc) | exact clr_o hc) rfl (fun _ _ => rfl) (fun s' hs' hne q => ?_) ?_⟩
           · unfold xH1 at q ⊢
             have f : ∀ (x : Int32) (w : Nat → Int32), fu w 2 x s' = w s' := fun x w => if_neg hne
             simp only [f]
             exact q
           · refine ⟨?_, (hH.one (s := 2) (by omega)).2⟩
             first
               | exact Or.inr (Or.inl ⟨rfl, rfl, rfl⟩)
               | exact Or.inl ⟨rfl, rfl, rfl⟩)
        | (have nb : ¬ (0 ≤ b ∧ b < nI (zA_ S).1.1) := zB_eq0.mp h23
           unfold opKeep
           rw [if_pos (fun z => nb (km1 h12 z.2.1 ((leB' (by omega)).mp z.2.2)))]
           exact ⟨rfl, hS, onlyX.rf⟩)

set_option maxRecDepth 100000 in
set_option maxHeartbeats 4000000 in
theorem xs_keep_3 {g : zG} {d : Nat} {S : zS} {μ : zMem} {b : Int32} (hd : 2 ≤ d) (hS : xS S μ) : zM g d X_keep [.ref 1, .int (nI 3), .int b] μ (pO xS onlyX (opKeep S (nI 3) b) μ) := by
  refine zM_of (by decide +kernel) rfl rfl (Nat.le_of_ble_eq_true rfl) rfl ?_
  obtain ⟨ho, h2, hT, hC, hD, hI, hA, hH⟩ := hS
  have hS : xS S μ := ⟨ho, h2, hT, hC, hD, hI, hA, hH⟩
  have hb := ho.b
  have hv := ho.v
  have hB6 := ho.b6
  have hV12 := ho.v12
  have hz : zq sX μ μ := zq.rf
  replace hA : xA (zA_ S) μ := hA
  have e7 : μ.1 9 2 = nI (zA_ S).1.1 := hA.1
  have h50 : (zA_ S).1.1 ≤ 50 := hA.2.1
  replace hH : xH (zH S) μ := hH
  refine zb X_keep_s0 rfl ?_
  refine zcallV X_keep_d2 k10_93 (by omega) (x_shelf_3 (by omega)) rfl rfl rfl (Nat.le_of_ble_eq_true rfl) ?_
  rintro _ μx ⟨rfl, hx⟩
  rw [hx]
  clear hx μx
  refine zb X_keep_s5 rfl ?_
  refine z_null X_keep_d7 ?_
  refine zb X_keep_s10 rfl ?_
  refine z_ceq X_keep_d12 (tgt := 28) rfl (fun h12 => ?_) (fun h12 => ?_)
  · refine zb X_keep_s28 rfl ?_
    refine z_ge X_keep_d29 (tgt := 39) rfl (fun h29 => ?_) (fun h29 => ?_)
    · refine zb X_keep_s39 rfl ?_
      refine zcallV X_keep_d41 k10_335 (by omega) (x_hold_3 _ (by omega)) rfl rfl rfl (Nat.le_of_ble_eq_true rfl) ?_
      rintro _ μ1 ⟨rfl, e1⟩
      refine zb X_keep_s44 rfl ?_
      refine z_ret X_keep_d45 rfl ?_
      first
        | (subst e1
           have hb1 : -1 ≤ b ∧ b ≤ nI (zA_ S).1.1 - 1 := by
             first
               | (rw [h12]; exact And.intro (Int32.le_refl _) (m1le (by omega)))
               | (have g2 := zB_ne0.mp h23
                  exact And.intro (Int32.le_trans (by decide) g2.1) ((leB (by omega)).mpr g2.2))
           unfold opKeep
           rw [if_neg (fun z => z (And.intro (And.intro (by decide) (by decide)) hb1)), show (nI 3).toNatClampNeg = 3 from rfl]
           first
             | rw [if_pos (Int32.not_le.mp h29)]
             | rw [if_neg (Int32.not_lt.mpr h29)]
           refine ⟨rfl, hS.sh (s := 3) (by omega) (fun c hc => by first | (rw [zpI_ne hc]; exact clr_o hc) | exact clr_o hc) rfl (fun _ _ => rfl) (fun s' hs' hne q => ?_) ?_⟩
           · unfold xH1 at q ⊢
             have f : ∀ (x : Int32) (w : Nat → Int32), fu w 3 x s' = w s' := fun x w => if_neg hne
             simp only [f]
             exact q
           · refine ⟨?_, (hH.one (s := 3) (by omega)).2⟩
             first
               | exact Or.inr (Or.inl ⟨rfl, rfl, rfl⟩)
               | exact Or.inl ⟨rfl, rfl, rfl⟩)
        | (have nb : ¬ (0 ≤ b ∧ b < nI (zA_ S).1.1) := zB_eq0.mp h23
           unfold opKeep
           rw [if_pos (fun z => nb (km1 h12 z.2.1 ((leB' (by omega)).mp z.2.2)))]
           exact ⟨rfl, hS, onlyX.rf⟩)
    · refine zb X_keep_s32 rfl ?_
      refine zcallV X_keep_d33 k10_332 (by omega) (x_clear_3) rfl rfl rfl (Nat.le_of_ble_eq_true rfl) ?_
      rintro _ μ1 ⟨rfl, e1⟩
      refine zb X_keep_s36 rfl ?_
      refine z_ret X_keep_d45 rfl ?_
      first
        | (subst e1
           have hb1 : -1 ≤ b ∧ b ≤ nI (zA_ S).1.1 - 1 := by
             first
               | (rw [h12]; exact And.intro (Int32.le_refl _) (m1le (by omega)))
               | (have g2 := zB_ne0.mp h23
                  exact And.intro (Int32.le_trans (by decide) g2.1) ((leB (by omega)).mpr g2.2))
           unfold opKeep
           rw [if_neg (fun z => z (And.intro (And.intro (by decide) (by decide)) hb1)), show (nI 3).toNatClampNeg = 3 from rfl]
           first
             | rw [if_pos (Int32.not_le.mp h29)]
             | rw [if_neg (Int32.not_lt.mpr h29)]
           refine ⟨rfl, hS.sh (s := 3) (by omega) (fun c hc => by first | (rw [zpI_ne hc]; exact clr_o hc) | exact clr_o hc) rfl (fun _ _ => rfl) (fun s' hs' hne q => ?_) ?_⟩
           · unfold xH1 at q ⊢
             have f : ∀ (x : Int32) (w : Nat → Int32), fu w 3 x s' = w s' := fun x w => if_neg hne
             simp only [f]
             exact q
           · refine ⟨?_, (hH.one (s := 3) (by omega)).2⟩
             first
               | exact Or.inr (Or.inl ⟨rfl, rfl, rfl⟩)
               | exact Or.inl ⟨rfl, rfl, rfl⟩)
        | (have nb : ¬ (0 ≤ b ∧ b < nI (zA_ S).1.1) := zB_eq0.mp h23
           unfold opKeep
           rw [if_pos (fun z => nb (km1 h12 z.2.1 ((leB' (by omega)).mp z.2.2)))]
           exact ⟨rfl, hS, onlyX.rf⟩)
  · refine zb X_keep_s15 rfl ?_
    refine zcallV X_keep_d20 k10_329 (by omega) (x_hasBody (n := (zA_ S).1.1) b e7) rfl rfl rfl (Nat.le_of_ble_eq_true rfl) ?_
    rintro _ μx ⟨rfl, hx⟩
    rw [hx]
    clear hx μx
    refine z_ne X_keep_d23 (tgt := 28) rfl (fun h23 => ?_) (fun h23 => ?_)
    · refine zb X_keep_s28 rfl ?_
      refine z_ge X_keep_d29 (tgt := 39) rfl (fun h29 => ?_) (fun h29 => ?_)
      · refine zb X_keep_s39 rfl ?_
        refine zcallV X_keep_d41 k10_335 (by omega) (x_hold_3 _ (by omega)) rfl rfl rfl (Nat.le_of_ble_eq_true rfl) ?_
        rintro _ μ1 ⟨rfl, e1⟩
        refine zb X_keep_s44 rfl ?_
        refine z_ret X_keep_d45 rfl ?_
        first
          | (subst e1
             have hb1 : -1 ≤ b ∧ b ≤ nI (zA_ S).1.1 - 1 := by
               first
                 | (rw [h12]; exact And.intro (Int32.le_refl _) (m1le (by omega)))
                 | (have g2 := zB_ne0.mp h23
                    exact And.intro (Int32.le_trans (by decide) g2.1) ((leB (by omega)).mpr g2.2))
             unfold opKeep
             rw [if_neg (fun z => z (And.intro (And.intro (by decide) (by decide)) hb1)), show (nI 3).toNatClampNeg = 3 from rfl]
             first
               | rw [if_pos (Int32.not_le.mp h29)]
               | rw [if_neg (Int32.not_lt.mpr h29)]
             refine ⟨rfl, hS.sh (s := 3) (by omega) (fun c hc => by first | (rw [zpI_ne hc]; exact clr_o hc) | exact clr_o hc) rfl (fun _ _ => rfl) (fun s' hs' hne q => ?_) ?_⟩
             · unfold xH1 at q ⊢
               have f : ∀ (x : Int32) (w : Nat → Int32), fu w 3 x s' = w s' := fun x w => if_neg hne
               simp only [f]
               exact q
             · refine ⟨?_, (hH.one (s := 3) (by omega)).2⟩
               first
                 | exact Or.inr (Or.inl ⟨rfl, rfl, rfl⟩)
                 | exact Or.inl ⟨rfl, rfl, rfl⟩)
          | (have nb : ¬ (0 ≤ b ∧ b < nI (zA_ S).1.1) := zB_eq0.mp h23
             unfold opKeep
             rw [if_pos (fun z => nb (km1 h12 z.2.1 ((leB' (by omega)).mp z.2.2)))]
             exact ⟨rfl, hS, onlyX.rf⟩)
      · refine zb X_keep_s32 rfl ?_
        refine zcallV X_keep_d33 k10_332 (by omega) (x_clear_3) rfl rfl rfl (Nat.le_of_ble_eq_true rfl) ?_
        rintro _ μ1 ⟨rfl, e1⟩
        refine zb X_keep_s36 rfl ?_
        refine z_ret X_keep_d45 rfl ?_
        first
          | (subst e1
             have hb1 : -1 ≤ b ∧ b ≤ nI (zA_ S).1.1 - 1 := by
               first
                 | (rw [h12]; exact And.intro (Int32.le_refl _) (m1le (by omega)))
                 | (have g2 := zB_ne0.mp h23
                    exact And.intro (Int32.le_trans (by decide) g2.1) ((leB (by omega)).mpr g2.2))
             unfold opKeep
             rw [if_neg (fun z => z (And.intro (And.intro (by decide) (by decide)) hb1)), show (nI 3).toNatClampNeg = 3 from rfl]
             first
               | rw [if_pos (Int32.not_le.mp h29)]
               | rw [if_neg (Int32.not_lt.mpr h29)]
             refine ⟨rfl, hS.sh (s := 3) (by omega) (fun c hc => by first | (rw [zpI_ne hc]; exact clr_o hc) | exact clr_o hc) rfl (fun _ _ => rfl) (fun s' hs' hne q => ?_) ?_⟩
             · unfold xH1 at q ⊢
               have f : ∀ (x : Int32) (w : Nat → Int32), fu w 3 x s' = w s' := fun x w => if_neg hne
               simp only [f]
               exact q
             · refine ⟨?_, (hH.one (s := 3) (by omega)).2⟩
               first
                 | exact Or.inr (Or.inl ⟨rfl, rfl, rfl⟩)
                 | exact Or.inl ⟨rfl, rfl, rfl⟩)
          | (have nb : ¬ (0 ≤ b ∧ b < nI (zA_ S).1.1) := zB_eq0.mp h23
             unfold opKeep
             rw [if_pos (fun z => nb (km1 h12 z.2.1 ((leB' (by omega)).mp z.2.2)))]
             exact ⟨rfl, hS, onlyX.rf⟩)
    · refine zb X_keep_s26 rfl ?_
      refine z_ret X_keep_d27 rfl ?_
      first
        | (subst e1
           have hb1 : -1 ≤ b ∧ b ≤ nI (zA_ S).1.1 - 1 := by
             first
               | (rw [h12]; exact And.intro (Int32.le_refl _) (m1le (by omega)))
               | (have g2 := zB_ne0.mp h23
                  exact And.intro (Int32.le_trans (by decide) g2.1) ((leB (by omega)).mpr g2.2))
           unfold opKeep
           rw [if_neg (fun z => z (And.intro (And.intro (by decide) (by decide)) hb1)), show (nI 3).toNatClampNeg = 3 from rfl]
           first
             | rw [if_pos (Int32.not_le.mp h29)]
             | rw [if_neg (Int32.not_lt.mpr h29)]
           refine ⟨rfl, hS.sh (s := 3) (by omega) (fun c hc => by first | (rw [zpI_ne hc]; exact clr_o hc) | exact clr_o hc) rfl (fun _ _ => rfl) (fun s' hs' hne q => ?_) ?_⟩
           · unfold xH1 at q ⊢
             have f : ∀ (x : Int32) (w : Nat → Int32), fu w 3 x s' = w s' := fun x w => if_neg hne
             simp only [f]
             exact q
           · refine ⟨?_, (hH.one (s := 3) (by omega)).2⟩
             first
               | exact Or.inr (Or.inl ⟨rfl, rfl, rfl⟩)
               | exact Or.inl ⟨rfl, rfl, rfl⟩)
        | (have nb : ¬ (0 ≤ b ∧ b < nI (zA_ S).1.1) := zB_eq0.mp h23
           unfold opKeep
           rw [if_pos (fun z => nb (km1 h12 z.2.1 ((leB' (by omega)).mp z.2.2)))]
           exact ⟨rfl, hS, onlyX.rf⟩)

set_option maxRecDepth 100000 in
set_option maxHeartbeats 4000000 in
theorem xs_keep_4 {g : zG} {d : Nat} {S : zS} {μ : zMem} {b : Int32} (hd : 2 ≤ d) (hS : xS S μ) : zM g d X_keep [.ref 1, .int (nI 4), .int b] μ (pO xS onlyX (opKeep S (nI 4) b) μ) := by
  refine zM_of (by decide +kernel) rfl rfl (Nat.le_of_ble_eq_true rfl) rfl ?_
  obtain ⟨ho, h2, hT, hC, hD, hI, hA, hH⟩ := hS
  have hS : xS S μ := ⟨ho, h2, hT, hC, hD, hI, hA, hH⟩
  have hb := ho.b
  have hv := ho.v
  have hB6 := ho.b6
  have hV12 := ho.v12
  have hz : zq sX μ μ := zq.rf
  replace hA : xA (zA_ S) μ := hA
  have e7 : μ.1 9 2 = nI (zA_ S).1.1 := hA.1
  have h50 : (zA_ S).1.1 ≤ 50 := hA.2.1
  replace hH : xH (zH S) μ := hH
  refine zb X_keep_s0 rfl ?_
  refine zcallV X_keep_d2 k10_93 (by omega) (x_shelf_4 (by omega)) rfl rfl rfl (Nat.le_of_ble_eq_true rfl) ?_
  rintro _ μx ⟨rfl, hx⟩
  rw [hx]
  clear hx μx
  refine zb X_keep_s5 rfl ?_
  refine z_null X_keep_d7 ?_
  refine zb X_keep_s10 rfl ?_
  refine z_ceq X_keep_d12 (tgt := 28) rfl (fun h12 => ?_) (fun h12 => ?_)
  · refine zb X_keep_s28 rfl ?_
    refine z_ge X_keep_d29 (tgt := 39) rfl (fun h29 => ?_) (fun h29 => ?_)
    · refine zb X_keep_s39 rfl ?_
      refine zcallV X_keep_d41 k10_335 (by omega) (x_hold_4 _ (by omega)) rfl rfl rfl (Nat.le_of_ble_eq_true rfl) ?_
      rintro _ μ1 ⟨rfl, e1⟩
      refine zb X_keep_s44 rfl ?_
      refine z_ret X_keep_d45 rfl ?_
      first
        | (subst e1
           have hb1 : -1 ≤ b ∧ b ≤ nI (zA_ S).1.1 - 1 := by
             first
               | (rw [h12]; exact And.intro (Int32.le_refl _) (m1le (by omega)))
               | (have g2 := zB_ne0.mp h23
                  exact And.intro (Int32.le_trans (by decide) g2.1) ((leB (by omega)).mpr g2.2))
           unfold opKeep
           rw [if_neg (fun z => z (And.intro (And.intro (by decide) (by decide)) hb1)), show (nI 4).toNatClampNeg = 4 from rfl]
           first
             | rw [if_pos (Int32.not_le.mp h29)]
             | rw [if_neg (Int32.not_lt.mpr h29)]
           refine ⟨rfl, hS.sh (s := 4) (by omega) (fun c hc => by first | (rw [zpI_ne hc]; exact clr_o hc) | exact clr_o hc) rfl (fun _ _ => rfl) (fun s' hs' hne q => ?_) ?_⟩
           · unfold xH1 at q ⊢
             have f : ∀ (x : Int32) (w : Nat → Int32), fu w 4 x s' = w s' := fun x w => if_neg hne
             simp only [f]
             exact q
           · refine ⟨?_, (hH.one (s := 4) (by omega)).2⟩
             first
               | exact Or.inr (Or.inl ⟨rfl, rfl, rfl⟩)
               | exact Or.inl ⟨rfl, rfl, rfl⟩)
        | (have nb : ¬ (0 ≤ b ∧ b < nI (zA_ S).1.1) := zB_eq0.mp h23
           unfold opKeep
           rw [if_pos (fun z => nb (km1 h12 z.2.1 ((leB' (by omega)).mp z.2.2)))]
           exact ⟨rfl, hS, onlyX.rf⟩)
    · refine zb X_keep_s32 rfl ?_
      refine zcallV X_keep_d33 k10_332 (by omega) (x_clear_4) rfl rfl rfl (Nat.le_of_ble_eq_true rfl) ?_
      rintro _ μ1 ⟨rfl, e1⟩
      refine zb X_keep_s36 rfl ?_
      refine z_ret X_keep_d45 rfl ?_
      first
        | (subst e1
           have hb1 : -1 ≤ b ∧ b ≤ nI (zA_ S).1.1 - 1 := by
             first
               | (rw [h12]; exact And.intro (Int32.le_refl _) (m1le (by omega)))
               | (have g2 := zB_ne0.mp h23
                  exact And.intro (Int32.le_trans (by decide) g2.1) ((leB (by omega)).mpr g2.2))
           unfold opKeep
           rw [if_neg (fun z => z (And.intro (And.intro (by decide) (by decide)) hb1)), show (nI 4).toNatClampNeg = 4 from rfl]
           first
             | rw [if_pos (Int32.not_le.mp h29)]
             | rw [if_neg (Int32.not_lt.mpr h29)]
           refine ⟨rfl, hS.sh (s := 4) (by omega) (fun c hc => by first | (rw [zpI_ne hc]; exact clr_o hc) | exact clr_o hc) rfl (fun _ _ => rfl) (fun s' hs' hne q => ?_) ?_⟩
           · unfold xH1 at q ⊢
             have f : ∀ (x : Int32) (w : Nat → Int32), fu w 4 x s' = w s' := fun x w => if_neg hne
             simp only [f]
             exact q
           · refine ⟨?_, (hH.one (s := 4) (by omega)).2⟩
             first
               | exact Or.inr (Or.inl ⟨rfl, rfl, rfl⟩)
               | exact Or.inl ⟨rfl, rfl, rfl⟩)
        | (have nb : ¬ (0 ≤ b ∧ b < nI (zA_ S).1.1) := zB_eq0.mp h23
           unfold opKeep
           rw [if_pos (fun z => nb (km1 h12 z.2.1 ((leB' (by omega)).mp z.2.2)))]
           exact ⟨rfl, hS, onlyX.rf⟩)
  · refine zb X_keep_s15 rfl ?_
    refine zcallV X_keep_d20 k10_329 (by omega) (x_hasBody (n := (zA_ S).1.1) b e7) rfl rfl rfl (Nat.le_of_ble_eq_true rfl) ?_
    rintro _ μx ⟨rfl, hx⟩
    rw [hx]
    clear hx μx
    refine z_ne X_keep_d23 (tgt := 28) rfl (fun h23 => ?_) (fun h23 => ?_)
    · refine zb X_keep_s28 rfl ?_
      refine z_ge X_keep_d29 (tgt := 39) rfl (fun h29 => ?_) (fun h29 => ?_)
      · refine zb X_keep_s39 rfl ?_
        refine zcallV X_keep_d41 k10_335 (by omega) (x_hold_4 _ (by omega)) rfl rfl rfl (Nat.le_of_ble_eq_true rfl) ?_
        rintro _ μ1 ⟨rfl, e1⟩
        refine zb X_keep_s44 rfl ?_
        refine z_ret X_keep_d45 rfl ?_
        first
          | (subst e1
             have hb1 : -1 ≤ b ∧ b ≤ nI (zA_ S).1.1 - 1 := by
               first
                 | (rw [h12]; exact And.intro (Int32.le_refl _) (m1le (by omega)))
                 | (have g2 := zB_ne0.mp h23
                    exact And.intro (Int32.le_trans (by decide) g2.1) ((leB (by omega)).mpr g2.2))
             unfold opKeep
             rw [if_neg (fun z => z (And.intro (And.intro (by decide) (by decide)) hb1)), show (nI 4).toNatClampNeg = 4 from rfl]
             first
               | rw [if_pos (Int32.not_le.mp h29)]
               | rw [if_neg (Int32.not_lt.mpr h29)]
             refine ⟨rfl, hS.sh (s := 4) (by omega) (fun c hc => by first | (rw [zpI_ne hc]; exact clr_o hc) | exact clr_o hc) rfl (fun _ _ => rfl) (fun s' hs' hne q => ?_) ?_⟩
             · unfold xH1 at q ⊢
               have f : ∀ (x : Int32) (w : Nat → Int32), fu w 4 x s' = w s' := fun x w => if_neg hne
               simp only [f]
               exact q
             · refine ⟨?_, (hH.one (s := 4) (by omega)).2⟩
               first
                 | exact Or.inr (Or.inl ⟨rfl, rfl, rfl⟩)
                 | exact Or.inl ⟨rfl, rfl, rfl⟩)
          | (have nb : ¬ (0 ≤ b ∧ b < nI (zA_ S).1.1) := zB_eq0.mp h23
             unfold opKeep
             rw [if_pos (fun z => nb (km1 h12 z.2.1 ((leB' (by omega)).mp z.2.2)))]
             exact ⟨rfl, hS, onlyX.rf⟩)
      · refine zb X_keep_s32 rfl ?_
        refine zcallV X_keep_d33 k10_332 (by omega) (x_clear_4) rfl rfl rfl (Nat.le_of_ble_eq_true rfl) ?_
        rintro _ μ1 ⟨rfl, e1⟩
        refine zb X_keep_s36 rfl ?_
        refine z_ret X_keep_d45 rfl ?_
        first
          | (subst e1
             have hb1 : -1 ≤ b ∧ b ≤ nI (zA_ S).1.1 - 1 := by
               first
                 | (rw [h12]; exact And.intro (Int32.le_refl _) (m1le (by omega)))
                 | (have g2 := zB_ne0.mp h23
                    exact And.intro (Int32.le_trans (by decide) g2.1) ((leB (by omega)).mpr g2.2))
             unfold opKeep
             rw [if_neg (fun z => z (And.intro (And.intro (by decide) (by decide)) hb1)), show (nI 4).toNatClampNeg = 4 from rfl]
             first
               | rw [if_pos (Int32.not_le.mp h29)]
               | rw [if_neg (Int32.not_lt.mpr h29)]
             refine ⟨rfl, hS.sh (s := 4) (by omega) (fun c hc => by first | (rw [zpI_ne hc]; exact clr_o hc) | exact clr_o hc) rfl (fun _ _ => rfl) (fun s' hs' hne q => ?_) ?_⟩
             · unfold xH1 at q ⊢
               have f : ∀ (x : Int32) (w : Nat → Int32), fu w 4 x s' = w s' := fun x w => if_neg hne
               simp only [f]
               exact q
             · refine ⟨?_, (hH.one (s := 4) (by omega)).2⟩
               first
                 | exact Or.inr (Or.inl ⟨rfl, rfl, rfl⟩)
                 | exact Or.inl ⟨rfl, rfl, rfl⟩)
          | (have nb : ¬ (0 ≤ b ∧ b < nI (zA_ S).1.1) := zB_eq0.mp h23
             unfold opKeep
             rw [if_pos (fun z => nb (km1 h12 z.2.1 ((leB' (by omega)).mp z.2.2)))]
             exact ⟨rfl, hS, onlyX.rf⟩)
    · refine zb X_keep_s26 rfl ?_
      refine z_ret X_keep_d27 rfl ?_
      first
        | (subst e1
           have hb1 : -1 ≤ b ∧ b ≤ nI (zA_ S).1.1 - 1 := by
             first
               | (rw [h12]; exact And.intro (Int32.le_refl _) (m1le (by omega)))
               | (have g2 := zB_ne0.mp h23
                  exact And.intro (Int32.le_trans (by decide) g2.1) ((leB (by omega)).mpr g2.2))
           unfold opKeep
           rw [if_neg (fun z => z (And.intro (And.intro (by decide) (by decide)) hb1)), show (nI 4).toNatClampNeg = 4 from rfl]
           first
             | rw [if_pos (Int32.not_le.mp h29)]
             | rw [if_neg (Int32.not_lt.mpr h29)]
           refine ⟨rfl, hS.sh (s := 4) (by omega) (fun c hc => by first | (rw [zpI_ne hc]; exact clr_o hc) | exact clr_o hc) rfl (fun _ _ => rfl) (fun s' hs' hne q => ?_) ?_⟩
           · unfold xH1 at q ⊢
             have f : ∀ (x : Int32) (w : Nat → Int32), fu w 4 x s' = w s' := fun x w => if_neg hne
             simp only [f]
             exact q
           · refine ⟨?_, (hH.one (s := 4) (by omega)).2⟩
             first
               | exact Or.inr (Or.inl ⟨rfl, rfl, rfl⟩)
               | exact Or.inl ⟨rfl, rfl, rfl⟩)
        | (have nb : ¬ (0 ≤ b ∧ b < nI (zA_ S).1.1) := zB_eq0.mp h23
           unfold opKeep
           rw [if_pos (fun z => nb (km1 h12 z.2.1 ((leB' (by omega)).mp z.2.2)))]
           exact ⟨rfl, hS, onlyX.rf⟩)

set_option maxRecDepth 100000 in
set_option maxHeartbeats 4000000 in
theorem xs_keep_5 {g : zG} {d : Nat} {S : zS} {μ : zMem} {b : Int32} (hd : 2 ≤ d) (hS : xS S μ) : zM g d X_keep [.ref 1, .int (nI 5), .int b] μ (pO xS onlyX (opKeep S (nI 5) b) μ) := by
  refine zM_of (by decide +kernel) rfl rfl (Nat.le_of_ble_eq_true rfl) rfl ?_
  obtain ⟨ho, h2, hT, hC, hD, hI, hA, hH⟩ := hS
  have hS : xS S μ := ⟨ho, h2, hT, hC, hD, hI, hA, hH⟩
  have hb := ho.b
  have hv := ho.v
  have hB6 := ho.b6
  have hV12 := ho.v12
  have hz : zq sX μ μ := zq.rf
  replace hA : xA (zA_ S) μ := hA
  have e7 : μ.1 9 2 = nI (zA_ S).1.1 := hA.1
  have h50 : (zA_ S).1.1 ≤ 50 := hA.2.1
  replace hH : xH (zH S) μ := hH
  refine zb X_keep_s0 rfl ?_
  refine zcallV X_keep_d2 k10_93 (by omega) (x_shelf_5 (by omega)) rfl rfl rfl (Nat.le_of_ble_eq_true rfl) ?_
  rintro _ μx ⟨rfl, hx⟩
  rw [hx]
  clear hx μx
  refine zb X_keep_s5 rfl ?_
  refine z_null X_keep_d7 ?_
  refine zb X_keep_s10 rfl ?_
  refine z_ceq X_keep_d12 (tgt := 28) rfl (fun h12 => ?_) (fun h12 => ?_)
  · refine zb X_keep_s28 rfl ?_
    refine z_ge X_keep_d29 (tgt := 39) rfl (fun h29 => ?_) (fun h29 => ?_)
    · refine zb X_keep_s39 rfl ?_
      refine zcallV X_keep_d41 k10_335 (by omega) (x_hold_5 _ (by omega)) rfl rfl rfl (Nat.le_of_ble_eq_true rfl) ?_
      rintro _ μ1 ⟨rfl, e1⟩
      refine zb X_keep_s44 rfl ?_
      refine z_ret X_keep_d45 rfl ?_
      first
        | (subst e1
           have hb1 : -1 ≤ b ∧ b ≤ nI (zA_ S).1.1 - 1 := by
             first
               | (rw [h12]; exact And.intro (Int32.le_refl _) (m1le (by omega)))
               | (have g2 := zB_ne0.mp h23
                  exact And.intro (Int32.le_trans (by decide) g2.1) ((leB (by omega)).mpr g2.2))
           unfold opKeep
           rw [if_neg (fun z => z (And.intro (And.intro (by decide) (by decide)) hb1)), show (nI 5).toNatClampNeg = 5 from rfl]
           first
             | rw [if_pos (Int32.not_le.mp h29)]
             | rw [if_neg (Int32.not_lt.mpr h29)]
           refine ⟨rfl, hS.sh (s := 5) (by omega) (fun c hc => by first | (rw [zpI_ne hc]; exact clr_o hc) | exact clr_o hc) rfl (fun _ _ => rfl) (fun s' hs' hne q => ?_) ?_⟩
           · unfold xH1 at q ⊢
             have f : ∀ (x : Int32) (w : Nat → Int32), fu w 5 x s' = w s' := fun x w => if_neg hne
             simp only [f]
             exact q
           · refine ⟨?_, (hH.one (s := 5) (by omega)).2⟩
             first
               | exact Or.inr (Or.inl ⟨rfl, rfl, rfl⟩)
               | exact Or.inl ⟨rfl, rfl, rfl⟩)
        | (have nb : ¬ (0 ≤ b ∧ b < nI (zA_ S).1.1) := zB_eq0.mp h23
           unfold opKeep
           rw [if_pos (fun z => nb (km1 h12 z.2.1 ((leB' (by omega)).mp z.2.2)))]
           exact ⟨rfl, hS, onlyX.rf⟩)
    · refine zb X_keep_s32 rfl ?_
      refine zcallV X_keep_d33 k10_332 (by omega) (x_clear_5) rfl rfl rfl (Nat.le_of_ble_eq_true rfl) ?_
      rintro _ μ1 ⟨rfl, e1⟩
      refine zb X_keep_s36 rfl ?_
      refine z_ret X_keep_d45 rfl ?_
      first
        | (subst e1
           have hb1 : -1 ≤ b ∧ b ≤ nI (zA_ S).1.1 - 1 := by
             first
               | (rw [h12]; exact And.intro (Int32.le_refl _) (m1le (by omega)))
               | (have g2 := zB_ne0.mp h23
                  exact And.intro (Int32.le_trans (by decide) g2.1) ((leB (by omega)).mpr g2.2))
           unfold opKeep
           rw [if_neg (fun z => z (And.intro (And.intro (by decide) (by decide)) hb1)), show (nI 5).toNatClampNeg = 5 from rfl]
           first
             | rw [if_pos (Int32.not_le.mp h29)]
             | rw [if_neg (Int32.not_lt.mpr h29)]
           refine ⟨rfl, hS.sh (s := 5) (by omega) (fun c hc => by first | (rw [zpI_ne hc]; exact clr_o hc) | exact clr_o hc) rfl (fun _ _ => rfl) (fun s' hs' hne q => ?_) ?_⟩
           · unfold xH1 at q ⊢
             have f : ∀ (x : Int32) (w : Nat → Int32), fu w 5 x s' = w s' := fun x w => if_neg hne
             simp only [f]
             exact q
           · refine ⟨?_, (hH.one (s := 5) (by omega)).2⟩
             first
               | exact Or.inr (Or.inl ⟨rfl, rfl, rfl⟩)
               | exact Or.inl ⟨rfl, rfl, rfl⟩)
        | (have nb : ¬ (0 ≤ b ∧ b < nI (zA_ S).1.1) := zB_eq0.mp h23
           unfold opKeep
           rw [if_pos (fun z => nb (km1 h12 z.2.1 ((leB' (by omega)).mp z.2.2)))]
           exact ⟨rfl, hS, onlyX.rf⟩)
  · refine zb X_keep_s15 rfl ?_
    refine zcallV X_keep_d20 k10_329 (by omega) (x_hasBody (n := (zA_ S).1.1) b e7) rfl rfl rfl (Nat.le_of_ble_eq_true rfl) ?_
    rintro _ μx ⟨rfl, hx⟩
    rw [hx]
    clear hx μx
    refine z_ne X_keep_d23 (tgt := 28) rfl (fun h23 => ?_) (fun h23 => ?_)
    · refine zb X_keep_s28 rfl ?_
      refine z_ge X_keep_d29 (tgt := 39) rfl (fun h29 => ?_) (fun h29 => ?_)
      · refine zb X_keep_s39 rfl ?_
        refine zcallV X_keep_d41 k10_335 (by omega) (x_hold_5 _ (by omega)) rfl rfl rfl (Nat.le_of_ble_eq_true rfl) ?_
        rintro _ μ1 ⟨rfl, e1⟩
        refine zb X_keep_s44 rfl ?_
        refine z_ret X_keep_d45 rfl ?_
        first
          | (subst e1
             have hb1 : -1 ≤ b ∧ b ≤ nI (zA_ S).1.1 - 1 := by
               first
                 | (rw [h12]; exact And.intro (Int32.le_refl _) (m1le (by omega)))
                 | (have g2 := zB_ne0.mp h23
                    exact And.intro (Int32.le_trans (by decide) g2.1) ((leB (by omega)).mpr g2.2))
             unfold opKeep
             rw [if_neg (fun z => z (And.intro (And.intro (by decide) (by decide)) hb1)), show (nI 5).toNatClampNeg = 5 from rfl]
             first
               | rw [if_pos (Int32.not_le.mp h29)]
               | rw [if_neg (Int32.not_lt.mpr h29)]
             refine ⟨rfl, hS.sh (s := 5) (by omega) (fun c hc => by first | (rw [zpI_ne hc]; exact clr_o hc) | exact clr_o hc) rfl (fun _ _ => rfl) (fun s' hs' hne q => ?_) ?_⟩
             · unfold xH1 at q ⊢
               have f : ∀ (x : Int32) (w : Nat → Int32), fu w 5 x s' = w s' := fun x w => if_neg hne
               simp only [f]
               exact q
             · refine ⟨?_, (hH.one (s := 5) (by omega)).2⟩
               first
                 | exact Or.inr (Or.inl ⟨rfl, rfl, rfl⟩)
                 | exact Or.inl ⟨rfl, rfl, rfl⟩)
          | (have nb : ¬ (0 ≤ b ∧ b < nI (zA_ S).1.1) := zB_eq0.mp h23
             unfold opKeep
             rw [if_pos (fun z => nb (km1 h12 z.2.1 ((leB' (by omega)).mp z.2.2)))]
             exact ⟨rfl, hS, onlyX.rf⟩)
      · refine zb X_keep_s32 rfl ?_
        refine zcallV X_keep_d33 k10_332 (by omega) (x_clear_5) rfl rfl rfl (Nat.le_of_ble_eq_true rfl) ?_
        rintro _ μ1 ⟨rfl, e1⟩
        refine zb X_keep_s36 rfl ?_
        refine z_ret X_keep_d45 rfl ?_
        first
          | (subst e1
             have hb1 : -1 ≤ b ∧ b ≤ nI (zA_ S).1.1 - 1 := by
               first
                 | (rw [h12]; exact And.intro (Int32.le_refl _) (m1le (by omega)))
                 | (have g2 := zB_ne0.mp h23
                    exact And.intro (Int32.le_trans (by decide) g2.1) ((leB (by omega)).mpr g2.2))
             unfold opKeep
             rw [if_neg (fun z => z (And.intro (And.intro (by decide) (by decide)) hb1)), show (nI 5).toNatClampNeg = 5 from rfl]
             first
               | rw [if_pos (Int32.not_le.mp h29)]
               | rw [if_neg (Int32.not_lt.mpr h29)]
             refine ⟨rfl, hS.sh (s := 5) (by omega) (fun c hc => by first | (rw [zpI_ne hc]; exact clr_o hc) | exact clr_o hc) rfl (fun _ _ => rfl) (fun s' hs' hne q => ?_) ?_⟩
             · unfold xH1 at q ⊢
               have f : ∀ (x : Int32) (w : Nat → Int32), fu w 5 x s' = w s' := fun x w => if_neg hne
               simp only [f]
               exact q
             · refine ⟨?_, (hH.one (s := 5) (by omega)).2⟩
               first
                 | exact Or.inr (Or.inl ⟨rfl, rfl, rfl⟩)
                 | exact Or.inl ⟨rfl, rfl, rfl⟩)
          | (have nb : ¬ (0 ≤ b ∧ b < nI (zA_ S).1.1) := zB_eq0.mp h23
             unfold opKeep
             rw [if_pos (fun z => nb (km1 h12 z.2.1 ((leB' (by omega)).mp z.2.2)))]
             exact ⟨rfl, hS, onlyX.rf⟩)
    · refine zb X_keep_s26 rfl ?_
      refine z_ret X_keep_d27 rfl ?_
      first
        | (subst e1
           have hb1 : -1 ≤ b ∧ b ≤ nI (zA_ S).1.1 - 1 := by
             first
               | (rw [h12]; exact And.intro (Int32.le_refl _) (m1le (by omega)))
               | (have g2 := zB_ne0.mp h23
                  exact And.intro (Int32.le_trans (by decide) g2.1) ((leB (by omega)).mpr g2.2))
           unfold opKeep
           rw [if_neg (fun z => z (And.intro (And.intro (by decide) (by decide)) hb1)), show (nI 5).toNatClampNeg = 5 from rfl]
           first
             | rw [if_pos (Int32.not_le.mp h29)]
             | rw [if_neg (Int32.not_lt.mpr h29)]
           refine ⟨rfl, hS.sh (s := 5) (by omega) (fun c hc => by first | (rw [zpI_ne hc]; exact clr_o hc) | exact clr_o hc) rfl (fun _ _ => rfl) (fun s' hs' hne q => ?_) ?_⟩
           · unfold xH1 at q ⊢
             have f : ∀ (x : Int32) (w : Nat → Int32), fu w 5 x s' = w s' := fun x w => if_neg hne
             simp only [f]
             exact q
           · refine ⟨?_, (hH.one (s := 5) (by omega)).2⟩
             first
               | exact Or.inr (Or.inl ⟨rfl, rfl, rfl⟩)
               | exact Or.inl ⟨rfl, rfl, rfl⟩)
        | (have nb : ¬ (0 ≤ b ∧ b < nI (zA_ S).1.1) := zB_eq0.mp h23
           unfold opKeep
           rw [if_pos (fun z => nb (km1 h12 z.2.1 ((leB' (by omega)).mp z.2.2)))]
           exact ⟨rfl, hS, onlyX.rf⟩)
