/-! whom one must win back: both alike; the face -/
theorem win_eq {F : zF} (hF : okF F) (h6 : fB F ≤ 6) (h12 : fV F ≤ 12) (day h : Int32) : winJ F day h (fB F) 0 0 = winS F day h := by
  have hp : 2 ^ fV F ≤ 4096 := Nat.pow_le_pow_right (by decide) h12
  rw [winS_is h12]
  have hg := bst_fold (wQ F day h) (2 ^ fV F)
  generalize zfold (stB (wQ F day h)) 0 (2 ^ fV F) none = R at hg ⊢
  -- the parts of a pure set are pure
  have hpart : ∀ s, s < 2 ^ fV F → wQ F day h s → ∀ b, b < fB F → prt F s b < 2 ^ fV F ∧ wQb F b day h (prt F s b) := by
    intro s hs hq b hb
    refine ⟨bitsN_lt _ _, sbm_tb (fun v hv => ?_), ?_⟩
    · obtain ⟨h1, h2, h3⟩ := prt_bit.mp hv
      have h4 := (bitsN_iff _ _ _).mp (sbm_bits hq.1 h2)
      exact (bitsN_iff _ _ _).mpr ⟨h1, ((beta_is hF h6 h1).2.2 b (by omega)).mpr h3, h4.2⟩
    · rw [← pur_is hF h6 h12 day h hb (s := s) (w := prt F s b) (by omega) (bitsN_lt _ _) (fun v hv => prt_bit.trans ⟨fun z => z.2, fun z => ⟨hv, z⟩⟩)]
      exact hq.2 b hb
  by_cases hall : ∃ b, b < fB F ∧ (winI F b day h).1 < 0
  · obtain ⟨b, hb, hneg⟩ := hall
    rw [winJ_no (fB F) 0 0 ⟨b, Nat.zero_le _, by omega, hneg⟩]
    cases R with
    | none => rfl
    | some q =>
      exfalso
      have hbb := bst_fold (wQb F b day h) (2 ^ fV F)
      rw [winI_is h12] at hneg
      rw [((encO_lt hp hbb).2).mp hneg] at hbb
      have := hpart q hg.1 hg.2.1 b hb
      exact hbb _ this.1 this.2
  · have hex : ∀ b, ∃ q, b < fB F → (winI F b day h).1 = nI q ∧ bst (wQb F b day h) (2 ^ fV F) (some q) := by
      intro b
      by_cases hb : b < fB F
      · have hbb := bst_fold (wQb F b day h) (2 ^ fV F)
        have hn : ¬ (winI F b day h).1 < 0 := fun z => hall ⟨b, hb, z⟩
        rw [winI_is h12] at hn ⊢
        cases hr : zfold (stB (wQb F b day h)) 0 (2 ^ fV F) none with
        | none => rw [hr] at hn; exact absurd (show (-2 : Int32) < 0 by decide) hn
        | some q => rw [hr] at hbb; exact ⟨q, fun _ => ⟨rfl, hbb⟩⟩
      · exact ⟨0, fun z => absurd z hb⟩
    obtain ⟨w, hw⟩ := Classical.axiomOfChoice hex
    have hwV : ∀ b, b < fB F → w b < 2 ^ fV F := fun b hb => (hw b hb).2.1
    have hw12 : ∀ b, b < fB F → w b < 2 ^ 12 := fun b hb => Nat.lt_of_lt_of_le (hwV b hb) hp
    have e0 : winJ F day h (fB F) 0 0 = nI (orF w 0 (fB F) 0) := winJ_or (fB F) 0 0 (by decide) (fun b' _ h2 => ⟨hw12 b' (by omega), (hw b' (by omega)).1⟩)
    rw [e0]
    have hW : orF w 0 (fB F) 0 < 2 ^ fV F := orF_lt _ _ _ (Nat.two_pow_pos _) (fun b' _ h2 => hwV b' (by omega))
    have hwb : ∀ b, b < fB F → ∀ v, w b / 2 ^ v % 2 = 1 → v < fV F ∧ beta F v = b ∧ ¬ kept F v day := by
      intro b hb v hv
      have h1 := wA_at (sbm_bits (hw b hb).2.2.1.1 hv)
      exact ⟨h1.1, ((beta_is hF h6 h1.1).2.2 b (by omega)).mp h1.2.1, h1.2.2⟩
    have hbit : ∀ b, b < fB F → ∀ v, w b / 2 ^ v % 2 = 1 ↔ orF w 0 (fB F) 0 / 2 ^ v % 2 = 1 ∧ beta F v = b := by
      intro b hb v
      rw [orF_bit]
      constructor
      · intro hv
        exact ⟨Or.inr ⟨b, Nat.zero_le _, by omega, hv⟩, (hwb b hb v hv).2.1⟩
      · rintro ⟨z | ⟨b', -, h2, h3⟩, hbe⟩
        · rw [Nat.zero_div] at z; exact absurd z (by decide)
        · have := (hwb b' (by omega) v h3).2.1
          rw [← hbe, this]
          exact h3
    generalize orF w 0 (fB F) 0 = W at hW hbit ⊢
    have hWQ : wQ F day h W := by
      refine ⟨sbm_tb (fun v hv => ?_), fun b hb => ?_⟩
      · have hvV := bit_lt hW hv
        have hbt := (beta_is hF h6 hvV).1
        have := hwb (beta F v) hbt v ((hbit _ hbt v).mpr ⟨hv, rfl⟩)
        exact (bitsN_iff _ _ _).mpr ⟨hvV, this.2.2⟩
      · rw [pur_is hF h6 h12 day h hb (s := W) (by omega) (hwV b hb) (fun v _ => hbit b hb v)]
        exact (hw b hb).2.2.1.2
    have hWs := split_pop hF h6 hW hbit
    cases R with
    | none => exact absurd hWQ (hg W hW)
    | some q =>
      obtain ⟨g1, g2, g3⟩ := hg
      have hq := hpart q g1 g2
      have hqs := split_pop hF h6 (w := prt F q) g1 (fun b _ v => prt_bit.trans ⟨fun z => z.2, fun z => ⟨bit_lt g1 z.1, z⟩⟩)
      have hle : ∀ b, b < fB F → pc (w b) ≤ pc (prt F q b) := fun b hb => by
        have := (hw b hb).2.2.2 _ (hq b hb).1 (hq b hb).2
        omega
      have hpop := nsm_le (f := fun b => pc (w b)) (g := fun b => pc (prt F q b)) (fB F) hle
      have hgW := g3 W hW hWQ
      rw [hWs.1, hqs.1] at hpop
      have heq : pc q = pc W ∧ q ≤ W := by omega
      have hall2 := nsm_eq (f := fun b => pc (w b)) (g := fun b => pc (prt F q b)) (fB F) hle (by rw [hWs.1, hqs.1]; exact heq.1.symm)
      have hval := nsm_le (f := w) (g := prt F q) (fB F) (fun b hb => by
        have h1 := (hw b hb).2.2.2 _ (hq b hb).1 (hq b hb).2
        have h2 := hall2 b hb
        omega)
      rw [hWs.2 h12 hw12, hqs.2 h12 (fun b hb => Nat.lt_of_lt_of_le (hq b hb).1 hp)] at hval
      show nI W = nI q
      rw [show W = q by omega]
theorem winS_or {F : zF} (hV : fV F ≤ 12) (day h : Int32) : winS F day h = -2 ∨ ∃ q, q < 4096 ∧ winS F day h = nI q := by
  rw [winS_is hV]
  have hp : 2 ^ fV F ≤ 4096 := Nat.pow_le_pow_right (by decide) hV
  have hg := bst_fold (wQ F day h) (2 ^ fV F)
  generalize zfold (stB (wQ F day h)) 0 (2 ^ fV F) none = R at hg ⊢
  cases R with
  | none => exact Or.inl rfl
  | some q => exact Or.inr ⟨q, Nat.lt_of_lt_of_le hg.1 hp, rfl⟩
theorem w01 {w : Int32} (h : 0 ≤ w ∧ w ≤ 1) (h0 : ¬ w = 0) : w = 1 := by
  obtain ⟨q, hq, rfl⟩ := nI_of2 (M := 1) (n := 1) rfl (Int32.not_lt.mpr h.1) h.2
  rcases (show q = 0 ∨ q = 1 by omega) with rfl | rfl
  · exact absurd rfl h0
  · rfl

set_option maxRecDepth 100000 in
set_option maxHeartbeats 4000000 in
theorem x_win {g : zG} {d : Nat} {F : zF} {μ : zMem} {dh w : Int32} (hF : okF F) (hd : 8 ≤ d) (ho : oX F μ) : zM g d X_win [.ref 1, .int dh, .int w] μ (fun r μ' => r = some (.int (sWin F dh w)) ∧ zq sX μ μ') := by
  refine zM_of (by decide +kernel) rfl rfl (Nat.le_of_ble_eq_true rfl) rfl ?_
  have hz : zq sX μ μ := zq.rf
  have h12 := ho.v12
  have h6 := ho.b6
  refine zb X_win_s0 rfl ?_
  refine zcallS X_win_d1 k10_160 (by omega) (x_isDayHour _) rfl rfl (Nat.le_of_ble_eq_true rfl) ?_
  rintro _ μx ⟨rfl, hx⟩
  rw [hx]
  clear hx μx
  refine z_eq X_win_d4 (tgt := 15) rfl (fun h4 => ?_) (fun h4 => ?_)
  · refine zb X_win_s15 rfl ?_
    refine z_ret X_win_d16 rfl ?_
    refine ⟨?_, hz⟩
    unfold sWin
    first
      | rw [if_neg (fun z => (show ¬ tim dh from zB_eq0.mp h4) z.1)]
      | rw [if_neg (fun z => (show ¬ (0 ≤ w ∧ w ≤ 1) from zB_eq0.mp h12) z.2)]
      | (have hc : tim dh ∧ (0 ≤ w ∧ w ≤ 1) := ⟨zB_ne0.mp h4, zB_ne0.mp h12⟩
         rw [if_pos hc]
         first
           | rw [if_neg (fun z => z.elim (fun y => by rw [y] at h41; exact absurd h41 (by decide)) (fun y => by rw [eq9] at y; exact absurd (show nI q < 0 by rw [y]; decide) (nI_pos (by omega)))), eq9, ones_pop hq9]
           | (rw [if_pos (Or.inl (w01 hc.2 h41))]; done)
           | (have e2 : winS F (dh / 100) (hro dh) = -2 := (winS_or ho.v12 (dh / 100) (hro dh)).resolve_right (fun ⟨q, hq, e⟩ => h34 (by rw [show dh - dh / 100 * 100 = hro dh from rfl, e]; exact nI_pos' (by omega)))
              rw [if_pos (Or.inr e2), e2]))
  · refine zb X_win_s7 rfl ?_
    refine zcallS X_win_d9 k10_170 (by omega) (x_isWithin _ _) rfl rfl (Nat.le_of_ble_eq_true rfl) ?_
    rintro _ μx ⟨rfl, hx⟩
    rw [hx]
    clear hx μx
    refine z_ne X_win_d12 (tgt := 17) rfl (fun h12 => ?_) (fun h12 => ?_)
    · refine zb2 X_win_s17 rfl (by decide) (by decide) ?_
      refine zcallV X_win_d29 k10_226 (by omega) (x_winBack hF (by omega) ho) rfl rfl rfl (Nat.le_of_ble_eq_true rfl) ?_
      rintro _ μ1 ⟨rfl, hz1⟩
      replace hz := hz.tr hz1
      replace ho := ho.q hz1
      clear hz1
      rw [win_eq hF ho.b6 ho.v12]
      refine zb X_win_s32 rfl ?_
      refine z_ge X_win_d34 (tgt := 40) rfl (fun h34 => ?_) (fun h34 => ?_)
      · refine zb X_win_s40 rfl ?_
        refine z_ne X_win_d41 (tgt := 51) rfl (fun h41 => ?_) (fun h41 => ?_)
        · refine zb X_win_s51 rfl ?_
          refine z_ret X_win_d52 rfl ?_
          refine ⟨?_, hz⟩
          unfold sWin
          first
            | rw [if_neg (fun z => (show ¬ tim dh from zB_eq0.mp h4) z.1)]
            | rw [if_neg (fun z => (show ¬ (0 ≤ w ∧ w ≤ 1) from zB_eq0.mp h12) z.2)]
            | (have hc : tim dh ∧ (0 ≤ w ∧ w ≤ 1) := ⟨zB_ne0.mp h4, zB_ne0.mp h12⟩
               rw [if_pos hc]
               first
                 | rw [if_neg (fun z => z.elim (fun y => by rw [y] at h41; exact absurd h41 (by decide)) (fun y => by rw [eq9] at y; exact absurd (show nI q < 0 by rw [y]; decide) (nI_pos (by omega)))), eq9, ones_pop hq9]
                 | (rw [if_pos (Or.inl (w01 hc.2 h41))]; done)
                 | (have e2 : winS F (dh / 100) (hro dh) = -2 := (winS_or ho.v12 (dh / 100) (hro dh)).resolve_right (fun ⟨q, hq, e⟩ => h34 (by rw [show dh - dh / 100 * 100 = hro dh from rfl, e]; exact nI_pos' (by omega)))
                    rw [if_pos (Or.inr e2), e2]))
        · obtain ⟨q, hq9, eq9⟩ : ∃ q, q < 4096 ∧ winS F (dh / 100) (hro dh) = nI q := (winS_or ho.v12 (dh / 100) (hro dh)).resolve_left (fun z => by rw [show dh - dh / 100 * 100 = hro dh from rfl, z] at h34; exact absurd h34 (by decide))
          refine zb X_win_s44 rfl ?_
          rw [show dh - dh / 100 * 100 = hro dh from rfl, eq9]
          refine zcallS X_win_d45 k10_229 (by omega) (x_bitCount hq9) rfl rfl (Nat.le_of_ble_eq_true rfl) ?_
          rintro _ μx ⟨rfl, hx⟩
          rw [hx]
          clear hx μx
          refine zb X_win_s48 rfl ?_
          refine z_ret X_win_d52 rfl ?_
          refine ⟨?_, hz⟩
          unfold sWin
          first
            | rw [if_neg (fun z => (show ¬ tim dh from zB_eq0.mp h4) z.1)]
            | rw [if_neg (fun z => (show ¬ (0 ≤ w ∧ w ≤ 1) from zB_eq0.mp h12) z.2)]
            | (have hc : tim dh ∧ (0 ≤ w ∧ w ≤ 1) := ⟨zB_ne0.mp h4, zB_ne0.mp h12⟩
               rw [if_pos hc]
               first
                 | rw [if_neg (fun z => z.elim (fun y => by rw [y] at h41; exact absurd h41 (by decide)) (fun y => by rw [eq9] at y; exact absurd (show nI q < 0 by rw [y]; decide) (nI_pos (by omega)))), eq9, ones_pop hq9]
                 | (rw [if_pos (Or.inl (w01 hc.2 h41))]; done)
                 | (have e2 : winS F (dh / 100) (hro dh) = -2 := (winS_or ho.v12 (dh / 100) (hro dh)).resolve_right (fun ⟨q, hq, e⟩ => h34 (by rw [show dh - dh / 100 * 100 = hro dh from rfl, e]; exact nI_pos' (by omega)))
                    rw [if_pos (Or.inr e2), e2]))
      · refine zb X_win_s37 rfl ?_
        refine z_ret X_win_d39 rfl ?_
        refine ⟨?_, hz⟩
        unfold sWin
        first
          | rw [if_neg (fun z => (show ¬ tim dh from zB_eq0.mp h4) z.1)]
          | rw [if_neg (fun z => (show ¬ (0 ≤ w ∧ w ≤ 1) from zB_eq0.mp h12) z.2)]
          | (have hc : tim dh ∧ (0 ≤ w ∧ w ≤ 1) := ⟨zB_ne0.mp h4, zB_ne0.mp h12⟩
             rw [if_pos hc]
             first
               | rw [if_neg (fun z => z.elim (fun y => by rw [y] at h41; exact absurd h41 (by decide)) (fun y => by rw [eq9] at y; exact absurd (show nI q < 0 by rw [y]; decide) (nI_pos (by omega)))), eq9, ones_pop hq9]
               | (rw [if_pos (Or.inl (w01 hc.2 h41))]; done)
               | (have e2 : winS F (dh / 100) (hro dh) = -2 := (winS_or ho.v12 (dh / 100) (hro dh)).resolve_right (fun ⟨q, hq, e⟩ => h34 (by rw [show dh - dh / 100 * 100 = hro dh from rfl, e]; exact nI_pos' (by omega)))
                  rw [if_pos (Or.inr e2), e2]))
    · refine zb X_win_s15 rfl ?_
      refine z_ret X_win_d16 rfl ?_
      refine ⟨?_, hz⟩
      unfold sWin
      first
        | rw [if_neg (fun z => (show ¬ tim dh from zB_eq0.mp h4) z.1)]
        | rw [if_neg (fun z => (show ¬ (0 ≤ w ∧ w ≤ 1) from zB_eq0.mp h12) z.2)]
        | (have hc : tim dh ∧ (0 ≤ w ∧ w ≤ 1) := ⟨zB_ne0.mp h4, zB_ne0.mp h12⟩
           rw [if_pos hc]
           first
             | rw [if_neg (fun z => z.elim (fun y => by rw [y] at h41; exact absurd h41 (by decide)) (fun y => by rw [eq9] at y; exact absurd (show nI q < 0 by rw [y]; decide) (nI_pos (by omega)))), eq9, ones_pop hq9]
             | (rw [if_pos (Or.inl (w01 hc.2 h41))]; done)
             | (have e2 : winS F (dh / 100) (hro dh) = -2 := (winS_or ho.v12 (dh / 100) (hro dh)).resolve_right (fun ⟨q, hq, e⟩ => h34 (by rw [show dh - dh / 100 * 100 = hro dh from rfl, e]; exact nI_pos' (by omega)))
                rw [if_pos (Or.inr e2), e2]))
