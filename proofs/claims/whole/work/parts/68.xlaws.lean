/-! the class: the law changed -/
theorem xS_lawed {S : zS} {μ μ' : zMem} {L : Int32 → Int32 → Int32 → Int32 → Int32 → Int32 → Int32} (hS : xS S μ) (hr : ∀ c, ¬ c = 3 → ¬ c = 10 → ¬ c = 11 → ¬ (85 ≤ c ∧ c ≤ 92) → μ'.1 c = μ.1 c) (h2 : μ'.2.1 = μ.2.1) (h31 : μ'.1 3 1 = 0) (hl : xL L μ') : xS (sF (sTp S (0, (tT S).2)) (fnL S.1 L)) μ' ∧ onlyX μ μ' := by
  obtain ⟨⟨⟨a1, a2, a3, a4⟩, ⟨r1, r2, r3, r4, r5, r6, r7⟩, -⟩, b2, b3, b4, b5, b6, b7, b8⟩ := hS
  have r : ∀ c, ¬ c = 3 → ¬ c = 10 → ¬ c = 11 → ¬ (85 ≤ c ∧ c ≤ 92) → μ'.1 c = μ.1 c := hr
  refine ⟨⟨⟨⟨?_, a2, ?_, a4⟩, ⟨?_, ?_, ?_, ?_, ?_, ?_, ?_⟩, hl⟩, ?_, ?_, ?_, ?_, ?_, ?_, ?_⟩, ?_⟩
  · rw [r 2 (by decide) (by decide) (by decide) (by decide)]; exact a1
  · rw [r 2 (by decide) (by decide) (by decide) (by decide)]; exact a3
  · rw [r 54 (by decide) (by decide) (by decide) (by decide)]; exact r1
  · rw [r 55 (by decide) (by decide) (by decide) (by decide)]; exact r2
  · rw [r 56 (by decide) (by decide) (by decide) (by decide)]; exact r3
  · rw [r 57 (by decide) (by decide) (by decide) (by decide)]; exact r4
  · rw [r 58 (by decide) (by decide) (by decide) (by decide)]; exact r5
  · rw [r 59 (by decide) (by decide) (by decide) (by decide)]; exact r6
  · rw [r 60 (by decide) (by decide) (by decide) (by decide)]; exact r7
  · unfold x2 at b2 ⊢
    rw [r 2 (by decide) (by decide) (by decide) (by decide), r 7 (by decide) (by decide) (by decide) (by decide)]
    exact b2
  · refine ⟨h31, Nat.zero_le _, ?_⟩
    rw [r 61 (by decide) (by decide) (by decide) (by decide)]
    exact b3.2.2
  · unfold xC at b4 ⊢
    rw [r 8 (by decide) (by decide) (by decide) (by decide), r 79 (by decide) (by decide) (by decide) (by decide), r 80 (by decide) (by decide) (by decide) (by decide), r 81 (by decide) (by decide) (by decide) (by decide), r 82 (by decide) (by decide) (by decide) (by decide)]
    exact b4
  · unfold xD at b5 ⊢
    rw [r 75 (by decide) (by decide) (by decide) (by decide)]
    exact b5
  · unfold xI at b6 ⊢
    rw [r 7 (by decide) (by decide) (by decide) (by decide), r 76 (by decide) (by decide) (by decide) (by decide), r 77 (by decide) (by decide) (by decide) (by decide), r 78 (by decide) (by decide) (by decide) (by decide)]
    exact b6
  · unfold xA at b7 ⊢
    rw [r 9 (by decide) (by decide) (by decide) (by decide), r 83 (by decide) (by decide) (by decide) (by decide), r 84 (by decide) (by decide) (by decide) (by decide)]
    exact b7
  · intro s hs
    rw [r (13 + s) (by omega) (by omega) (by omega) (by omega), h2]
    exact b8 s hs
  · intro c hc
    have hlt : c = 0 ∨ (25 ≤ c ∧ c ≤ 53) := by
      unfold isMc at hc
      simp only [Bool.or_eq_true, Bool.and_eq_true, beq_iff_eq, Nat.ble_eq] at hc
      exact hc
    exact ⟨r c (by omega) (by omega) (by omega) (by omega), by rw [h2]⟩
theorem zq_rd {P st ar : Nat} (hk : rK P st ar) {μ μ' : zMem} (h : zq (sR P st ar) μ μ') : ∀ c, ¬ c = 3 → ¬ c = 10 → ¬ c = 11 → ¬ (85 ≤ c ∧ c ≤ 92) → μ'.1 c = μ.1 c := by
  intro c h1 h2 h3 h4
  funext k
  refine h.1 c k ?_
  unfold sR
  rcases hk with ⟨rfl, rfl, rfl⟩ | ⟨rfl, rfl, rfl⟩
  · simp [h1, h3, show ¬ c = 89 by omega, show ¬ c = 90 by omega]
  · simp [h1, h2, show ¬ c = 85 by omega, show ¬ c = 86 by omega]
theorem zpI_o {μ : zMem} {c k c' : Nat} {x : Int32} (h : ¬ c' = c) : (zpI μ c k x).1 c' = μ.1 c' := zpI_ne h

set_option maxRecDepth 100000 in
set_option maxHeartbeats 4000000 in
theorem xs_law_11 {g : zG} {d : Nat} {S : zS} {μ : zMem} (hd : 56 ≤ d) (hS : xS S μ) (hok : okT S) (hR : μ.2.2 = zR10) (hprg : prg 10 85 86 (flaw S.1) μ) : zM g d X_law [.ref 1] μ (pO xS onlyX (opLaw S) μ) := by
  refine zM_of (by decide +kernel) rfl rfl (Nat.le_of_ble_eq_true rfl) rfl ?_
  have hT : xT (tT S) μ := hS.2.2.1
  unfold opLaw
  unfold okT at hok
  obtain ⟨hT1, hn2, hT3⟩ := hT
  generalize hn9 : (tT S).1 = n at hT1 hn2 hok ⊢
  rw [← hT3] at hok ⊢
  have e61 := hT3
  refine zb X_law_s0 rfl ?_
  refine zcallV X_law_d4 k10_146 (by omega) (x_text_11 hR hT1 hn2 hok (by omega)) rfl rfl rfl (Nat.le_of_ble_eq_true rfl) ?_
  rintro v μ1 hv
  cases hr : qLw (μ.1 61) n 121 0 0 with
  | inl p =>
    have hv2 : rW 11 89 90 μ n [] (.inl p) v μ1 := by rw [← hr]; exact hv
    replace hv2 : v = some (.int 0) ∧ rF 11 89 90 μ p μ1 := hv2
    obtain rfl := hv2.1
    obtain ⟨m1, m2, R⟩ := μ1
    obtain rfl : R = zR10 := hv2.2.R hR
    dsimp only
    refine zb X_law_s7 rfl ?_
    refine z_ne X_law_d17 (tgt := 31) rfl (fun h17 => absurd rfl h17) (fun h17 => ?_)
    refine zb X_law_s20 rfl ?_
    refine z_ret X_law_d30 rfl ?_
    have e3 : m1 3 2 = nI p := hv2.2.2
    have hf : zq (sR 11 89 90) μ (m1, m2, zR10) := hv2.2.1
    have ee : m2 = μ.2.1 := congrArg Prod.fst hf.2
    have k := xS_lawed (μ' := zpI (m1, m2, zR10) 3 1 0) (L := flaw S.1) hS (fun c h1 h2 h3 h4 => (zpI_o h1).trans (zq_rd (Or.inl ⟨rfl, rfl, rfl⟩) hf c h1 h2 h3 h4)) ee (zpI_at.trans (if_pos rfl)) (Or.inl ⟨rfl, hprg.q (hf.1 10 4 rfl) (funext fun k => hf.1 85 k rfl) (funext fun k => hf.1 86 k rfl)⟩)
    rw [show (zpI (m1, m2, zR10) 3 1 0).1 3 2 = nI p from e3]
    rw [← e61] at k
    exact ⟨rfl, k.1, k.2⟩
  | inr z =>
    obtain ⟨c, e⟩ := z
    have hv2 : rW 11 89 90 μ n [] (.inr (c, e)) v μ1 := by rw [← hr]; exact hv
    replace hv2 : v = some (.int 1) ∧ rS 11 89 90 μ n c μ1 := hv2
    have hlen := qLw_len 121 0 0 c e (Nat.zero_le _) hr
    obtain rfl := hv2.1
    obtain ⟨m1, m2, R⟩ := μ1
    obtain rfl : R = zR10 := hv2.2.f.R hR
    dsimp only
    refine zb X_law_s7 rfl ?_
    refine z_ne X_law_d17 (tgt := 31) rfl (fun h17 => ?_) (fun h17 => absurd h17 (by decide))
    refine zb X_law_s31 rfl ?_
    refine zcallV X_law_d46 k10_156 (by omega) (x_exch_11) rfl rfl rfl (Nat.le_of_ble_eq_true rfl) ?_
    rintro _ μ3 ⟨rfl, rfl⟩
    refine zb X_law_s49 rfl ?_
    refine z_ret X_law_d53 rfl ?_
    have hs : rS 11 89 90 μ n c (m1, m2, zR10) := hv2.2
    have hf := hs.1
    have ee : m2 = μ.2.1 := congrArg Prod.fst hf.2
    have k := xS_lawed (μ' := zpR (zpI (m1, m2, zuR zR10 1 10) 3 1 0) 0 11) (L := qlaw 1 (μ.1 61) n) hS (fun c h1 h2 h3 h4 => (zpI_o h1).trans (zq_rd (Or.inl ⟨rfl, rfl, rfl⟩) hf c h1 h2 h3 h4)) ee (show (zpI (m1, m2, zR10) 3 1 0).1 3 1 = 0 from zpI_at.trans (if_pos rfl)) (Or.inr ⟨zR_x1, Or.inr ⟨μ.1 61, n, c, e, hn2, hr, qlaw_1 hr, hs.2.2.1, hlen.1, by omega, hs.2.2.2⟩⟩)
    rw [← e61] at k
    exact ⟨rfl, k.1, k.2⟩

set_option maxRecDepth 100000 in
set_option maxHeartbeats 4000000 in
theorem xs_law_10 {g : zG} {d : Nat} {S : zS} {μ : zMem} (hd : 56 ≤ d) (hS : xS S μ) (hok : okT S) (hR : μ.2.2 = zR11) (hprg : prg 11 89 90 (flaw S.1) μ) : zM g d X_law [.ref 1] μ (pO xS onlyX (opLaw S) μ) := by
  refine zM_of (by decide +kernel) rfl rfl (Nat.le_of_ble_eq_true rfl) rfl ?_
  have hT : xT (tT S) μ := hS.2.2.1
  unfold opLaw
  unfold okT at hok
  obtain ⟨hT1, hn2, hT3⟩ := hT
  generalize hn9 : (tT S).1 = n at hT1 hn2 hok ⊢
  rw [← hT3] at hok ⊢
  have e61 := hT3
  refine zb X_law_s0 rfl ?_
  refine zcallV X_law_d4 k10_146 (by omega) (x_text_10 hR hT1 hn2 hok (by omega)) rfl rfl rfl (Nat.le_of_ble_eq_true rfl) ?_
  rintro v μ1 hv
  cases hr : qLw (μ.1 61) n 121 0 0 with
  | inl p =>
    have hv2 : rW 10 85 86 μ n [] (.inl p) v μ1 := by rw [← hr]; exact hv
    replace hv2 : v = some (.int 0) ∧ rF 10 85 86 μ p μ1 := hv2
    obtain rfl := hv2.1
    obtain ⟨m1, m2, R⟩ := μ1
    obtain rfl : R = zR11 := hv2.2.R hR
    dsimp only
    refine zb X_law_s7 rfl ?_
    refine z_ne X_law_d17 (tgt := 31) rfl (fun h17 => absurd rfl h17) (fun h17 => ?_)
    refine zb X_law_s20 rfl ?_
    refine z_ret X_law_d30 rfl ?_
    have e3 : m1 3 2 = nI p := hv2.2.2
    have hf : zq (sR 10 85 86) μ (m1, m2, zR11) := hv2.2.1
    have ee : m2 = μ.2.1 := congrArg Prod.fst hf.2
    have k := xS_lawed (μ' := zpI (m1, m2, zR11) 3 1 0) (L := flaw S.1) hS (fun c h1 h2 h3 h4 => (zpI_o h1).trans (zq_rd (Or.inr ⟨rfl, rfl, rfl⟩) hf c h1 h2 h3 h4)) ee (zpI_at.trans (if_pos rfl)) (Or.inr ⟨rfl, hprg.q (hf.1 11 4 rfl) (funext fun k => hf.1 89 k rfl) (funext fun k => hf.1 90 k rfl)⟩)
    rw [show (zpI (m1, m2, zR11) 3 1 0).1 3 2 = nI p from e3]
    rw [← e61] at k
    exact ⟨rfl, k.1, k.2⟩
  | inr z =>
    obtain ⟨c, e⟩ := z
    have hv2 : rW 10 85 86 μ n [] (.inr (c, e)) v μ1 := by rw [← hr]; exact hv
    replace hv2 : v = some (.int 1) ∧ rS 10 85 86 μ n c μ1 := hv2
    have hlen := qLw_len 121 0 0 c e (Nat.zero_le _) hr
    obtain rfl := hv2.1
    obtain ⟨m1, m2, R⟩ := μ1
    obtain rfl : R = zR11 := hv2.2.f.R hR
    dsimp only
    refine zb X_law_s7 rfl ?_
    refine z_ne X_law_d17 (tgt := 31) rfl (fun h17 => ?_) (fun h17 => absurd h17 (by decide))
    refine zb X_law_s31 rfl ?_
    refine zcallV X_law_d46 k10_156 (by omega) (x_exch_10) rfl rfl rfl (Nat.le_of_ble_eq_true rfl) ?_
    rintro _ μ3 ⟨rfl, rfl⟩
    refine zb X_law_s49 rfl ?_
    refine z_ret X_law_d53 rfl ?_
    have hs : rS 10 85 86 μ n c (m1, m2, zR11) := hv2.2
    have hf := hs.1
    have ee : m2 = μ.2.1 := congrArg Prod.fst hf.2
    have k := xS_lawed (μ' := zpR (zpI (m1, m2, zuR zR11 1 11) 3 1 0) 0 10) (L := qlaw 1 (μ.1 61) n) hS (fun c h1 h2 h3 h4 => (zpI_o h1).trans (zq_rd (Or.inr ⟨rfl, rfl, rfl⟩) hf c h1 h2 h3 h4)) ee (show (zpI (m1, m2, zR10) 3 1 0).1 3 1 = 0 from zpI_at.trans (if_pos rfl)) (Or.inl ⟨zR_x2, Or.inr ⟨μ.1 61, n, c, e, hn2, hr, qlaw_1 hr, hs.2.2.1, hlen.1, by omega, hs.2.2.2⟩⟩)
    rw [← e61] at k
    exact ⟨rfl, k.1, k.2⟩

theorem xs_law {g : zG} {d : Nat} {S : zS} {μ : zMem} (hd : 56 ≤ d) (hS : xS S μ) (hok : okT S) : zM g d X_law [.ref 1] μ (pO xS onlyX (opLaw S) μ) := by
  rcases hS.1.2.2 with ⟨h1, h2⟩ | ⟨h1, h2⟩
  · exact xs_law_11 hd hS hok h1 h2
  · exact xs_law_10 hd hS hok h1 h2

