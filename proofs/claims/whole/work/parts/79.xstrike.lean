/-! which bell to strike next: bell by bell as all at once -/
def tpP (n : Nat) (c : Nat → Int32) (b : Nat) : Int32 := if b < n then c b else -1
def tlP (n : Nat) (c : Nat → Int32) (b : Nat) : Int32 := if tpP n c b = -1 then 0 else 1
def lyC (F : zF) (dd h : Int32) (n : Nat) (c : Nat → Int32) (b : Nat) : Int32 × Int32 := ((lyI F b dd h (tlP n c b) (tpP n c b) 0).1, (lyI F b dd h (tlP n c b) (tpP n c b) 0).2.1)
theorem ly_l0 {F : zF} {b : Nat} {dd h told pitch l0 : Int32} : (lyI F b dd h told pitch l0).1 = (lyI F b dd h told pitch 0).1 ∧ (lyI F b dd h told pitch l0).2.1 = (lyI F b dd h told pitch 0).2.1 := by
  have key : ∀ N, (zfold (fA (lyA F b) (lyF F b dd h told pitch)) 0 N (0, 0, nI (lyA F b), 0, l0, fun _ => 0)).1 = (zfold (fA (lyA F b) (lyF F b dd h told pitch)) 0 N (0, 0, nI (lyA F b), 0, 0, fun _ => 0)).1 ∧ (zfold (fA (lyA F b) (lyF F b dd h told pitch)) 0 N (0, 0, nI (lyA F b), 0, l0, fun _ => 0)).2.1 = (zfold (fA (lyA F b) (lyF F b dd h told pitch)) 0 N (0, 0, nI (lyA F b), 0, 0, fun _ => 0)).2.1 ∧ (zfold (fA (lyA F b) (lyF F b dd h told pitch)) 0 N (0, 0, nI (lyA F b), 0, l0, fun _ => 0)).2.2.2.2.2 = (zfold (fA (lyA F b) (lyF F b dd h told pitch)) 0 N (0, 0, nI (lyA F b), 0, 0, fun _ => 0)).2.2.2.2.2 := by
    intro N
    induction N with
    | zero => exact ⟨rfl, rfl, rfl⟩
    | succ N ih =>
      rw [zf0, zf0]
      generalize zfold (fA (lyA F b) (lyF F b dd h told pitch)) 0 N (0, 0, nI (lyA F b), 0, l0, fun _ => 0) = t at ih ⊢
      generalize zfold (fA (lyA F b) (lyF F b dd h told pitch)) 0 N (0, 0, nI (lyA F b), 0, 0, fun _ => 0) = u at ih ⊢
      obtain ⟨i1, i2, i3⟩ := ih
      unfold fA lyF
      by_cases q1 : sbm (lyA F b) N
      · rw [if_pos q1, if_pos q1]
        by_cases q2 : told = 0 ∨ ftone F b + lyO F b dd h N = pitch
        · rw [if_pos q2, if_pos q2]
          unfold lyN
          dsimp only
          rw [i1, i2, i3]
          exact ⟨rfl, rfl, rfl⟩
        · rw [if_neg q2, if_neg q2]
          exact ⟨i1, i2, i3⟩
      · rw [if_neg q1, if_neg q1]
        exact ⟨i1, i2, i3⟩
  exact ⟨(key _).1, (key _).2.1⟩
abbrev lyP (F : zF) (b : Nat) (dd h told pitch : Int32) (s : Nat) : Prop := sbm (lyA F b) s ∧ (told = 0 ∨ ftone F b + lyO F b dd h s = pitch)
theorem ly_1 {F : zF} {b : Nat} {dd h told pitch l0 : Int32} : ∀ N, (zfold (fA (lyA F b) (lyF F b dd h told pitch)) 0 N (0, 0, nI (lyA F b), 0, l0, fun _ => 0)).1 = nI (nsm (fun s => if lyP F b dd h told pitch s then 1 else 0) N) := by
  intro N
  induction N with
  | zero => rfl
  | succ N ih =>
    rw [zf0, nsm_s]
    generalize zfold (fA (lyA F b) (lyF F b dd h told pitch)) 0 N (0, 0, nI (lyA F b), 0, l0, fun _ => 0) = t at ih ⊢
    unfold fA lyF
    by_cases q1 : sbm (lyA F b) N
    · rw [if_pos q1]
      by_cases q2 : told = 0 ∨ ftone F b + lyO F b dd h N = pitch
      · rw [if_pos q2, if_pos (show lyP F b dd h told pitch N from ⟨q1, q2⟩), ← nI_1, ← ih]
        rfl
      · rw [if_neg q2, if_neg (show ¬ lyP F b dd h told pitch N from fun z => q2 z.2)]
        exact ih
    · rw [if_neg q1, if_neg (show ¬ lyP F b dd h told pitch N from fun z => q1 z.1)]
      exact ih
theorem ly_2 {F : zF} (hF : okF F) (hV : fV F ≤ 12) {b : Nat} {dd h told pitch l0 : Int32} : ∀ N, (∀ p, ¬ (zfold (fA (lyA F b) (lyF F b dd h told pitch)) 0 N (0, 0, nI (lyA F b), 0, l0, fun _ => 0)).2.2.2.2.2 p = 0 ↔ ∃ s, s < N ∧ lyP F b dd h told pitch s ∧ lyO F b dd h s + 108 = nI p ∧ p < 217) ∧ (zfold (fA (lyA F b) (lyF F b dd h told pitch)) 0 N (0, 0, nI (lyA F b), 0, l0, fun _ => 0)).2.1 = nI (nzN (zfold (fA (lyA F b) (lyF F b dd h told pitch)) 0 N (0, 0, nI (lyA F b), 0, l0, fun _ => 0)).2.2.2.2.2 217) := by
  intro N
  induction N with
  | zero =>
    refine ⟨fun p => ⟨fun z => absurd rfl z, fun ⟨s, h1, _⟩ => absurd h1 (Nat.not_lt_zero _)⟩, ?_⟩
    have e : nzN (fun _ => (0 : Int32)) 217 = 0 := by
      unfold nzN
      rw [nsm_congr (g := fun _ => 0) 217 (fun v _ => if_pos rfl), nsm_0]
    show (0 : Int32) = nI (nzN (fun _ => (0 : Int32)) 217)
    rw [e]
    rfl
  | succ N ih =>
    rw [zf0]
    generalize zfold (fA (lyA F b) (lyF F b dd h told pitch)) 0 N (0, 0, nI (lyA F b), 0, l0, fun _ => 0) = t at ih ⊢
    obtain ⟨i1, i2⟩ := ih
    have keep : (¬ lyP F b dd h told pitch N) → (∀ p, ¬ t.2.2.2.2.2 p = 0 ↔ ∃ s, s < N + 1 ∧ lyP F b dd h told pitch s ∧ lyO F b dd h s + 108 = nI p ∧ p < 217) ∧ t.2.1 = nI (nzN t.2.2.2.2.2 217) := fun hn => by
      refine ⟨fun p => (i1 p).trans ⟨fun ⟨s, h1, h2⟩ => ⟨s, Nat.lt_succ_of_lt h1, h2⟩, fun ⟨s, h1, h2⟩ => ⟨s, ?_, h2⟩⟩, i2⟩
      rcases Nat.lt_succ_iff_lt_or_eq.mp h1 with z | z
      · exact z
      · rw [z] at h2; exact absurd h2.1 hn
    unfold fA lyF
    by_cases q1 : sbm (lyA F b) N
    · rw [if_pos q1]
      by_cases q2 : told = 0 ∨ ftone F b + lyO F b dd h N = pitch
      · rw [if_pos q2]
        obtain ⟨p0, hp1, hp2⟩ := lyO_in (dd := dd) (h := h) hF hV q1
        have ec : (nI p0).toNatClampNeg = p0 := nI_clamp (by omega)
        unfold lyN
        dsimp only
        rw [hp2, ec]
        by_cases q3 : t.2.2.2.2.2 p0 = 0
        · rw [if_pos q3, if_pos q3]
          refine ⟨fun p => ?_, ?_⟩
          · unfold fu
            by_cases y : p = p0
            · rw [if_pos y]
              exact ⟨fun _ => ⟨N, Nat.lt_succ_self N, ⟨q1, q2⟩, by rw [y]; exact hp2, by omega⟩, fun _ => by decide⟩
            · rw [if_neg y]
              refine (i1 p).trans ⟨fun ⟨s, h1, h2⟩ => ⟨s, Nat.lt_succ_of_lt h1, h2⟩, fun ⟨s, h1, h2⟩ => ⟨s, ?_, h2⟩⟩
              rcases Nat.lt_succ_iff_lt_or_eq.mp h1 with z | z
              · exact z
              · rw [z] at h2
                exact absurd ((nI_eq (by omega) (by omega)).mp (h2.2.1.symm.trans hp2)) y
          · rw [nz_fu q3, if_pos hp1, ← nI_1, ← i2]
        · rw [if_neg q3, if_neg q3]
          refine ⟨fun p => (i1 p).trans ⟨fun ⟨s, h1, h2⟩ => ⟨s, Nat.lt_succ_of_lt h1, h2⟩, fun ⟨s, h1, h2⟩ => ?_⟩, i2⟩
          rcases Nat.lt_succ_iff_lt_or_eq.mp h1 with z | z
          · exact ⟨s, z, h2⟩
          · rw [z] at h2
            have e := (nI_eq (by omega) (by omega)).mp (h2.2.1.symm.trans hp2)
            rw [e]
            exact (i1 p0).mp q3
      · rw [if_neg q2]
        exact keep (fun z => q2 z.2)
    · rw [if_neg q1]
      exact keep (fun z => q1 z.1)
theorem un_2 {F : zF} (hF : okF F) (hV : fV F ≤ 12) {kp bp : Nat → Int32} (hg : ∀ v, v < fV F → r9 (kp v) ∧ r9 (bp v)) {n : Nat} {c : Nat → Int32} {b : Nat} (hb : b < fB F) (hb6 : b < 6) : ∀ N, (∀ p, ¬ (zfold (unStep F kp bp n c b) 0 N (0, fun _ => 0)).2 p = 0 ↔ ∃ s, s < N ∧ leftP F kp bp n c (nI s) ∧ pby F kp bp (nI b) (nI s) + 108 = nI p ∧ p < 320) ∧ (zfold (unStep F kp bp n c b) 0 N (0, fun _ => 0)).1 = nI (nzN (zfold (unStep F kp bp n c b) 0 N (0, fun _ => 0)).2 320) := by
  intro N
  induction N with
  | zero =>
    refine ⟨fun p => ⟨fun z => absurd rfl z, fun ⟨s, h1, _⟩ => absurd h1 (Nat.not_lt_zero _)⟩, ?_⟩
    have e : nzN (fun _ => (0 : Int32)) 320 = 0 := by
      unfold nzN
      rw [nsm_congr (g := fun _ => 0) 320 (fun v _ => if_pos rfl), nsm_0]
    show (0 : Int32) = nI (nzN (fun _ => (0 : Int32)) 320)
    rw [e]
    rfl
  | succ N ih =>
    rw [zf0]
    generalize zfold (unStep F kp bp n c b) 0 N (0, fun _ => 0) = t at ih ⊢
    obtain ⟨i1, i2⟩ := ih
    obtain ⟨p0, hp1, hp2⟩ := pby_ix hF hg hV hb hb6 (nI N)
    have ec : (nI p0).toNatClampNeg = p0 := nI_clamp (by omega)
    unfold unStep
    rw [hp2, ec]
    by_cases q2 : leftP F kp bp n c (nI N)
    · by_cases q3 : t.2 p0 = 0
      · rw [if_neg (fun z => z.elim (fun y => y q3) (fun y => y q2))]
        refine ⟨fun p => ?_, ?_⟩
        · show ¬ fu t.2 p0 1 p = 0 ↔ _
          unfold fu
          by_cases y : p = p0
          · rw [if_pos y]
            exact ⟨fun _ => ⟨N, Nat.lt_succ_self N, q2, by rw [y]; exact hp2, by omega⟩, fun _ => by decide⟩
          · rw [if_neg y]
            refine (i1 p).trans ⟨fun ⟨s, h1, h2⟩ => ⟨s, Nat.lt_succ_of_lt h1, h2⟩, fun ⟨s, h1, h2⟩ => ⟨s, ?_, h2⟩⟩
            rcases Nat.lt_succ_iff_lt_or_eq.mp h1 with z | z
            · exact z
            · rw [z] at h2
              exact absurd ((nI_eq (by omega) (by omega)).mp (h2.2.1.symm.trans hp2)) y
        · show t.1 + 1 = nI (nzN (fu t.2 p0 1) 320)
          rw [nz_fu q3, if_pos hp1, ← nI_1, ← i2]
      · rw [if_pos (Or.inl q3)]
        refine ⟨fun p => (i1 p).trans ⟨fun ⟨s, h1, h2⟩ => ⟨s, Nat.lt_succ_of_lt h1, h2⟩, fun ⟨s, h1, h2⟩ => ?_⟩, i2⟩
        rcases Nat.lt_succ_iff_lt_or_eq.mp h1 with z | z
        · exact ⟨s, z, h2⟩
        · rw [z] at h2
          have e := (nI_eq (by omega) (by omega)).mp (h2.2.1.symm.trans hp2)
          rw [e]
          exact (i1 p0).mp q3
    · rw [if_pos (Or.inr q2)]
      refine ⟨fun p => (i1 p).trans ⟨fun ⟨s, h1, h2⟩ => ⟨s, Nat.lt_succ_of_lt h1, h2⟩, fun ⟨s, h1, h2⟩ => ⟨s, ?_, h2⟩⟩, i2⟩
      rcases Nat.lt_succ_iff_lt_or_eq.mp h1 with z | z
      · exact z
      · rw [z] at h2; exact absurd h2.1 q2
theorem nz_shift {f g : Nat → Int32} {q : Nat} (hq : q + 217 ≤ 320) (h : ∀ p, ¬ f p = 0 ↔ ∃ p0, p0 < 217 ∧ p = q + p0 ∧ ¬ g p0 = 0) : nzN f 320 = nzN g 217 := by
  have e : 320 = q + (217 + (320 - 217 - q)) := by omega
  unfold nzN
  rw [show nsm (fun p => if f p = 0 then 0 else 1) 320 = nsm (fun p => if f p = 0 then 0 else 1) (q + (217 + (320 - 217 - q))) by rw [← e], nsm_split, nsm_split]
  have z1 : nsm (fun p => if f p = 0 then 0 else 1) q = 0 := by
    rw [nsm_congr (g := fun _ => 0) q (fun p hp => if_pos (Decidable.of_not_not (fun z => by
      obtain ⟨p0, -, h2, -⟩ := (h p).mp z
      omega))), nsm_0]
  have z2 : nsm (fun i => if f (q + (217 + i)) = 0 then 0 else 1) (320 - 217 - q) = 0 := by
    rw [nsm_congr (g := fun _ => 0) _ (fun p hp => if_pos (Decidable.of_not_not (fun z => by
      obtain ⟨p0, h1, h2, -⟩ := (h _).mp z
      omega))), nsm_0]
  rw [z1, z2, Nat.zero_add, Nat.add_zero]
  refine nsm_congr _ (fun p hp => ?_)
  have k := h (q + p)
  by_cases y : g p = 0
  · rw [if_pos y, if_pos (Decidable.of_not_not (fun z => by
      obtain ⟨p0, -, h2, h3⟩ := k.mp z
      have : p0 = p := by omega
      rw [this] at h3
      exact h3 y))]
  · rw [if_neg y, if_neg (k.mpr ⟨p, hp, rfl, y⟩)]
def okP (F : zF) (n : Nat) (c : Nat → Int32) (b : Nat) (y : Int32) : Bool := decide (tlP n c b = 0 ∨ ftone F b + y = tpP n c b)
theorem okP_left {F : zF} {n : Nat} {c : Nat → Int32} {b : Nat} {y : Int32} : okP F n c b y = true ↔ (b < n → (c b = -1 ∨ c b = ftone F b + y)) := by
  unfold okP
  rw [decide_eq_true_iff]
  unfold tlP tpP
  by_cases q : b < n
  · rw [if_pos q]
    by_cases z : c b = -1
    · rw [if_pos z]; exact ⟨fun _ _ => Or.inl z, fun _ => Or.inl rfl⟩
    · rw [if_neg z]
      exact ⟨fun w _ => w.elim (fun y => absurd y (by decide)) (fun y => Or.inr y.symm), fun w => (w q).elim (fun y => absurd y z) (fun y => Or.inr y.symm)⟩
  · rw [if_neg q, if_pos rfl]
    exact ⟨fun _ z => absurd z q, fun _ => Or.inl rfl⟩
section ST
variable {F : zF} {dd h : Int32} {n : Nat} {c : Nat → Int32}
theorem skS_is (hF : okF F) (h6 : fB F ≤ 6) (hV : fV F ≤ 12) {b s : Nat} (hb : b < 2 ^ 31) (hs : s < 4096) : skS (beta F) (lyK F h) (lyB F dd h) b s (fV F) = zsum (pbT F (lyK F h) (lyB F dd h) (nI b) (nI s)) (fV F) := by
  refine zsum_congr _ (fun v hv => ?_)
  have hbe := (beta_is hF h6 hv).2.2 b hb
  have hh := bit_has (v := v) (s := s) (by omega) hs
  unfold pbT
  by_cases q : beta F v = b
  · rw [if_pos q, if_pos (hbe.mpr q)]
    by_cases y : s / 2 ^ v % 2 = 1
    · rw [if_pos y, if_pos (hh.mpr y)]
    · rw [if_neg y, if_neg (fun z => y (hh.mp z))]
  · rw [if_neg q, if_neg (fun z => q (hbe.mp z))]
theorem lyA_be (hF : okF F) (h6 : fB F ≤ 6) {b : Nat} (hb : b < 2 ^ 31) : bitsN (fun v => beta F v = b) (fV F) = lyA F b := bitsN_congr _ (fun _ hv => ((beta_is hF h6 hv).2.2 b hb).symm)
theorem left_is (hF : okF F) (h6 : fB F ≤ 6) (hV : fV F ≤ 12) {s : Nat} (hs : s < 4096) : leftP F (lyK F h) (lyB F dd h) n c (nI s) ↔ ∀ b, b < fB F → okP F n c b ((fun _ => (0 : Int32)) b + skS (beta F) (lyK F h) (lyB F dd h) b s (fV F)) = true := by
  refine forall_congr' (fun b => forall_congr' (fun hb => ?_))
  rw [okP_left, Int32.zero_add, skS_is hF h6 hV (by omega) hs]
  unfold pby
  rw [nI_clamp (show b < 2 ^ 31 by omega)]
theorem gN_is (hF : okF F) (h6 : fB F ≤ 6) (hV : fV F ≤ 12) {b : Nat} (hb : b < 2 ^ 31) : (lyC F dd h n c b).1 = nI (skB (beta F) (lyK F h) (lyB F dd h) (okP F n c) b (fV F) 0) := by
  have hp : 2 ^ fV F ≤ 4096 := Nat.pow_le_pow_right (by decide) hV
  unfold lyC lyI
  rw [ly_1]
  refine congrArg nI (nsm_congr _ (fun s hs => ?_))
  congr 1
  refine propext ?_
  rw [lyA_be hF h6 hb]
  refine and_congr_right (fun hsb => ?_)
  have e : skS (beta F) (lyK F h) (lyB F dd h) b s (fV F) = lyO F b dd h s := by
    rw [skS_is hF h6 hV hb (by omega)]
    exact lyO_is hV (by omega) hs (fun v _ => ⟨fun z => ⟨z, (lyA_at.mp (sbm_bits hsb z)).2⟩, fun z => z.1⟩)
  rw [Int32.zero_add, e]
  unfold okP
  rw [decide_eq_true_iff]
theorem strN_is (hF : okF F) (h6 : fB F ≤ 6) (hV : fV F ≤ 12) : strN F (lyK F h) (lyB F dd h) n c = nI (skF (beta F) (lyK F h) (lyB F dd h) (okP F n c) (fB F) (fV F) (fun _ => 0)) := by
  have hp : 2 ^ fV F ≤ 4096 := Nat.pow_le_pow_right (by decide) hV
  unfold strN
  rw [zsum_nsm]
  refine congrArg nI (nsm_congr _ (fun s hs => ?_))
  congr 1
  exact propext (left_is hF h6 hV (by omega))
def strA (F : zF) (dd h : Int32) (n : Nat) (c : Nat → Int32) (i : Nat) : Int32 := zfold (fun b a => a * (lyC F dd h n c b).1) 0 i 1
def strM (F : zF) (dd h : Int32) (n : Nat) (c : Nat → Int32) (i : Nat) : Int32 × Int32 := zfold (fun b t => if t.2 < (lyC F dd h n c b).2 then (nI b, (lyC F dd h n c b).2) else t) 0 i (-2, -2)
def strC (F : zF) (dd h : Int32) (n : Nat) (c : Nat → Int32) (w : Int32) : Int32 := if w = 0 then strA F dd h n c (fB F) else if strA F dd h n c (fB F) = 0 then -2 else if w = 1 then (strM F dd h n c (fB F)).1 else (strM F dd h n c (fB F)).2
theorem strA_is (hF : okF F) (h6 : fB F ≤ 6) (hV : fV F ≤ 12) : ∀ i, i ≤ 6 → strA F dd h n c i = nI (prodN (fun b => skB (beta F) (lyK F h) (lyB F dd h) (okP F n c) b (fV F) 0) i)
  | 0, _ => rfl
  | i + 1, hi => by
    have ih := strA_is hF h6 hV i (by omega)
    unfold strA at ih ⊢
    rw [zf0, ih, gN_is hF h6 hV (by omega), pk_mul]
    rfl
theorem strA_N (hF : okF F) (h6 : fB F ≤ 6) (hV : fV F ≤ 12) : strA F dd h n c (fB F) = strN F (lyK F h) (lyB F dd h) n c := by
  rw [strA_is hF h6 hV _ h6, strN_is hF h6 hV, sk_prod _ _ (fun v hv => (beta_is hF h6 hv).1)]
theorem un_eq (hF : okF F) (h6 : fB F ≤ 6) (hV : fV F ≤ 12) (hn : ¬ strN F (lyK F h) (lyB F dd h) n c = 0) {b : Nat} (hb : b < fB F) : unS F (lyK F h) (lyB F dd h) n c b = (lyC F dd h n c b).2 ∧ ∃ k, k < 2 ^ 31 ∧ (lyC F dd h n c b).2 = nI k := by
  have hp : 2 ^ fV F ≤ 4096 := Nat.pow_le_pow_right (by decide) hV
  have hg : ∀ v, v < fV F → r9 (lyK F h v) ∧ r9 (lyB F dd h v) := fun v hv => lyM_r hF hv
  obtain ⟨r1, r2⟩ := un_2 hF hV hg (n := n) (c := c) hb (by omega) (2 ^ fV F)
  obtain ⟨c1, c2⟩ := ly_2 hF hV (b := b) (dd := dd) (h := h) (told := tlP n c b) (pitch := tpP n c b) (l0 := 0) (2 ^ fV F)
  obtain ⟨q, hq, eq⟩ := nI_of2 (M := 99) (n := 99) rfl (Int32.not_lt.mpr (hF.1 b hb).1.1) (hF.1 b hb).1.2
  have hcnd : ∀ (s w : Nat), s < 4096 → w < 2 ^ fV F → (∀ v, v < fV F → (w / 2 ^ v % 2 = 1 ↔ s / 2 ^ v % 2 = 1 ∧ fbell F v = nI b)) → (okP F n c b ((fun _ => (0 : Int32)) b + skS (beta F) (lyK F h) (lyB F dd h) b s (fV F)) = true ↔ (tlP n c b = 0 ∨ ftone F b + lyO F b dd h w = tpP n c b)) := fun s w hs hw hbit => by
    rw [Int32.zero_add, skS_is hF h6 hV (by omega) hs, lyO_is hV hs hw hbit]
    unfold okP
    rw [decide_eq_true_iff]
  have hsh : nzN (zfold (unStep F (lyK F h) (lyB F dd h) n c b) 0 (2 ^ fV F) (0, fun _ => 0)).2 320 = nzN (zfold (fA (lyA F b) (lyF F b dd h (tlP n c b) (tpP n c b))) 0 (2 ^ fV F) (0, 0, nI (lyA F b), 0, 0, fun _ => 0)).2.2.2.2.2 217 := by
    refine nz_shift (q := q) (by omega) (fun p => (r1 p).trans ⟨?_, ?_⟩)
    · rintro ⟨s, s1, s2, s3, s4⟩
      have hs4 : s < 4096 := by omega
      have hbit : ∀ v, v < fV F → (prt F s b / 2 ^ v % 2 = 1 ↔ s / 2 ^ v % 2 = 1 ∧ fbell F v = nI b) := fun v hv => prt_bit.trans ⟨fun z => ⟨z.2.1, ((beta_is hF h6 hv).2.2 b (by omega)).mpr z.2.2⟩, fun z => ⟨hv, z.1, ((beta_is hF h6 hv).2.2 b (by omega)).mp z.2⟩⟩
      have hw : prt F s b < 2 ^ fV F := bitsN_lt _ _
      have hsb : sbm (lyA F b) (prt F s b) := sbm_tb (fun v hv => by
        have z := prt_bit.mp hv
        exact lyA_at.mpr ⟨z.1, ((beta_is hF h6 z.1).2.2 b (by omega)).mpr z.2.2⟩)
      obtain ⟨p0, hp1, hp2⟩ := lyO_in (dd := dd) (h := h) hF hV hsb
      have hc := (hcnd s _ hs4 hw hbit).mp (((left_is hF h6 hV hs4).mp s2) b hb)
      rw [pby_is hV (by omega) hs4 hw hbit, eq, Int32.add_assoc, hp2, nI_add] at s3
      exact ⟨p0, hp1, ((nI_eq (by omega) (by omega)).mp s3).symm, (c1 p0).mpr ⟨_, hw, ⟨hsb, hc⟩, hp2, hp1⟩⟩
    · rintro ⟨p0, hp1, rfl, hc⟩
      obtain ⟨w, w1, w2, w3, -⟩ := (c1 p0).mp hc
      have hex : ∃ s0, s0 < 2 ^ fV F ∧ leftP F (lyK F h) (lyB F dd h) n c (nI s0) := by
        refine nsm_ex (p := fun s => leftP F (lyK F h) (lyB F dd h) n c (nI s)) _ (fun z => hn ?_)
        unfold strN
        rw [zsum_nsm, z]
        rfl
      obtain ⟨s0, t1, t2⟩ := hex
      have t2' := (left_is hF h6 hV (by omega)).mp t2
      have hs : bitsN (fun v => if beta F v = b then w / 2 ^ v % 2 = 1 else s0 / 2 ^ v % 2 = 1) (fV F) < 2 ^ fV F := bitsN_lt _ _
      have hbt : ∀ v, v < fV F → (bitsN (fun v => if beta F v = b then w / 2 ^ v % 2 = 1 else s0 / 2 ^ v % 2 = 1) (fV F) / 2 ^ v % 2 = 1 ↔ if beta F v = b then w / 2 ^ v % 2 = 1 else s0 / 2 ^ v % 2 = 1) := fun v hv => (bitsN_iff _ _ _).trans ⟨fun z => z.2, fun z => ⟨hv, z⟩⟩
      generalize bitsN (fun v => if beta F v = b then w / 2 ^ v % 2 = 1 else s0 / 2 ^ v % 2 = 1) (fV F) = s at hs hbt
      have hs4 : s < 4096 := by omega
      have hbit : ∀ v, v < fV F → (w / 2 ^ v % 2 = 1 ↔ s / 2 ^ v % 2 = 1 ∧ fbell F v = nI b) := fun v hv => by
        have k := hbt v hv
        have kb := (beta_is hF h6 hv).2.2 b (by omega)
        by_cases y : beta F v = b
        · rw [if_pos y] at k
          exact ⟨fun z => ⟨k.mpr z, kb.mpr y⟩, fun z => k.mp z.1⟩
        · exact ⟨fun z => absurd (kb.mp (lyA_at.mp (sbm_bits w2.1 z)).2) y, fun z => absurd (kb.mp z.2) y⟩
      have hl : leftP F (lyK F h) (lyB F dd h) n c (nI s) := (left_is hF h6 hV hs4).mpr (fun b' hb' => by
        by_cases y : b' = b
        · subst y
          exact (hcnd s w hs4 w1 hbit).mpr w2.2
        · have e : skS (beta F) (lyK F h) (lyB F dd h) b' s (fV F) = skS (beta F) (lyK F h) (lyB F dd h) b' s0 (fV F) := zsum_congr _ (fun v hv => by
            by_cases z : beta F v = b'
            · rw [if_pos z, if_pos z]
              have k := hbt v hv
              rw [if_neg (fun x => y (z.symm.trans x))] at k
              by_cases u : s0 / 2 ^ v % 2 = 1
              · rw [if_pos u, if_pos (k.mpr u)]
              · rw [if_neg u, if_neg (fun x => u (k.mp x))]
            · rw [if_neg z, if_neg z])
          rw [e]
          exact t2' b' hb')
      refine ⟨s, hs, hl, ?_, by omega⟩
      rw [pby_is hV (by omega) hs4 w1 hbit, eq, Int32.add_assoc, w3, nI_add]
  have hk : nzN (zfold (fA (lyA F b) (lyF F b dd h (tlP n c b) (tpP n c b))) 0 (2 ^ fV F) (0, 0, nI (lyA F b), 0, 0, fun _ => 0)).2.2.2.2.2 217 ≤ 217 := nsm_le1 217 (fun s _ => by split <;> omega)
  have e2 : (lyC F dd h n c b).2 = nI (nzN (zfold (fA (lyA F b) (lyF F b dd h (tlP n c b) (tpP n c b))) 0 (2 ^ fV F) (0, 0, nI (lyA F b), 0, 0, fun _ => 0)).2.2.2.2.2 217) := c2
  refine ⟨?_, _, ?_, e2⟩
  · rw [e2]
    unfold unS
    rw [r2, hsh]
  · exact Nat.lt_of_le_of_lt hk (by decide)
theorem strM_B (hF : okF F) (h6 : fB F ≤ 6) (hV : fV F ≤ 12) (hn : ¬ strN F (lyK F h) (lyB F dd h) n c = 0) : ∀ i, i ≤ fB F → 0 < i → strM F dd h n c i = zfold (strStep F (lyK F h) (lyB F dd h) n c) 0 i (-2, 0) ∧ ∃ k, k < 6 ∧ (strM F dd h n c i).1 = nI k
  | 0, _, h0 => absurd h0 (Nat.lt_irrefl _)
  | i + 1, hi, _ => by
    obtain ⟨u1, k, u2, u3⟩ := un_eq hF h6 hV hn (show i < fB F by omega)
    unfold strM
    rw [zf0, zf0]
    have hst : ∀ t : Int32 × Int32, strStep F (lyK F h) (lyB F dd h) n c i t = if t.1 = -2 ∨ t.2 < (lyC F dd h n c i).2 then (nI i, (lyC F dd h n c i).2) else t := fun t => by
      unfold strStep
      rw [u1]
    rw [hst]
    rcases Nat.eq_zero_or_pos i with z | z
    · subst z
      rw [show zfold (fun b t => if t.2 < (lyC F dd h n c b).2 then (nI b, (lyC F dd h n c b).2) else t) 0 0 ((-2 : Int32), (-2 : Int32)) = (-2, -2) from rfl]
      have hlt : (-2 : Int32) < (lyC F dd h n c 0).2 := by
        rw [u3, Int32.lt_iff_toInt_lt, nI_toInt u2, show (-2 : Int32).toInt = -2 from rfl]
        omega
      rw [if_pos hlt]
      refine ⟨(if_pos (Or.inl rfl)).symm, 0, by decide, rfl⟩
    · obtain ⟨ih, k2, k3, k4⟩ := strM_B hF h6 hV hn i (by omega) z
      unfold strM at ih k4
      rw [ih] at k4 ⊢
      have hne : ¬ (zfold (strStep F (lyK F h) (lyB F dd h) n c) 0 i (-2, 0)).1 = -2 := fun y => by
        rw [k4] at y
        exact absurd (show nI k2 < 0 by rw [y]; decide) (nI_pos (by omega))
      generalize zfold (strStep F (lyK F h) (lyB F dd h) n c) 0 i (-2, 0) = t at hne k4 ⊢
      by_cases y : t.2 < (lyC F dd h n c i).2
      · rw [if_pos y, if_pos (Or.inr y)]
        exact ⟨rfl, i, by omega, rfl⟩
      · rw [if_neg y, if_neg (fun z => z.elim hne y)]
        exact ⟨rfl, k2, k3, k4⟩
theorem str_eq (hF : okF F) (h6 : fB F ≤ 6) (hV : fV F ≤ 12) (w : Int32) : strC F dd h n c w = strW F (lyK F h) (lyB F dd h) n c w := by
  unfold strC strW
  rw [strA_N hF h6 hV]
  by_cases w0 : w = 0
  · rw [if_pos w0, if_pos w0]
  · rw [if_neg w0, if_neg w0]
    by_cases hn : strN F (lyK F h) (lyB F dd h) n c = 0
    · rw [if_pos hn, if_pos (Or.inl hn)]
    · rw [if_neg hn]
      rcases Nat.eq_zero_or_pos (fB F) with z | z
      · rw [if_pos (Or.inr z)]
        have e : strM F dd h n c (fB F) = (-2, -2) := by rw [z]; rfl
        rw [e]
        split <;> rfl
      · have hne : ¬ (strN F (lyK F h) (lyB F dd h) n c = 0 ∨ fB F = 0) := fun y => y.elim hn (fun x => by omega)
        rw [if_neg hne]
        have k := (strM_B hF h6 hV hn (fB F) (Nat.le_refl _) z).1
        rw [k]
        rfl
end ST
