/-! whom one must win back, as folds; parts of a set by bells -/
abbrev wQ (F : zF) (day h : Int32) (s : Nat) : Prop := sbm (bitsN (fun v => ¬ kept F v day) (fV F)) s ∧ pureP F (nI s) day h
abbrev wQb (F : zF) (b : Nat) (day h : Int32) (s : Nat) : Prop := sbm (wA F b day) s ∧ offs F (nI b) day h + moreS (wm F b day h) s = 0
theorem may_is {F : zF} (h12 : fV F ≤ 12) (day : Int32) : mayS F day = nI (bitsN (fun v => ¬ kept F v day) (fV F)) := by
  unfold mayS
  rw [← bits_fold (fun v => ¬ kept F v day) (fV F) h12]
  have e : (fun (v : Nat) (s : Int32) => if kept F v day then s else s ||| bit1 v) = (fun (v : Nat) (s : Int32) => if ¬ kept F v day then s ||| bit1 v else s) := by
    funext v s
    by_cases q : kept F v day
    · rw [if_pos q, if_neg (fun z => z q)]
    · rw [if_neg q, if_pos q]
  rw [e]
theorem winS_is {F : zF} (h12 : fV F ≤ 12) (day h : Int32) : winS F day h = encO (zfold (stB (wQ F day h)) 0 (2 ^ fV F) none) := by
  have hp : 2 ^ fV F ≤ 4096 := Nat.pow_le_pow_right (by decide) h12
  have hM : bitsN (fun v => ¬ kept F v day) (fV F) < 4096 := lt_2 h12 (bitsN_lt _ _)
  have key : ∀ N, N ≤ 4096 → zfold (winStep F day h (mayS F day)) 0 N (-2) = encO (zfold (stB (wQ F day h)) 0 N none) := by
    intro N
    induction N with
    | zero => intro _; rfl
    | succ N ih =>
      intro hN
      have hb := bst_fold (wQ F day h) N
      have he := (encO_lt (by omega) hb).1
      rw [zf0, zf0, ih (by omega)]
      generalize zfold (stB (wQ F day h)) 0 N none = r at hb he ⊢
      unfold winStep stB
      rw [may_is h12]
      have hs := sub_I hM (show N < 4096 by omega)
      by_cases q1 : sbm (bitsN (fun v => ¬ kept F v day) (fV F)) N
      · by_cases q2 : ltO N r = true
        · have hno : ¬ (¬ encO r = -2 ∧ ¬ onesI (nI N) < onesI (encO r)) := by
            rintro ⟨z1, z2⟩
            cases r with
            | none => exact z1 rfl
            | some q =>
              have hq : q < N := hb.1
              have q2 : pc N < pc q := of_decide_eq_true q2
              have l1 := pc_le N
              have l2 := pc_le q
              refine z2 ?_
              show onesI (nI N) < onesI (nI q)
              rw [ones_pop (by omega), ones_pop (by omega), ← pc_is, ← pc_is]
              exact nI_lt q2 (by omega)
          rw [if_neg (fun z => z.elim (fun y => y (hs.mpr q1)) hno)]
          by_cases q3 : pureP F (nI N) day h
          · rw [if_pos q3, if_pos ⟨⟨q1, q3⟩, q2⟩]; rfl
          · rw [if_neg q3, if_neg (fun z => q3 z.1.2)]
        · rw [if_pos, if_neg (fun z => q2 z.2)]
          cases r with
          | none => exact absurd rfl q2
          | some q =>
            have hq : q < N := hb.1
            refine Or.inr ⟨(fun z => by cases he.mp z), ?_⟩
            show ¬ onesI (nI N) < onesI (nI q)
            have l1 := pc_le N
            rw [ones_pop (by omega), ones_pop (by omega), ← pc_is, ← pc_is]
            exact nI_nlt (Nat.le_of_not_lt (fun z => q2 (decide_eq_true z))) (by omega)
      · rw [if_pos (Or.inl (fun z => q1 (hs.mp z))), if_neg (fun z => q1 z.1.1)]
  exact key _ hp
def fewO (r : Option Nat) : Int32 := match r with
  | none => 13
  | some q => nI (pc q)
theorem winI_is {F : zF} (h12 : fV F ≤ 12) (b : Nat) (day h : Int32) : (winI F b day h).1 = encO (zfold (stB (wQb F b day h)) 0 (2 ^ fV F) none) := by
  have hp : 2 ^ fV F ≤ 4096 := Nat.pow_le_pow_right (by decide) h12
  have key : ∀ N, N ≤ 4096 → zfold (fA (wA F b day) (wf F b day h)) 0 N (-2, 13) = (encO (zfold (stB (wQb F b day h)) 0 N none), fewO (zfold (stB (wQb F b day h)) 0 N none)) := by
    intro N
    induction N with
    | zero => intro _; rfl
    | succ N ih =>
      intro hN
      rw [zf0, zf0, ih (by omega)]
      generalize zfold (stB (wQb F b day h)) 0 N none = r
      unfold fA wf stB
      rw [← pc_is N]
      have l1 := pc_le N
      have hlt : nI (pc N) < fewO r ↔ ltO N r = true := by
        cases r with
        | none => exact ⟨fun _ => rfl, fun _ => nI_lt (b := 13) (by omega) (by omega)⟩
        | some q =>
          have l2 := pc_le q
          show nI (pc N) < nI (pc q) ↔ decide (pc N < pc q) = true
          rw [nI_ltI (by omega) (by omega), decide_eq_true_iff]
      by_cases q1 : sbm (wA F b day) N
      · rw [if_pos q1]
        by_cases q2 : ltO N r = true
        · by_cases q3 : offs F (nI b) day h + moreS (wm F b day h) N = 0
          · rw [if_pos ⟨hlt.mpr q2, q3⟩, if_pos ⟨⟨q1, q3⟩, q2⟩]; rfl
          · rw [if_neg (fun z => q3 z.2), if_neg (fun z => q3 z.1.2)]
        · rw [if_neg (fun z => q2 (hlt.mp z.1)), if_neg (fun z => q2 z.2)]
      · rw [if_neg q1, if_neg (fun z => q1 z.1.1)]
  unfold winI
  rw [key _ hp]
/-- where a vow hangs -/
def beta (F : zF) (v : Nat) : Nat := (fbell F v).toNatClampNeg
theorem beta_is {F : zF} (hF : okF F) (h6 : fB F ≤ 6) {v : Nat} (hv : v < fV F) : beta F v < fB F ∧ fbell F v = nI (beta F v) ∧ ∀ b, b < 2 ^ 31 → (fbell F v = nI b ↔ beta F v = b) := by
  obtain ⟨b0, h0, e0⟩ := (hF.2.1 v hv).1
  have e : beta F v = b0 := by
    unfold beta
    rw [e0, nI_clamp (by omega)]
  rw [e, e0]
  exact ⟨h0, rfl, fun b hb => nI_eq (by omega) hb⟩
theorem zsum_add (f g : Nat → Int32) : ∀ n : Nat, zsum (fun v => f v + g v) n = zsum f n + zsum g n
  | 0 => rfl
  | n + 1 => by
    rw [zsum_s, zsum_s, zsum_s, zsum_add f g n, Int32.add_assoc, Int32.add_assoc]
    refine congrArg (fun z => zsum f n + z) ?_
    rw [← Int32.add_assoc, ← Int32.add_assoc, Int32.add_comm (zsum g n) (f n)]
theorem moreS_V {m : Nat → Int32} {V s : Nat} (hV : V ≤ 12) (hs : s < 2 ^ V) : moreS m s = zsum (fun v => if s / 2 ^ v % 2 = 1 then m v else 0) V := by
  unfold moreS
  have e : 12 = V + (12 - V) := by omega
  rw [show zsum (fun v => if s / 2 ^ v % 2 = 1 then m v else 0) 12 = zsum (fun v => if s / 2 ^ v % 2 = 1 then m v else 0) (V + (12 - V)) by rw [← e]]
  refine zsum_tail V (12 - V) (fun b h1 h2 => if_neg (fun z => ?_))
  have := bit_lt hs z
  omega
theorem pur_is {F : zF} (hF : okF F) (h6 : fB F ≤ 6) (h12 : fV F ≤ 12) (day h : Int32) {b s w : Nat} (hb : b < fB F) (hs : s < 4096) (hw : w < 2 ^ fV F) (hbit : ∀ v, v < fV F → (w / 2 ^ v % 2 = 1 ↔ s / 2 ^ v % 2 = 1 ∧ beta F v = b)) : zsum (purV F (nI s) day h b) (fV F) = offs F (nI b) day h + moreS (wm F b day h) w := by
  rw [moreS_V h12 hw]
  unfold offs
  rw [← zsum_add]
  refine zsum_congr _ (fun v hv => ?_)
  have hbe := (beta_is hF h6 hv).2.2 b (by omega)
  have hh := bit_has (v := v) (s := s) (by omega) hs
  have hbv := hbit v hv
  unfold purV offT
  by_cases q : fbell F v = nI b
  · rw [if_pos q, if_pos q]
    by_cases y : s / 2 ^ v % 2 = 1
    · rw [if_pos (hh.mpr y), if_pos (hbv.mpr ⟨y, hbe.mp q⟩)]
      unfold wm
      rw [q, Int32.add_comm, Int32.sub_add_cancel]
    · rw [if_neg (fun z => y (hh.mp z)), if_neg (fun z => y (hbv.mp z).1), Int32.add_zero]
  · rw [if_neg q, if_neg q, if_neg (fun z => q (hbe.mpr (hbv.mp z).2))]
    rfl
def orF (w : Nat → Nat) : Nat → Nat → Nat → Nat
  | _, 0, a => a
  | b, j + 1, a => orF w (b + 1) j (a ||| w b)
theorem orF_lt {w : Nat → Nat} {n : Nat} : ∀ (j b a : Nat), a < 2 ^ n → (∀ b', b ≤ b' → b' < b + j → w b' < 2 ^ n) → orF w b j a < 2 ^ n
  | 0, _, _, h, _ => h
  | j + 1, b, a, h, hw => orF_lt j (b + 1) _ (Nat.or_lt_two_pow h (hw b (by omega) (by omega))) (fun b' h1 h2 => hw b' (by omega) (by omega))
theorem orF_bit {w : Nat → Nat} {v : Nat} : ∀ (j b a : Nat), orF w b j a / 2 ^ v % 2 = 1 ↔ a / 2 ^ v % 2 = 1 ∨ ∃ b', b ≤ b' ∧ b' < b + j ∧ w b' / 2 ^ v % 2 = 1
  | 0, b, a => by
    show a / 2 ^ v % 2 = 1 ↔ _
    exact ⟨Or.inl, fun z => z.elim id (fun ⟨b', h1, h2, _⟩ => by omega)⟩
  | j + 1, b, a => by
    have e : (a ||| w b) / 2 ^ v % 2 = 1 ↔ a / 2 ^ v % 2 = 1 ∨ w b / 2 ^ v % 2 = 1 := by
      rw [← tb_iff, ← tb_iff, ← tb_iff, Nat.testBit_or, Bool.or_eq_true]
    show orF w (b + 1) j (a ||| w b) / 2 ^ v % 2 = 1 ↔ _
    rw [orF_bit j (b + 1), e]
    constructor
    · rintro ((z | z) | ⟨b', h1, h2, h3⟩)
      · exact Or.inl z
      · exact Or.inr ⟨b, Nat.le_refl _, by omega, z⟩
      · exact Or.inr ⟨b', by omega, by omega, h3⟩
    · rintro (z | ⟨b', h1, h2, h3⟩)
      · exact Or.inl (Or.inl z)
      · by_cases q : b' = b
        · rw [q] at h3; exact Or.inl (Or.inr h3)
        · exact Or.inr ⟨b', by omega, by omega, h3⟩
theorem winJ_or {F : zF} {day h : Int32} {w : Nat → Nat} : ∀ (j b a : Nat), a < 4096 → (∀ b', b ≤ b' → b' < b + j → w b' < 2 ^ 12 ∧ (winI F b' day h).1 = nI (w b')) → winJ F day h j b (nI a) = nI (orF w b j a)
  | 0, _, _, _, _ => rfl
  | j + 1, b, a, ha, hw => by
    obtain ⟨w1, w2⟩ := hw b (by omega) (by omega)
    show (if (winI F b day h).1 < 0 then (-2 : Int32) else winJ F day h j (b + 1) (nI a ||| (winI F b day h).1)) = _
    rw [w2, if_neg (nI_pos (by omega)), nI_or ha w1]
    exact winJ_or j (b + 1) _ (Nat.or_lt_two_pow (n := 12) ha w1) (fun b' h1 h2 => hw b' (by omega) (by omega))
theorem winJ_no {F : zF} {day h : Int32} : ∀ (j b : Nat) (acc : Int32), (∃ b', b ≤ b' ∧ b' < b + j ∧ (winI F b' day h).1 < 0) → winJ F day h j b acc = -2
  | 0, _, _, ⟨b', h1, h2, _⟩ => by omega
  | j + 1, b, acc, ⟨b', h1, h2, h3⟩ => by
    show (if (winI F b day h).1 < 0 then (-2 : Int32) else winJ F day h j (b + 1) (acc ||| (winI F b day h).1)) = _
    by_cases q : (winI F b day h).1 < 0
    · rw [if_pos q]
    · rw [if_neg q]
      refine winJ_no j (b + 1) _ ⟨b', ?_, by omega, h3⟩
      rcases Nat.lt_or_ge b b' with z | z
      · exact z
      · rw [show b' = b by omega] at h3
        exact absurd h3 q
/-- the part of a set in one bell -/
def prt (F : zF) (s b : Nat) : Nat := bitsN (fun v => s / 2 ^ v % 2 = 1 ∧ beta F v = b) (fV F)
theorem prt_bit {F : zF} {s b v : Nat} : prt F s b / 2 ^ v % 2 = 1 ↔ v < fV F ∧ s / 2 ^ v % 2 = 1 ∧ beta F v = b := bitsN_iff _ _ _
theorem split_pop {F : zF} (hF : okF F) (h6 : fB F ≤ 6) {s : Nat} {w : Nat → Nat} (hs : s < 2 ^ fV F) (hw : ∀ b, b < fB F → ∀ v, w b / 2 ^ v % 2 = 1 ↔ s / 2 ^ v % 2 = 1 ∧ beta F v = b) : nsm (fun b => pc (w b)) (fB F) = pc s ∧ (fV F ≤ 12 → (∀ b, b < fB F → w b < 2 ^ 12) → nsm w (fB F) = s) := by
  have hx : ∀ v, ¬ s / 2 ^ v % 2 = 0 → beta F v < fB F := fun v hv => by
    have h1 : s / 2 ^ v % 2 = 1 := by omega
    exact (beta_is hF h6 (bit_lt hs h1)).1
  have hb : ∀ b, b < fB F → ∀ v, w b / 2 ^ v % 2 = if beta F v = b then s / 2 ^ v % 2 else 0 := by
    intro b hb v
    have k := hw b hb v
    by_cases q : beta F v = b
    · rw [if_pos q]
      by_cases y : s / 2 ^ v % 2 = 1
      · rw [y, k.mpr ⟨y, q⟩]
      · have : ¬ w b / 2 ^ v % 2 = 1 := fun z => y (k.mp z).1
        omega
    · rw [if_neg q]
      have : ¬ w b / 2 ^ v % 2 = 1 := fun z => q (k.mp z).2
      omega
  refine ⟨?_, fun h12 hw12 => ?_⟩
  · rw [pc_is, popN_sum 12 s, ← nsm_swap (beta F) (fun v => s / 2 ^ v % 2) (fB F) 12 (fun v _ hv => hx v hv)]
    refine nsm_congr _ (fun b hbb => ?_)
    rw [pc_is, popN_sum]
    exact nsm_congr _ (fun v _ => hb b hbb v)
  · have hs12 : s < 2 ^ 12 := Nat.lt_of_lt_of_le hs (Nat.pow_le_pow_right (by decide) h12)
    have e1 := val_sum s 12
    rw [Nat.mod_eq_of_lt hs12] at e1
    rw [e1, ← nsm_swap (beta F) (fun v => s / 2 ^ v % 2 * 2 ^ v) (fB F) 12 (fun v _ hv => hx v (fun z => hv (by rw [z, Nat.zero_mul])))]
    refine nsm_congr _ (fun b hbb => ?_)
    have e2 := val_sum (w b) 12
    rw [Nat.mod_eq_of_lt (hw12 b hbb)] at e2
    rw [e2]
    refine nsm_congr _ (fun v _ => ?_)
    rw [hb b hbb v]
    by_cases q : beta F v = b
    · rw [if_pos q, if_pos q]
    · rw [if_neg q, if_neg q, Nat.zero_mul]
