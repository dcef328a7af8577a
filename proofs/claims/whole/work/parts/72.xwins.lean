/-! whom one must win back: bell by bell as all at once -/
def nsm (f : Nat → Nat) : Nat → Nat
  | 0 => 0
  | n + 1 => nsm f n + f n
theorem nsm_s (f : Nat → Nat) (n : Nat) : nsm f (n + 1) = nsm f n + f n := rfl
theorem nsm_congr {f g : Nat → Nat} : ∀ n : Nat, (∀ v, v < n → f v = g v) → nsm f n = nsm g n
  | 0, _ => rfl
  | n + 1, h => by rw [nsm_s, nsm_s, nsm_congr n (fun v hv => h v (by omega)), h n (by omega)]
theorem nsm_add (f g : Nat → Nat) : ∀ n : Nat, nsm (fun v => f v + g v) n = nsm f n + nsm g n
  | 0 => rfl
  | n + 1 => by rw [nsm_s, nsm_s, nsm_s, nsm_add f g n]; omega
theorem nsm_0 : ∀ n : Nat, nsm (fun _ => 0) n = 0
  | 0 => rfl
  | n + 1 => by rw [nsm_s, nsm_0 n]
theorem nsm_1 (c y : Nat) : ∀ n : Nat, nsm (fun b => if c = b then y else 0) n = if c < n then y else 0
  | 0 => by rw [if_neg (Nat.not_lt_zero _)]; rfl
  | n + 1 => by
    rw [nsm_s, nsm_1 c y n]
    by_cases h : c < n
    · rw [if_pos h, if_neg (by omega), if_pos (by omega)]
      omega
    · rw [if_neg h]
      by_cases q : c = n
      · rw [if_pos q, if_pos (by omega)]; omega
      · rw [if_neg q, if_neg (by omega)]
theorem nsm_le {f g : Nat → Nat} : ∀ n : Nat, (∀ v, v < n → f v ≤ g v) → nsm f n ≤ nsm g n
  | 0, _ => Nat.le_refl _
  | n + 1, h => by
    have h1 := nsm_le n (fun v hv => h v (by omega))
    have h2 := h n (by omega)
    rw [nsm_s, nsm_s]
    omega
theorem nsm_eq {f g : Nat → Nat} : ∀ n : Nat, (∀ v, v < n → f v ≤ g v) → nsm f n = nsm g n → ∀ v, v < n → f v = g v
  | 0, _, _, _, h => by omega
  | n + 1, h, he, v, hv => by
    have h1 := nsm_le n (fun v hv => h v (by omega))
    have h2 := h n (by omega)
    rw [nsm_s, nsm_s] at he
    by_cases q : v = n
    · rw [q]; omega
    · exact nsm_eq n (fun v hv => h v (by omega)) (by omega) v (by omega)
theorem nsm_sh (f : Nat → Nat) : ∀ n : Nat, nsm f (n + 1) = f 0 + nsm (fun v => f (v + 1)) n
  | 0 => by rw [nsm_s]; show 0 + f 0 = f 0 + 0; omega
  | n + 1 => by rw [nsm_s, nsm_sh f n, nsm_s]; omega
theorem popN_sum : ∀ (n A : Nat), popN n A = nsm (fun v => A / 2 ^ v % 2) n
  | 0, _ => rfl
  | n + 1, A => by
    rw [nsm_sh, popN, popN_sum n (A / 2), Nat.pow_zero, Nat.div_one]
    refine congrArg (fun z => A % 2 + z) (nsm_congr n (fun v _ => ?_))
    rw [Nat.div_div_eq_div_mul, Nat.pow_succ, Nat.mul_comm]
theorem val_sum (A : Nat) : ∀ n : Nat, A % 2 ^ n = nsm (fun v => A / 2 ^ v % 2 * 2 ^ v) n
  | 0 => by rw [Nat.pow_zero, Nat.mod_one]; rfl
  | n + 1 => by rw [nsm_s, ← val_sum A n, Nat.mod_pow_succ, Nat.mul_comm]
theorem nsm_swap (β x : Nat → Nat) (B : Nat) : ∀ n : Nat, (∀ v, v < n → ¬ x v = 0 → β v < B) → nsm (fun b => nsm (fun v => if β v = b then x v else 0) n) B = nsm x n
  | 0, _ => nsm_0 B
  | n + 1, h => by
    have e : nsm (fun b => nsm (fun v => if β v = b then x v else 0) (n + 1)) B = nsm (fun b => nsm (fun v => if β v = b then x v else 0) n + (if β n = b then x n else 0)) B := rfl
    rw [e, nsm_add, nsm_swap β x B n (fun v hv => h v (by omega)), nsm_1, nsm_s]
    by_cases q : β n < B
    · rw [if_pos q]
    · rw [if_neg q, Decidable.of_not_not (fun z => q (h n (by omega) z))]
/-- bits told by membership -/
theorem tb_iff (s v : Nat) : s.testBit v = true ↔ s / 2 ^ v % 2 = 1 := by rw [Nat.testBit_eq_decide_div_mod_eq, decide_eq_true_iff]
theorem sbm_tb {A s : Nat} (h : ∀ v, s / 2 ^ v % 2 = 1 → A / 2 ^ v % 2 = 1) : sbm A s := by
  refine Nat.eq_of_testBit_eq (fun i => ?_)
  rw [Nat.testBit_and]
  cases hs : s.testBit i with
  | false => rfl
  | true =>
    have := (tb_iff A i).mpr (h i ((tb_iff s i).mp hs))
    rw [this]
    rfl
theorem bitsN_iff (p : Nat → Prop) [DecidablePred p] (n v : Nat) : bitsN p n / 2 ^ v % 2 = 1 ↔ v < n ∧ p v := by
  rw [bitsN_at]
  by_cases q : v < n ∧ p v
  · rw [if_pos q]; exact ⟨fun _ => q, fun _ => rfl⟩
  · rw [if_neg q]; exact ⟨fun z => absurd z (by decide), fun z => absurd z q⟩
theorem bit_lt {s n v : Nat} (hs : s < 2 ^ n) (h : s / 2 ^ v % 2 = 1) : v < n := by
  rcases Nat.lt_or_ge v n with q | q
  · exact q
  · have := Nat.testBit_lt_two_pow (Nat.lt_of_lt_of_le hs (Nat.pow_le_pow_right (by decide) q))
    rw [(tb_iff s v).mpr h] at this
    cases this
theorem sub_I {M s : Nat} (hM : M < 4096) (hs : s < 4096) : (nI s &&& (nI M ^^^ -1)) = 0 ↔ sbm M s := by
  have k1 : (nI s &&& (nI M ^^^ -1)) = 0 ↔ nI s &&& nI M = nI s := by
    have e1 : (-1 : Int32).toBitVec = BitVec.allOnes 32 := by decide
    have e0 : (0 : Int32).toBitVec = 0#32 := by decide
    rw [← Int32.toBitVec_inj, ← Int32.toBitVec_inj, Int32.toBitVec_and, Int32.toBitVec_and, Int32.toBitVec_xor, e1, e0, BitVec.xor_allOnes]
    generalize (nI s).toBitVec = X
    generalize (nI M).toBitVec = Y
    constructor
    · intro h
      apply BitVec.eq_of_getLsbD_eq
      intro i hi
      have := congrArg (fun z => BitVec.getLsbD z i) h
      simp only [BitVec.getLsbD_and, BitVec.getLsbD_not, BitVec.getLsbD_zero] at this ⊢
      cases hx : X.getLsbD i <;> cases hy : Y.getLsbD i <;> simp_all
    · intro h
      apply BitVec.eq_of_getLsbD_eq
      intro i hi
      have := congrArg (fun z => BitVec.getLsbD z i) h
      simp only [BitVec.getLsbD_and, BitVec.getLsbD_not, BitVec.getLsbD_zero] at this ⊢
      cases hx : X.getLsbD i <;> cases hy : Y.getLsbD i <;> simp_all
  have h2 : s &&& M ≤ s := Nat.and_le_left
  rw [k1, nI_and (by omega) (by omega), nI_eq (by omega) (by omega)]
theorem nI_or {a b : Nat} (ha : a < 4096) (hb : b < 4096) : nI a ||| nI b = nI (a ||| b) := by
  have h : a ||| b < 2 ^ 12 := Nat.or_lt_two_pow (n := 12) ha hb
  apply Int32.toBitVec_inj.mp
  apply BitVec.eq_of_toNat_eq
  rw [Int32.toBitVec_or, BitVec.toNat_or, nI_toNat (by omega), nI_toNat (by omega), nI_toNat (by omega)]
/-- the fewest, the least of them -/
def pcw : Nat → Nat → Nat
  | 0, A => popN 12 A
  | n + 1, A => pcw n A
termination_by n => n
/-- how many; kept shut, so that no check of two of them opens both -/
def pc (s : Nat) : Nat := pcw 0 s
theorem pc_is (s : Nat) : pc s = popN 12 s := by
  unfold pc
  rw [pcw]
theorem pc_le (s : Nat) : pc s ≤ 12 := by
  rw [pc_is]
  exact popN_le 12 s
def ltO (s : Nat) (r : Option Nat) : Bool := match r with
  | none => true
  | some q => decide (pc s < pc q)
def stB (P : Nat → Prop) [DecidablePred P] (s : Nat) (r : Option Nat) : Option Nat := if P s ∧ ltO s r = true then some s else r
def bst (P : Nat → Prop) (N : Nat) (r : Option Nat) : Prop := match r with
  | none => ∀ s, s < N → ¬ P s
  | some q => q < N ∧ P q ∧ ∀ s, s < N → P s → pc q < pc s ∨ (pc q = pc s ∧ q ≤ s)
theorem bst_fold (P : Nat → Prop) [DecidablePred P] : ∀ N : Nat, bst P N (zfold (stB P) 0 N none)
  | 0 => fun s h => by omega
  | N + 1 => by
    have ih := bst_fold P N
    rw [zf0]
    generalize zfold (stB P) 0 N none = r at ih ⊢
    unfold stB
    cases r with
    | none =>
      by_cases q : P N
      · rw [if_pos ⟨q, rfl⟩]
        refine ⟨by omega, q, fun s hs hp => ?_⟩
        by_cases e : s = N
        · rw [e]; exact Or.inr ⟨rfl, Nat.le_refl _⟩
        · exact absurd hp (ih s (by omega))
      · rw [if_neg (fun z => q z.1)]
        intro s hs hp
        by_cases e : s = N
        · exact q (by rw [← e]; exact hp)
        · exact ih s (by omega) hp
    | some p =>
      obtain ⟨i1, i2, i3⟩ := ih
      by_cases q : P N ∧ pc N < pc p
      · rw [if_pos ⟨q.1, decide_eq_true q.2⟩]
        refine ⟨by omega, q.1, fun s hs hp => ?_⟩
        by_cases e : s = N
        · rw [e]; exact Or.inr ⟨rfl, Nat.le_refl _⟩
        · have := i3 s (by omega) hp
          omega
      · rw [if_neg (fun z => q ⟨z.1, of_decide_eq_true z.2⟩)]
        refine ⟨by omega, i2, fun s hs hp => ?_⟩
        by_cases e : s = N
        · rw [e] at hp ⊢
          have : ¬ pc N < pc p := fun z => q ⟨hp, z⟩
          omega
        · exact i3 s (by omega) hp
def encO (r : Option Nat) : Int32 := match r with
  | none => -2
  | some q => nI q
theorem encO_lt {P : Nat → Prop} {r : Option Nat} {N : Nat} (hN : N ≤ 4096) (h : bst P N r) : (encO r = -2 ↔ r = none) ∧ (encO r < 0 ↔ r = none) := by
  cases r with
  | none => exact ⟨⟨fun _ => rfl, fun _ => rfl⟩, ⟨fun _ => rfl, fun _ => by show (-2 : Int32) < 0; decide⟩⟩
  | some q =>
    have hq : q < 4096 := Nat.lt_of_lt_of_le h.1 hN
    refine ⟨⟨fun z => ?_, fun z => by cases z⟩, ⟨fun z => absurd z (nI_pos (by omega)), fun z => by cases z⟩⟩
    have z : nI q = -2 := z
    have := nI_pos (n := q) (by omega)
    rw [z] at this
    exact absurd (by decide) this
