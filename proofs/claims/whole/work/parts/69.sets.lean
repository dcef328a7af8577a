/-! sets of vows as numbers: the parts of a set in their order -/
abbrev sbm (A r : Nat) : Prop := r &&& A = r
theorem and2 (x y : Nat) : (x &&& y) / 2 = (x / 2) &&& (y / 2) := Nat.and_div_two
theorem andp (x y : Nat) : (x &&& y) % 2 = (x % 2) * (y % 2) := by
  have h := Nat.and_mod_two_eq_one (a := x) (b := y)
  rcases Nat.mod_two_eq_zero_or_one x with hx | hx <;> rcases Nat.mod_two_eq_zero_or_one y with hy | hy <;> rcases Nat.mod_two_eq_zero_or_one (x &&& y) with hz | hz <;> simp_all
theorem sbm_iff (A r : Nat) : sbm A r ↔ sbm (A / 2) (r / 2) ∧ r % 2 ≤ A % 2 := by
  unfold sbm
  have h1 := and2 r A
  have h2 := andp r A
  constructor
  · intro h
    rw [h] at h1 h2
    refine ⟨h1.symm, ?_⟩
    rcases Nat.mod_two_eq_zero_or_one r with hx | hx <;> rcases Nat.mod_two_eq_zero_or_one A with hy | hy <;> rw [hx, hy] at h2 <;> omega
  · rintro ⟨h3, h4⟩
    rw [h3] at h1
    have h5 : (r &&& A) % 2 = r % 2 := by
      rw [h2]
      rcases Nat.mod_two_eq_zero_or_one r with hx | hx <;> rcases Nat.mod_two_eq_zero_or_one A with hy | hy <;> rw [hx, hy] at h4 ⊢ <;> omega
    omega
theorem sbm_le {A r : Nat} (h : sbm A r) : r ≤ A := by
  unfold sbm at h
  rw [← h]
  exact Nat.and_le_right
theorem sbm_0 (A : Nat) : sbm A 0 := Nat.zero_and A
theorem sbm_self (A : Nat) : sbm A A := Nat.and_self A
theorem sbm_and (A x : Nat) : sbm A (x &&& A) := by
  show (x &&& A) &&& A = x &&& A
  rw [Nat.and_assoc, Nat.and_self]
/-- what is left of a set -/
theorem sbm_sub : ∀ (n A m : Nat), A < 2 ^ n → sbm A m → sbm A (A - m)
  | 0, A, m, h, _ => by
    have : A = 0 := by simp at h; exact h
    subst this
    rw [Nat.zero_sub]
    exact sbm_0 0
  | n + 1, A, m, h, hm => by
    obtain ⟨h1, h2⟩ := (sbm_iff A m).mp hm
    have hle := sbm_le hm
    have hle2 := sbm_le h1
    have ih := sbm_sub n (A / 2) (m / 2) (by rw [Nat.pow_succ] at h; omega) h1
    refine (sbm_iff A (A - m)).mpr ⟨?_, by omega⟩
    rw [show (A - m) / 2 = A / 2 - m / 2 by omega]
    exact ih
/-- a part that is less than c is no more than the part of c - 1 -/
theorem sbm_low : ∀ (n A c r : Nat), A < 2 ^ n → 0 < c → sbm A c → sbm A r → r < c → r ≤ (c - 1) &&& A
  | 0, A, c, r, h, h0, hc, _, _ => by
    have : A = 0 := by simp at h; exact h
    subst this
    have := sbm_le hc
    omega
  | n + 1, A, c, r, h, h0, hc, hr, hlt => by
    obtain ⟨c1, c2⟩ := (sbm_iff A c).mp hc
    obtain ⟨r1, r2⟩ := (sbm_iff A r).mp hr
    have e1 := and2 (c - 1) A
    have e2 := andp (c - 1) A
    rcases Nat.mod_two_eq_zero_or_one c with hg | hg
    · have ih := sbm_low n (A / 2) (c / 2) (r / 2) (by rw [Nat.pow_succ] at h; omega) (by omega) c1 r1 (by omega)
      rw [show (c - 1) / 2 = c / 2 - 1 by omega] at e1
      rw [show (c - 1) % 2 = 1 by omega, Nat.one_mul] at e2
      omega
    · rw [show (c - 1) / 2 = c / 2 by omega, show c / 2 &&& A / 2 = c / 2 from c1] at e1
      omega
/-- the next part -/
def nx (A s : Nat) : Nat := if s = A then 0 else A - ((A - s - 1) &&& A)
theorem nx_sbm {n A s : Nat} (hA : A < 2 ^ n) : sbm A (nx A s) := by
  unfold nx
  split
  · exact sbm_0 A
  · exact sbm_sub n A _ hA (sbm_and A _)
theorem nx_lt {n A s : Nat} (hA : A < 2 ^ n) (hs : sbm A s) (hne : ¬ s = A) : s < nx A s ∧ ∀ r, s < r → r < nx A s → ¬ sbm A r := by
  have hle := sbm_le hs
  have hle2 : (A - s - 1) &&& A ≤ A - s - 1 := Nat.and_le_left
  unfold nx
  rw [if_neg hne]
  refine ⟨by omega, fun r h1 h2 hr => ?_⟩
  have hrl := sbm_le hr
  have k := sbm_low n A (A - s) (A - r) hA (by omega) (sbm_sub n A s hA hs) (sbm_sub n A r hA hr) (by omega)
  omega
/-- how many parts stand ahead of s -/
def rk (A : Nat) : Nat → Nat
  | 0 => 0
  | s + 1 => rk A s + if sbm A s then 1 else 0
theorem rk_gap {A s : Nat} : ∀ k : Nat, (∀ r, s ≤ r → r < s + k → ¬ sbm A r) → rk A (s + k) = rk A s
  | 0, _ => rfl
  | k + 1, h => by
    rw [show s + (k + 1) = (s + k) + 1 by omega, rk, rk_gap k (fun r h1 h2 => h r h1 (by omega)), if_neg (h (s + k) (by omega) (by omega))]
    rfl
theorem rk_mono {A s : Nat} : ∀ k : Nat, rk A s ≤ rk A (s + k)
  | 0 => Nat.le_refl _
  | k + 1 => by
    rw [show s + (k + 1) = (s + k) + 1 by omega, rk]
    have := rk_mono (A := A) (s := s) k
    omega
theorem rk_two (A : Nat) : ∀ m : Nat, rk A (2 * m) = (if A % 2 = 1 then 2 else 1) * rk (A / 2) m
  | 0 => rfl
  | m + 1 => by
    rw [show 2 * (m + 1) = 2 * m + 1 + 1 by omega, rk, rk, rk_two A m, rk]
    have h1 : sbm A (2 * m) ↔ sbm (A / 2) m := by
      rw [sbm_iff, show 2 * m / 2 = m by omega]
      exact ⟨fun z => z.1, fun z => ⟨z, by omega⟩⟩
    have h2 : sbm A (2 * m + 1) ↔ sbm (A / 2) m ∧ A % 2 = 1 := by
      rw [sbm_iff, show (2 * m + 1) / 2 = m by omega]
      exact ⟨fun z => ⟨z.1, by omega⟩, fun z => ⟨z.1, by omega⟩⟩
    by_cases hm : sbm (A / 2) m
    · rw [if_pos (h1.mpr hm), if_pos hm]
      by_cases ha : A % 2 = 1
      · rw [if_pos (h2.mpr ⟨hm, ha⟩), if_pos ha]; omega
      · rw [if_neg (fun z => ha (h2.mp z).2), if_neg ha]; omega
    · rw [if_neg (fun z => hm (h1.mp z)), if_neg hm, if_neg (fun z => hm (h2.mp z).1)]
      simp only [Nat.add_zero]
def popN : Nat → Nat → Nat
  | 0, _ => 0
  | n + 1, A => A % 2 + popN n (A / 2)
theorem rk_all : ∀ (n A : Nat), rk A (2 ^ n) = 2 ^ popN n A
  | 0, A => by
    show rk A 1 = 1
    rw [rk, rk, if_pos (sbm_0 A)]
  | n + 1, A => by
    rw [Nat.pow_succ, Nat.mul_comm, rk_two, rk_all n (A / 2), popN]
    rcases Nat.mod_two_eq_zero_or_one A with h | h
    · rw [if_neg (by omega), h, Nat.zero_add, Nat.one_mul]
    · rw [if_pos h, h, Nat.add_comm 1, Nat.pow_succ, Nat.mul_comm]
/-- going through all parts of A: after i turns, at s, with what has come -/
def fA {σ : Type} (A : Nat) (f : Nat → σ → σ) : Nat → σ → σ := fun s t => if sbm A s then f s t else t
theorem fA_gap {σ : Type} {A : Nat} {f : Nat → σ → σ} {s : Nat} {t : σ} : ∀ k : Nat, (∀ r, s ≤ r → r < s + k → ¬ sbm A r) → zfold (fA A f) 0 (s + k) t = zfold (fA A f) 0 s t
  | 0, _ => rfl
  | k + 1, h => by
    rw [show s + (k + 1) = (s + k) + 1 by omega, zf0, fA_gap k (fun r h1 h2 => h r h1 (by omega))]
    unfold fA
    rw [if_neg (h (s + k) (by omega) (by omega))]
def atS {σ : Type} (n A : Nat) (f : Nat → σ → σ) (t0 : σ) (i s : Nat) (t : σ) : Prop := s < 2 ^ n ∧ ((i < 2 ^ popN n A ∧ sbm A s ∧ rk A s = i ∧ t = zfold (fA A f) 0 s t0) ∨ (i = 2 ^ popN n A ∧ t = zfold (fA A f) 0 (2 ^ n) t0))
theorem atS_0 {σ : Type} {n A : Nat} {f : Nat → σ → σ} {t0 : σ} : atS n A f t0 0 0 t0 := ⟨Nat.two_pow_pos n, Or.inl ⟨Nat.two_pow_pos _, sbm_0 A, rfl, rfl⟩⟩
theorem atS_end {σ : Type} {n A : Nat} {f : Nat → σ → σ} {t0 t : σ} {s : Nat} (h : atS n A f t0 (2 ^ popN n A) s t) : t = zfold (fA A f) 0 (2 ^ n) t0 := by
  rcases h.2 with ⟨h1, -⟩ | ⟨-, h2⟩
  · exact absurd h1 (Nat.lt_irrefl _)
  · exact h2
theorem atS_in {σ : Type} {n A : Nat} {f : Nat → σ → σ} {t0 t : σ} {i s : Nat} (h : atS n A f t0 i s t) (hi : i < 2 ^ popN n A) : sbm A s ∧ s < 2 ^ n := by
  rcases h.2 with ⟨h1, h2, -⟩ | ⟨h1, -⟩
  · exact ⟨h2, h.1⟩
  · omega
theorem atS_next {σ : Type} {n A : Nat} {f : Nat → σ → σ} {t0 t : σ} {i s : Nat} (hA : A < 2 ^ n) (h : atS n A f t0 i s t) (hi : i < 2 ^ popN n A) : atS n A f t0 (i + 1) (nx A s) (f s t) := by
  rcases h.2 with ⟨-, h2, h3, h4⟩ | ⟨h1, -⟩
  · have hstep : zfold (fA A f) 0 (s + 1) t0 = f s t := by
      rw [zf0, ← h4]
      unfold fA
      rw [if_pos h2]
    have hrk : rk A (s + 1) = i + 1 := by rw [rk, if_pos h2, h3]
    have hnA : nx A s < 2 ^ n := Nat.lt_of_le_of_lt (sbm_le (nx_sbm hA)) hA
    refine ⟨hnA, ?_⟩
    by_cases he : s = A
    · have hg : ∀ r, s + 1 ≤ r → r < s + 1 + (2 ^ n - (s + 1)) → ¬ sbm A r := fun r h5 _ hr => by
        have := sbm_le hr
        omega
      have e : s + 1 + (2 ^ n - (s + 1)) = 2 ^ n := by omega
      have g1 := rk_gap _ hg
      have g2 := fA_gap (f := f) (t := t0) _ hg
      rw [e] at g1 g2
      refine Or.inr ⟨?_, ?_⟩
      · rw [← rk_all, g1, hrk]
      · rw [g2, hstep]
    · obtain ⟨n1, n2⟩ := nx_lt hA h2 he
      have hg : ∀ r, s + 1 ≤ r → r < s + 1 + (nx A s - (s + 1)) → ¬ sbm A r := fun r h5 h6 => n2 r (by omega) (by omega)
      have e : s + 1 + (nx A s - (s + 1)) = nx A s := by omega
      have g1 := rk_gap _ hg
      have g2 := fA_gap (f := f) (t := t0) _ hg
      rw [e] at g1 g2
      refine Or.inl ⟨?_, nx_sbm hA, by rw [g1, hrk], by rw [g2, hstep]⟩
      have m1 := rk_mono (A := A) (s := nx A s + 1) (2 ^ n - (nx A s + 1))
      rw [show nx A s + 1 + (2 ^ n - (nx A s + 1)) = 2 ^ n by omega, rk_all, rk, if_pos (nx_sbm hA), g1, hrk] at m1
      omega
  · omega
/-- (2^k - 1 - m) and A: what of A is not in m -/
theorem and_comp : ∀ (k m A : Nat), A < 2 ^ k → m < 2 ^ k → (2 ^ k - 1 - m) &&& A = A - (m &&& A)
  | 0, m, A, h1, h2 => by
    have : A = 0 := by simp at h1; exact h1
    subst this
    simp
  | k + 1, m, A, h1, h2 => by
    rw [Nat.pow_succ] at h1 h2 ⊢
    have ih := and_comp k (m / 2) (A / 2) (by omega) (by omega)
    have e1 := and2 (2 ^ k * 2 - 1 - m) A
    have e2 := andp (2 ^ k * 2 - 1 - m) A
    have e3 := and2 m A
    have e4 := andp m A
    have hp := Nat.two_pow_pos k
    rw [show (2 ^ k * 2 - 1 - m) / 2 = 2 ^ k - 1 - m / 2 by omega, ih] at e1
    rw [show (2 ^ k * 2 - 1 - m) % 2 = 1 - m % 2 by omega] at e2
    have l1 : m &&& A ≤ A := Nat.and_le_right
    have l2 : m / 2 &&& A / 2 ≤ A / 2 := Nat.and_le_right
    rcases Nat.mod_two_eq_zero_or_one m with hx | hx <;> rcases Nat.mod_two_eq_zero_or_one A with hy | hy <;> rw [hx, hy] at e2 e4 <;> omega
theorem nI_toNat {a : Nat} (h : a < 2 ^ 31) : (nI a).toBitVec.toNat = a := by
  show (Int32.ofNat a).toBitVec.toNat = a
  have : (Int32.ofNat a).toBitVec = BitVec.ofNat 32 a := rfl
  rw [this, BitVec.toNat_ofNat]
  omega
theorem nI_and {a b : Nat} (ha : a < 2 ^ 31) (hb : b < 2 ^ 31) : nI a &&& nI b = nI (a &&& b) := by
  apply Int32.toBitVec_inj.mp
  apply BitVec.eq_of_toNat_eq
  have h : a &&& b ≤ a := Nat.and_le_left
  rw [Int32.toBitVec_and, BitVec.toNat_and, nI_toNat ha, nI_toNat hb, nI_toNat (by omega)]
theorem nx_I {n A s : Nat} (hn : n ≤ 12) (hA : A < 2 ^ n) (hs : sbm A s) : (nI s - nI A) &&& nI A = nI (nx A s) := by
  have hle := sbm_le hs
  have h12 : (2 : Nat) ^ n ≤ 2 ^ 12 := Nat.pow_le_pow_right (by decide) hn
  have hA2 : A < 4096 := by omega
  have hnx : nx A s ≤ A := sbm_le (nx_sbm hA)
  apply Int32.toBitVec_inj.mp
  apply BitVec.eq_of_toNat_eq
  rw [Int32.toBitVec_and, BitVec.toNat_and, Int32.toBitVec_sub, BitVec.toNat_sub, nI_toNat (by omega), nI_toNat (by omega), nI_toNat (by omega)]
  unfold nx
  by_cases he : s = A
  · rw [if_pos he, he, show (2 ^ 32 - A + A) % 2 ^ 32 = 0 by omega, Nat.zero_and]
  · rw [if_neg he, show (2 ^ 32 - A + s) % 2 ^ 32 = 2 ^ 32 - 1 - (A - s - 1) by omega]
    exact and_comp 32 _ _ (by omega) (by omega)
