/-! sets counted bell by bell, as all at once -/
def prodN (f : Nat → Nat) : Nat → Nat
  | 0 => 1
  | n + 1 => prodN f n * f n
theorem prodN_s (f : Nat → Nat) (n : Nat) : prodN f (n + 1) = prodN f n * f n := rfl
theorem prod_congr {f g : Nat → Nat} : ∀ n : Nat, (∀ b, b < n → f b = g b) → prodN f n = prodN g n
  | 0, _ => rfl
  | n + 1, h => by rw [prodN_s, prodN_s, prod_congr n (fun b hb => h b (by omega)), h n (by omega)]
theorem prod_add {e f g : Nat → Nat} {β0 : Nat} : ∀ B : Nat, β0 < B → (∀ b, b < B → ¬ b = β0 → e b = f b ∧ e b = g b) → e β0 = f β0 + g β0 → prodN e B = prodN f B + prodN g B
  | 0, h, _, _ => absurd h (Nat.not_lt_zero _)
  | B + 1, h, ho, he => by
    rw [prodN_s, prodN_s, prodN_s]
    by_cases q : β0 = B
    · have h1 : prodN e B = prodN f B := prod_congr B (fun b hb => (ho b (by omega) (by omega)).1)
      have h2 : prodN e B = prodN g B := prod_congr B (fun b hb => (ho b (by omega) (by omega)).2)
      rw [q] at he
      rw [he, Nat.mul_add, ← h1, ← h2]
    · rw [prod_add B (by omega) (fun b hb hne => ho b (by omega) hne) he, Nat.add_mul, ← (ho B (by omega) (fun z => q z.symm)).1, ← (ho B (by omega) (fun z => q z.symm)).2]
theorem prod_ind (p : Nat → Prop) [DecidablePred p] : ∀ B : Nat, prodN (fun b => if p b then 1 else 0) B = if ∀ b, b < B → p b then 1 else 0
  | 0 => by rw [if_pos (fun b hb => absurd hb (Nat.not_lt_zero _))]; rfl
  | B + 1 => by
    rw [prodN_s, prod_ind p B]
    by_cases h : ∀ b, b < B → p b
    · rw [if_pos h, Nat.one_mul]
      by_cases q : p B
      · rw [if_pos q, if_pos (fun b hb => by
          by_cases z : b = B
          · rw [z]; exact q
          · exact h b (by omega))]
      · rw [if_neg q, if_neg (fun z => q (z B (by omega)))]
    · rw [if_neg h, Nat.zero_mul, if_neg (fun z => h (fun b hb => z b (by omega)))]
theorem nsm_split (f : Nat → Nat) (a : Nat) : ∀ b : Nat, nsm f (a + b) = nsm f a + nsm (fun i => f (a + i)) b
  | 0 => rfl
  | b + 1 => by
    rw [show a + (b + 1) = (a + b) + 1 by omega, nsm_s, nsm_split f a b, nsm_s, Nat.add_assoc]
theorem top_bit {n s v : Nat} (hs : s < 2 ^ n) : ((2 ^ n + s) / 2 ^ v % 2 = 1 ↔ v = n ∨ s / 2 ^ v % 2 = 1) ∧ ¬ s / 2 ^ n % 2 = 1 := by
  have h0 : ¬ s / 2 ^ n % 2 = 1 := fun z => absurd (bit_lt hs z) (Nat.lt_irrefl _)
  refine ⟨?_, h0⟩
  have hlt : 2 ^ n + s < 2 ^ (n + 1) := by rw [Nat.pow_succ]; omega
  rcases Nat.lt_trichotomy v n with h | h | h
  · rw [← tb_iff, ← tb_iff, Nat.testBit_two_pow_add_gt h]
    exact ⟨Or.inr, fun z => z.elim (fun y => absurd y (Nat.ne_of_lt h)) id⟩
  · subst h
    refine ⟨fun _ => Or.inl rfl, fun _ => ?_⟩
    rw [← tb_iff, Nat.testBit_two_pow_add_eq]
    cases hb : s.testBit v with
    | false => rfl
    | true => exact absurd ((tb_iff s v).mp hb) h0
  · refine ⟨fun z => absurd (bit_lt hlt z) (by omega), fun z => z.elim (fun y => absurd y (Nat.ne_of_gt h)) (fun y => absurd (bit_lt hs y) (by omega))⟩
theorem sbm_all {p : Nat → Prop} [DecidablePred p] {n s : Nat} : sbm (bitsN p n) s ↔ ∀ v, s / 2 ^ v % 2 = 1 → v < n ∧ p v :=
  ⟨fun h v hv => (bitsN_iff p n v).mp (sbm_bits h hv), fun h => sbm_tb (fun v hv => (bitsN_iff p n v).mpr (h v hv))⟩
theorem sbm_up {p : Nat → Prop} [DecidablePred p] {n s : Nat} (hs : s < 2 ^ n) : sbm (bitsN p (n + 1)) s ↔ sbm (bitsN p n) s := by
  rw [sbm_all, sbm_all]
  exact ⟨fun h v hv => ⟨bit_lt hs hv, (h v hv).2⟩, fun h v hv => ⟨Nat.lt_succ_of_lt (h v hv).1, (h v hv).2⟩⟩
theorem sbm_top {p : Nat → Prop} [DecidablePred p] {n s : Nat} (hs : s < 2 ^ n) : sbm (bitsN p (n + 1)) (2 ^ n + s) ↔ p n ∧ sbm (bitsN p n) s := by
  rw [sbm_all, sbm_all]
  constructor
  · intro h
    exact ⟨(h n ((top_bit hs).1.mpr (Or.inl rfl))).2, fun v hv => ⟨bit_lt hs hv, (h v ((top_bit hs).1.mpr (Or.inr hv))).2⟩⟩
  · rintro ⟨h1, h2⟩ v hv
    rcases (top_bit hs).1.mp hv with z | z
    · rw [z]; exact ⟨Nat.lt_succ_self n, h1⟩
    · exact ⟨Nat.lt_succ_of_lt (h2 v z).1, (h2 v z).2⟩
def skS (β : Nat → Nat) (kp bp : Nat → Int32) (b s n : Nat) : Int32 := zsum (fun v => if β v = b then (if s / 2 ^ v % 2 = 1 then bp v else kp v) else 0) n
def skF (β : Nat → Nat) (kp bp : Nat → Int32) (ok : Nat → Int32 → Bool) (B n : Nat) (x : Nat → Int32) : Nat := nsm (fun s => if ∀ b, b < B → ok b (x b + skS β kp bp b s n) = true then 1 else 0) (2 ^ n)
def skB (β : Nat → Nat) (kp bp : Nat → Int32) (ok : Nat → Int32 → Bool) (b n : Nat) (y : Int32) : Nat := nsm (fun s => if sbm (bitsN (fun v => β v = b) n) s ∧ ok b (y + skS β kp bp b s n) = true then 1 else 0) (2 ^ n)
section SK
variable {β : Nat → Nat} {kp bp : Nat → Int32} {ok : Nat → Int32 → Bool}
theorem skS_lo {b s n : Nat} (hs : s < 2 ^ n) : skS β kp bp b s (n + 1) = skS β kp bp b s n + if β n = b then kp n else 0 := by
  unfold skS
  rw [zsum_s, if_neg (c := s / 2 ^ n % 2 = 1) (top_bit (v := n) hs).2]
theorem skS_hi {b s n : Nat} (hs : s < 2 ^ n) : skS β kp bp b (2 ^ n + s) (n + 1) = skS β kp bp b s n + if β n = b then bp n else 0 := by
  unfold skS
  rw [zsum_s, if_pos (c := (2 ^ n + s) / 2 ^ n % 2 = 1) ((top_bit hs).1.mpr (Or.inl rfl))]
  refine congrArg (fun z => z + _) (zsum_congr n (fun v hv => ?_))
  by_cases q : s / 2 ^ v % 2 = 1
  · rw [if_pos q, if_pos ((top_bit hs).1.mpr (Or.inr q))]
  · rw [if_neg q, if_neg (fun z => ((top_bit hs).1.mp z).elim (Nat.ne_of_lt hv) q)]
theorem a3 (x S k : Int32) : x + (S + k) = x + k + S := by rw [Int32.add_comm S k, Int32.add_assoc]
theorem skF_s {B n : Nat} {x : Nat → Int32} : skF β kp bp ok B (n + 1) x = skF β kp bp ok B n (fun b => x b + if β n = b then kp n else 0) + skF β kp bp ok B n (fun b => x b + if β n = b then bp n else 0) := by
  unfold skF
  rw [Nat.pow_succ, Nat.mul_two, nsm_split]
  congr 1
  · refine nsm_congr _ (fun s hs => ?_)
    congr 1
    refine propext (forall_congr' (fun b => forall_congr' (fun _ => ?_)))
    rw [skS_lo hs, a3]
  · refine nsm_congr _ (fun s hs => ?_)
    congr 1
    refine propext (forall_congr' (fun b => forall_congr' (fun _ => ?_)))
    rw [skS_hi hs, a3]
theorem skB_s {b n : Nat} {y : Int32} : skB β kp bp ok b (n + 1) y = if β n = b then skB β kp bp ok b n (y + kp n) + skB β kp bp ok b n (y + bp n) else skB β kp bp ok b n y := by
  unfold skB
  rw [Nat.pow_succ, Nat.mul_two, nsm_split]
  by_cases q : β n = b
  · rw [if_pos q]
    congr 1
    · refine nsm_congr _ (fun s hs => ?_)
      rw [skS_lo hs, if_pos q, a3]
      congr 1
      exact propext (and_congr (sbm_up hs) Iff.rfl)
    · refine nsm_congr _ (fun s hs => ?_)
      rw [skS_hi hs, if_pos q, a3]
      congr 1
      exact propext (and_congr ((sbm_top hs).trans ⟨fun z => z.2, fun z => ⟨q, z⟩⟩) Iff.rfl)
  · rw [if_neg q]
    have e2 : nsm (fun i => if sbm (bitsN (fun v => β v = b) (n + 1)) (2 ^ n + i) ∧ ok b (y + skS β kp bp b (2 ^ n + i) (n + 1)) = true then 1 else 0) (2 ^ n) = nsm (fun _ => 0) (2 ^ n) := nsm_congr _ (fun s hs => if_neg (fun z => q ((sbm_top hs).mp z.1).1))
    rw [e2, nsm_0, Nat.add_zero]
    refine nsm_congr _ (fun s hs => ?_)
    rw [skS_lo hs, if_neg q, Int32.add_zero]
    congr 1
    exact propext (and_congr (sbm_up hs) Iff.rfl)
theorem sk_prod {B : Nat} : ∀ (n : Nat) (x : Nat → Int32), (∀ v, v < n → β v < B) → skF β kp bp ok B n x = prodN (fun b => skB β kp bp ok b n (x b)) B
  | 0, x, _ => by
    have e : (fun b => skB β kp bp ok b 0 (x b)) = fun b => if ok b (x b + skS β kp bp b 0 0) = true then 1 else 0 := by
      funext b
      show (0 + if sbm _ 0 ∧ _ then 1 else 0) = _
      rw [Nat.zero_add]
      congr 1
      exact propext ⟨fun z => z.2, fun z => ⟨sbm_0 _, z⟩⟩
    rw [e, prod_ind]
    show (0 + if _ then 1 else 0) = _
    rw [Nat.zero_add]
  | n + 1, x, h => by
    rw [skF_s, sk_prod n _ (fun v hv => h v (by omega)), sk_prod n _ (fun v hv => h v (by omega))]
    refine (prod_add B (h n (by omega)) (fun b _ hne => ?_) ?_).symm
    · rw [skB_s, if_neg (fun z => hne z.symm)]
      rw [if_neg (fun z => hne z.symm), if_neg (fun z => hne z.symm), Int32.add_zero]
      exact ⟨rfl, rfl⟩
    · rw [skB_s, if_pos rfl]
      rw [if_pos rfl, if_pos rfl]
end SK
theorem zsum_nsm (p : Nat → Prop) [DecidablePred p] : ∀ N : Nat, zsum (fun s => zB (p s)) N = nI (nsm (fun s => if p s then 1 else 0) N)
  | 0 => rfl
  | N + 1 => by
    rw [zsum_s, zsum_nsm p N, nsm_s]
    by_cases q : p N
    · rw [zB_t q, if_pos q, nI_1]
    · rw [zB_f q, if_neg q, Int32.add_zero, Nat.add_zero]
theorem nsm_ex {p : Nat → Prop} [DecidablePred p] : ∀ N : Nat, ¬ nsm (fun s => if p s then 1 else 0) N = 0 → ∃ s, s < N ∧ p s
  | 0, h => absurd rfl h
  | N + 1, h => by
    by_cases q : p N
    · exact ⟨N, by omega, q⟩
    · rw [nsm_s, if_neg q, Nat.add_zero] at h
      obtain ⟨s, h1, h2⟩ := nsm_ex N h
      exact ⟨s, by omega, h2⟩
theorem nsm_le1 {f : Nat → Nat} : ∀ N : Nat, (∀ s, s < N → f s ≤ 1) → nsm f N ≤ N
  | 0, _ => Nat.le_refl _
  | N + 1, h => by
    have h1 := nsm_le1 N (fun s hs => h s (by omega))
    have h2 := h N (by omega)
    rw [nsm_s]
    omega
/-- how many of a row are not 0 -/
def nzN (f : Nat → Int32) (N : Nat) : Nat := nsm (fun p => if f p = 0 then 0 else 1) N
theorem nz_fu {f : Nat → Int32} {p : Nat} (h0 : f p = 0) : ∀ N : Nat, nzN (fu f p 1) N = nzN f N + if p < N then 1 else 0
  | 0 => rfl
  | N + 1 => by
    have ih := nz_fu h0 N
    unfold nzN at ih ⊢
    rw [nsm_s, nsm_s, ih]
    by_cases q : N = p
    · subst q
      rw [if_neg (Nat.lt_irrefl _), if_pos h0, if_pos (Nat.lt_succ_self _), if_neg (show ¬ fu f N 1 N = 0 by unfold fu; rw [if_pos rfl]; decide)]
    · rw [show fu f p 1 N = f N from if_neg q]
      by_cases y : p < N
      · have y2 : p < N + 1 := by omega
        rw [if_pos y, if_pos y2]; omega
      · have y2 : ¬ p < N + 1 := by omega
        rw [if_neg y, if_neg y2]; omega
theorem bitsN_congr {p q : Nat → Prop} [DecidablePred p] [DecidablePred q] : ∀ n : Nat, (∀ v, v < n → (p v ↔ q v)) → bitsN p n = bitsN q n
  | 0, _ => rfl
  | n + 1, h => by
    rw [bitsN_s, bitsN_s, bitsN_congr n (fun v hv => h v (by omega))]
    have := h n (by omega)
    by_cases z : p n
    · rw [if_pos z, if_pos (this.mp z)]
    · rw [if_neg z, if_neg (fun y => z (this.mpr y))]
