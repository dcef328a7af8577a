/-! THE LAW, read purely: what each part of the grammar reads, compiles to and means -/
def zB (p : Prop) [Decidable p] : Int32 := if p then 1 else 0
theorem zB_t {p : Prop} [Decidable p] (h : p) : zB p = 1 := if_pos h
theorem zB_f {p : Prop} [Decidable p] (h : ¬ p) : zB p = 0 := if_neg h
theorem zB_01 (p : Prop) [Decidable p] : zB p = 0 ∨ zB p = 1 := by unfold zB; split <;> simp
theorem zB_eq0 {p : Prop} [Decidable p] : zB p = 0 ↔ ¬ p := by unfold zB; split <;> simp_all
theorem zB_ne0 {p : Prop} [Decidable p] : ¬ zB p = 0 ↔ p := by unfold zB; split <;> simp_all
theorem zB_cong {p q : Prop} [Decidable p] [Decidable q] (h : p ↔ q) : zB p = zB q := by unfold zB; simp only [h]
/-- steps, their meaning -/
abbrev qC : Type := List (Int32 × Int32)
abbrev qD : Type := (Nat → Int32) → Int32
abbrev qR : Type := Nat ⊕ (Nat × qC × qD)
def qnx (T : Nat → Int32) (n p : Nat) : Int32 := if p < n then T p else -1
abbrev qdig (c : Int32) : Prop := 48 ≤ c ∧ c ≤ 57
def qnm (c : Int32) : Option Nat := if c = 119 then some 0 else if c = 107 then some 1 else if c = 100 then some 2 else if c = 104 then some 3 else if c = 98 then some 4 else if c = 112 then some 5 else none
/-- two values joined by a sign -/
def qjn (o u v : Int32) : Int32 := if o = 124 then zB (¬ u = 0 ∨ ¬ v = 0) else if o = 38 then zB (¬ u = 0 ∧ ¬ v = 0) else if o = 60 then zB (u < v) else if o = 61 then zB (u = v) else if o = 62 then zB (v < u) else if o = 43 then u + v else if o = 45 then u - v else if o = 42 then u * v else if o = 47 then (if v = 0 then 0 else u / v) else (if v = 0 then 0 else u - u / v * v)
/-- up to k digits -/
def qnum (T : Nat → Int32) (n : Nat) : Nat → Nat → Int32 → Nat × Int32
  | 0, p, v => (p, v)
  | k + 1, p, v => if qdig (qnx T n p) then qnum T n k (p + 1) (v * 10 + T p - 48) else (p, v)
def qlp (T : Nat → Int32) (n : Nat) (po : Nat → qR) (isop : Int32 → Bool) : Nat → Nat → qC → qD → qR
  | 0, p, c, e => .inr (p, c, e)
  | f + 1, p, c, e => if isop (qnx T n p) = true then (match po (p + 1) with
      | .inl q => .inl q
      | .inr (q, c2, e2) => qlp T n po isop f q (c ++ c2 ++ [(qnx T n p, 0)]) (fun ν => qjn (qnx T n p) (e ν) (e2 ν)))
    else .inr (p, c, e)
def qop3 (c : Int32) : Bool := c == 42 || c == 47 || c == 37
def qop2 (c : Int32) : Bool := c == 43 || c == 45
def qopB (c : Int32) : Bool := c == 60 || c == 61 || c == 62
def qopA (c : Int32) : Bool := c == 38
def qopE (c : Int32) : Bool := c == 124
def qbin (T : Nat → Int32) (n : Nat) (po : Nat → qR) (isop : Int32 → Bool) (f p : Nat) : qR := match po p with
  | .inl q => .inl q
  | .inr (q, c, e) => qlp T n po isop f q c e
def qP (T : Nat → Int32) (n : Nat) (po : Nat → qR) : Nat → qR := qbin T n po qop3 120
def qS (T : Nat → Int32) (n : Nat) (po : Nat → qR) : Nat → qR := qbin T n (qP T n po) qop2 120
def qBB (T : Nat → Int32) (n : Nat) (po : Nat → qR) : Nat → qR := qbin T n (qS T n po) qopB 1
def qA (T : Nat → Int32) (n : Nat) (po : Nat → qR) : Nat → qR := qbin T n (qBB T n po) qopA 120
def qE (T : Nat → Int32) (n : Nat) (po : Nat → qR) : Nat → qR := qbin T n (qA T n po) qopE 120
/-- k: how many more ( ! - may be open -/
def qO (T : Nat → Int32) (n : Nat) : Nat → Nat → qR
  | 0, p => if qdig (qnx T n p) then .inr ((qnum T n 4 p 0).1, [(35, (qnum T n 4 p 0).2)], fun _ => (qnum T n 4 p 0).2) else match qnm (qnx T n p) with
    | some i => .inr (p + 1, [(97, nI i)], fun ν => ν i)
    | none => .inl p
  | k + 1, p => if qdig (qnx T n p) then .inr ((qnum T n 4 p 0).1, [(35, (qnum T n 4 p 0).2)], fun _ => (qnum T n 4 p 0).2) else match qnm (qnx T n p) with
    | some i => .inr (p + 1, [(97, nI i)], fun ν => ν i)
    | none => if qnx T n p = 40 then (match qE T n (qO T n k) (p + 1) with
        | .inl q => .inl q
        | .inr (q, c, e) => if qnx T n q = 41 then .inr (q + 1, c, e) else .inl q)
      else if qnx T n p = 33 then (match qO T n k (p + 1) with
        | .inl q => .inl q
        | .inr (q, c, e) => .inr (q, c ++ [(33, 0)], fun ν => zB (e ν = 0)))
      else if qnx T n p = 45 then (match qO T n k (p + 1) with
        | .inl q => .inl q
        | .inr (q, c, e) => .inr (q, c ++ [(126, 0)], fun ν => - e ν))
      else .inl p
def qTop (T : Nat → Int32) (n : Nat) : Nat → qR := qE T n (qO T n 6)
/-- a line: where it ends, its steps (from place sz on), its first part, what it gives -/
def qLn (T : Nat → Int32) (n p sz : Nat) : Nat ⊕ (Nat × qC × Option qD × qD) := match qTop T n p with
  | .inl q => .inl q
  | .inr (q, c, e) => if qnx T n q = 63 then (match qTop T n (q + 1) with
      | .inl r => .inl r
      | .inr (r, c2, e2) => .inr (r, c ++ [(63, nI (sz + c.length + 1 + c2.length + 1))] ++ c2 ++ [(59, 0)], some e, e2))
    else .inr (q, c ++ [(59, 0)], none, e)
def qcon (o : Option qD) (e r : qD) : qD := match o with
  | none => e
  | some z => fun ν => if z ν = 0 then r ν else e ν
/-- the text from p on: its fault, or its steps and meaning -/
def qLw (T : Nat → Int32) (n : Nat) : Nat → Nat → Nat → Nat ⊕ (qC × qD)
  | 0, p, _ => .inl p
  | f + 1, p, sz => match qLn T n p sz with
    | .inl q => .inl q
    | .inr (q, c, o, e) => if q = n then .inr (c, qcon o e (fun _ => 0)) else if qnx T n q = 59 then (match qLw T n f (q + 1) (sz + c.length) with
        | .inl r => .inl r
        | .inr (c2, e2) => .inr (c ++ c2, qcon o e e2))
      else .inl q
/-! what the steps do on a stack -/
def qv1 (s : Int32 × Int32) (ν : Nat → Int32) (st : List Int32) : Option (List Int32) := if s.1 = 35 then some (s.2 :: st) else if s.1 = 97 then some (ν s.2.toNatClampNeg :: st) else match st with
  | [] => none
  | v :: r => if s.1 = 126 then some (-v :: r) else if s.1 = 33 then some (zB (v = 0) :: r) else match r with
    | [] => none
    | u :: r2 => some (qjn s.1 u v :: r2)
def qvm (ν : Nat → Int32) : qC → List Int32 → Option (List Int32)
  | [], st => some st
  | s :: r, st => match qv1 s ν st with
    | none => none
    | some st' => qvm ν r st'
theorem qvm_app (ν : Nat → Int32) : ∀ (a b : qC) (st st' : List Int32), qvm ν a st = some st' → qvm ν (a ++ b) st = qvm ν b st'
  | [], b, st, st', h => by cases h; rfl
  | s :: r, b, st, st', h => by
    simp only [qvm, List.cons_append] at h ⊢
    cases h1 : qv1 s ν st with
    | none => rw [h1] at h; cases h
    | some z => rw [h1] at h; exact qvm_app ν r b z st' h
/-- steps that only push one value, whatever stood there; none of them is a check or an end; of 6 names -/
def qgood (c : qC) (e : qD) : Prop := (∀ ν st, qvm ν c st = some (e ν :: st)) ∧ ∀ s ∈ c, s.1 ≠ 63 ∧ s.1 ≠ 59
theorem qgood_num (v : Int32) : qgood [(35, v)] (fun _ => v) := ⟨fun ν st => by simp [qvm, qv1], by simp⟩
theorem qgood_nm {i : Nat} (h : i < 6) : qgood [(97, nI i)] (fun ν => ν i) := ⟨fun ν st => by simp [qvm, qv1, nI_clamp (show i < 2 ^ 31 by omega)], by simp⟩
theorem qgood_not {c : qC} {e : qD} (h : qgood c e) : qgood (c ++ [(33, 0)]) (fun ν => zB (e ν = 0)) := by
  refine ⟨fun ν st => ?_, fun s hs => ?_⟩
  · rw [qvm_app ν _ _ _ _ (h.1 ν st)]
    simp [qvm, qv1]
  · rcases List.mem_append.mp hs with q | q
    · exact h.2 s q
    · simp at q; subst q; decide
theorem qgood_neg {c : qC} {e : qD} (h : qgood c e) : qgood (c ++ [(126, 0)]) (fun ν => - e ν) := by
  refine ⟨fun ν st => ?_, fun s hs => ?_⟩
  · rw [qvm_app ν _ _ _ _ (h.1 ν st)]
    simp [qvm, qv1]
  · rcases List.mem_append.mp hs with q | q
    · exact h.2 s q
    · simp at q; subst q; decide
def qopok (o : Int32) : Prop := o ≠ 35 ∧ o ≠ 97 ∧ o ≠ 126 ∧ o ≠ 33 ∧ o ≠ 63 ∧ o ≠ 59
theorem qgood_bin {c c2 : qC} {e e2 : qD} {o : Int32} (h : qgood c e) (h2 : qgood c2 e2) (ho : qopok o) : qgood (c ++ c2 ++ [(o, 0)]) (fun ν => qjn o (e ν) (e2 ν)) := by
  obtain ⟨o1, o2, o3, o4, o5, o6⟩ := ho
  refine ⟨fun ν st => ?_, fun s hs => ?_⟩
  · rw [List.append_assoc, qvm_app ν _ _ _ _ (h.1 ν st), qvm_app ν _ _ _ _ (h2.1 ν _)]
    simp [qvm, qv1, o1, o2, o3, o4]
  · rcases List.mem_append.mp hs with q | q
    · rcases List.mem_append.mp q with q | q
      · exact h.2 s q
      · exact h2.2 s q
    · simp at q; subst q; exact ⟨o5, o6⟩
/-- what a part of the grammar gives, where it goes on: it moves on, within the text, and its steps are no more than its bytes -/
def qok (n : Nat) (po : Nat → qR) : Prop := ∀ p, match po p with
  | .inl q => p ≤ q ∧ (p ≤ n → q ≤ n)
  | .inr (q, c, e) => p < q ∧ q ≤ n ∧ c.length ≤ q - p ∧ qgood c e
theorem qnx_lt {T : Nat → Int32} {n p : Nat} (h : qnx T n p ≠ -1) : p < n := by
  unfold qnx at h
  split at h
  · assumption
  · exact absurd rfl h
theorem qnum_spec (T : Nat → Int32) (n : Nat) : ∀ (k p : Nat) (v : Int32), p ≤ n → p ≤ (qnum T n k p v).1 ∧ (qnum T n k p v).1 ≤ n ∧ (qnum T n k p v).1 ≤ p + k
  | 0, p, v, h => ⟨Nat.le_refl _, h, Nat.le_refl _⟩
  | k + 1, p, v, h => by
    simp only [qnum]
    split
    · rename_i hd
      have hp : p < n := qnx_lt (fun e => by rw [e] at hd; exact absurd hd.1 (by decide))
      have ih := qnum_spec T n k (p + 1) (v * 10 + T p - 48) hp
      omega
    · exact ⟨Nat.le_refl _, h, by omega⟩
theorem qnum_pos {T : Nat → Int32} {n p k : Nat} {v : Int32} (h : qdig (qnx T n p)) : p < (qnum T n (k + 1) p v).1 ∧ (qnum T n (k + 1) p v).1 ≤ n := by
  have hp : p < n := qnx_lt (fun e => by rw [e] at h; exact absurd h.1 (by decide))
  simp only [qnum, if_pos h]
  have := qnum_spec T n k (p + 1) (v * 10 + T p - 48) hp
  omega
theorem qlp_ok {T : Nat → Int32} {n : Nat} {po : Nat → qR} {isop : Int32 → Bool} (hp : qok n po) (hop : ∀ c, isop c = true → qopok c ∧ c ≠ -1) : ∀ (f p0 p : Nat) (c : qC) (e : qD), p0 < p → p ≤ n → c.length ≤ p - p0 → qgood c e → match qlp T n po isop f p c e with
    | .inl q => p0 ≤ q ∧ q ≤ n
    | .inr (q, c', e') => p0 < q ∧ q ≤ n ∧ c'.length ≤ q - p0 ∧ qgood c' e'
  | 0, p0, p, c, e, h1, h2, h3, h4 => ⟨h1, h2, h3, h4⟩
  | f + 1, p0, p, c, e, h1, h2, h3, h4 => by
    simp only [qlp]
    split
    · rename_i r q hr
      split at hr
      · rename_i ho
        have hlt : p < n := qnx_lt (hop _ ho).2
        have hq := hp (p + 1)
        split at hr
        · rename_i q' hq'
          cases hr
          rw [hq'] at hq
          exact ⟨by omega, hq.2 hlt⟩
        · rename_i q' c2 e2 hq'
          rw [hq'] at hq
          have ih := qlp_ok (T := T) hp hop f p0 q' (c ++ c2 ++ [(qnx T n p, 0)]) (fun ν => qjn (qnx T n p) (e ν) (e2 ν)) (by omega) hq.2.1 (by simp only [List.length_append, List.length_cons, List.length_nil]; omega) (qgood_bin h4 hq.2.2.2 (hop _ ho).1)
          rw [hr] at ih
          exact ih
      · cases hr
    · rename_i r q c' e' hr
      split at hr
      · rename_i ho
        have hlt : p < n := qnx_lt (hop _ ho).2
        have hq := hp (p + 1)
        split at hr
        · cases hr
        · rename_i q' c2 e2 hq'
          rw [hq'] at hq
          have ih := qlp_ok (T := T) hp hop f p0 q' (c ++ c2 ++ [(qnx T n p, 0)]) (fun ν => qjn (qnx T n p) (e ν) (e2 ν)) (by omega) hq.2.1 (by simp only [List.length_append, List.length_cons, List.length_nil]; omega) (qgood_bin h4 hq.2.2.2 (hop _ ho).1)
          rw [hr] at ih
          exact ih
      · cases hr
        exact ⟨h1, h2, h3, h4⟩
theorem qbin_ok {T : Nat → Int32} {n : Nat} {po : Nat → qR} {isop : Int32 → Bool} {f : Nat} (hp : qok n po) (hop : ∀ c, isop c = true → qopok c ∧ c ≠ -1) : qok n (qbin T n po isop f) := by
  intro p
  have hq := hp p
  unfold qbin
  cases hr : po p with
  | inl q => rw [hr] at hq; exact hq
  | inr z =>
    obtain ⟨q, c, e⟩ := z
    rw [hr] at hq
    have h := qlp_ok (T := T) hp hop f p q c e hq.1 hq.2.1 hq.2.2.1 hq.2.2.2
    dsimp only
    cases hl : qlp T n po isop f q c e with
    | inl q' => rw [hl] at h; exact ⟨h.1, fun _ => h.2⟩
    | inr z => obtain ⟨q', c', e'⟩ := z; rw [hl] at h; exact h
theorem qop3_ok : ∀ c, qop3 c = true → qopok c ∧ c ≠ -1 := by
  intro c h
  simp only [qop3, Bool.or_eq_true, beq_iff_eq] at h
  rcases h with (rfl | rfl) | rfl <;> exact ⟨by unfold qopok; decide, by decide⟩
theorem qop2_ok : ∀ c, qop2 c = true → qopok c ∧ c ≠ -1 := by
  intro c h
  simp only [qop2, Bool.or_eq_true, beq_iff_eq] at h
  rcases h with rfl | rfl <;> exact ⟨by unfold qopok; decide, by decide⟩
theorem qopB_ok : ∀ c, qopB c = true → qopok c ∧ c ≠ -1 := by
  intro c h
  simp only [qopB, Bool.or_eq_true, beq_iff_eq] at h
  rcases h with (rfl | rfl) | rfl <;> exact ⟨by unfold qopok; decide, by decide⟩
theorem qopA_ok : ∀ c, qopA c = true → qopok c ∧ c ≠ -1 := by
  intro c h
  simp only [qopA, beq_iff_eq] at h
  subst h
  exact ⟨by unfold qopok; decide, by decide⟩
theorem qopE_ok : ∀ c, qopE c = true → qopok c ∧ c ≠ -1 := by
  intro c h
  simp only [qopE, beq_iff_eq] at h
  subst h
  exact ⟨by unfold qopok; decide, by decide⟩
theorem qE_ok {T : Nat → Int32} {n : Nat} {po : Nat → qR} (hp : qok n po) : qok n (qP T n po) ∧ qok n (qS T n po) ∧ qok n (qBB T n po) ∧ qok n (qA T n po) ∧ qok n (qE T n po) := by
  have h1 : qok n (qP T n po) := qbin_ok hp qop3_ok
  have h2 : qok n (qS T n po) := qbin_ok h1 qop2_ok
  have h3 : qok n (qBB T n po) := qbin_ok h2 qopB_ok
  have h4 : qok n (qA T n po) := qbin_ok h3 qopA_ok
  exact ⟨h1, h2, h3, h4, qbin_ok h4 qopE_ok⟩
theorem qnm_lt {c : Int32} {i : Nat} (h : qnm c = some i) : i < 6 ∧ c ≠ -1 := by
  unfold qnm at h
  repeat' (split at h)
  all_goals first | (cases h; done) | (cases h; refine ⟨by decide, ?_⟩; rename_i e; rw [e]; decide)
theorem qO_ok (T : Nat → Int32) (n : Nat) : ∀ k, qok n (qO T n k)
  | 0 => by
    intro p
    simp only [qO]
    by_cases hd : qdig (qnx T n p)
    · rw [if_pos hd]
      have : p < (qnum T n 4 p 0).1 ∧ (qnum T n 4 p 0).1 ≤ n := qnum_pos (k := 3) (v := 0) hd
      exact ⟨this.1, this.2, by simp; omega, qgood_num _⟩
    · rw [if_neg hd]
      cases hn : qnm (qnx T n p) with
      | none => exact ⟨Nat.le_refl _, fun h => h⟩
      | some i =>
        have := qnm_lt hn
        have := qnx_lt this.2
        exact ⟨by omega, by omega, by simp, qgood_nm (qnm_lt hn).1⟩
  | k + 1 => by
    have ihO := qO_ok T n k
    have ihE := (qE_ok (T := T) ihO).2.2.2.2
    intro p
    simp only [qO]
    by_cases hd : qdig (qnx T n p)
    · rw [if_pos hd]
      have : p < (qnum T n 4 p 0).1 ∧ (qnum T n 4 p 0).1 ≤ n := qnum_pos (k := 3) (v := 0) hd
      exact ⟨this.1, this.2, by simp; omega, qgood_num _⟩
    · rw [if_neg hd]
      cases hn : qnm (qnx T n p) with
      | some i =>
        have := qnm_lt hn
        have := qnx_lt this.2
        exact ⟨by omega, by omega, by simp, qgood_nm (qnm_lt hn).1⟩
      | none =>
        dsimp only
        by_cases h40 : qnx T n p = 40
        · rw [if_pos h40]
          have hlt : p < n := qnx_lt (by rw [h40]; decide)
          have hq := ihE (p + 1)
          cases hr : qE T n (qO T n k) (p + 1) with
          | inl q => rw [hr] at hq; exact ⟨by omega, fun _ => hq.2 hlt⟩
          | inr z =>
            obtain ⟨q, c, e⟩ := z
            rw [hr] at hq
            dsimp only
            by_cases h41 : qnx T n q = 41
            · rw [if_pos h41]
              have hlt2 : q < n := qnx_lt (by rw [h41]; decide)
              exact ⟨by omega, hlt2, by omega, hq.2.2.2⟩
            · rw [if_neg h41]
              exact ⟨by omega, fun _ => hq.2.1⟩
        · rw [if_neg h40]
          by_cases h33 : qnx T n p = 33
          · rw [if_pos h33]
            have hlt : p < n := qnx_lt (by rw [h33]; decide)
            have hq := ihO (p + 1)
            cases hr : qO T n k (p + 1) with
            | inl q => rw [hr] at hq; exact ⟨by omega, fun _ => hq.2 hlt⟩
            | inr z =>
              obtain ⟨q, c, e⟩ := z
              rw [hr] at hq
              exact ⟨by omega, hq.2.1, by simp; omega, qgood_not hq.2.2.2⟩
          · rw [if_neg h33]
            by_cases h45 : qnx T n p = 45
            · rw [if_pos h45]
              have hlt : p < n := qnx_lt (by rw [h45]; decide)
              have hq := ihO (p + 1)
              cases hr : qO T n k (p + 1) with
              | inl q => rw [hr] at hq; exact ⟨by omega, fun _ => hq.2 hlt⟩
              | inr z =>
                obtain ⟨q, c, e⟩ := z
                rw [hr] at hq
                exact ⟨by omega, hq.2.1, by simp; omega, qgood_neg hq.2.2.2⟩
            · rw [if_neg h45]
              exact ⟨Nat.le_refl _, fun h => h⟩
theorem qTop_ok (T : Nat → Int32) (n : Nat) : qok n (qTop T n) := (qE_ok (qO_ok T n 6)).2.2.2.2
