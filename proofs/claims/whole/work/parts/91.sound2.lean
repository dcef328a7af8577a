/-! okS kept: numbers written, acts, shelves -/
theorem okF_w0 {F : zF} {q : Nat} {x : Int32} (h : okF F) (hx : 0 ≤ x ∧ x ≤ 99) : okF (wrF F q 0 x) := by
  refine ⟨fun b hb => ?_, h.2.1, h.2.2⟩
  obtain ⟨a1, a2⟩ := h.1 b hb
  refine ⟨?_, a2⟩
  by_cases e : b = q
  · rw [show ftone (wrF F q 0 x) b = x from if_pos e]; exact hx
  · rw [show ftone (wrF F q 0 x) b = ftone F b from if_neg e]; exact a1
theorem okF_w1 {F : zF} {q : Nat} {x : Int32} (h : okF F) (hx : 1 ≤ x ∧ x ≤ 24) : okF (wrF F q 1 x) := by
  refine ⟨fun b hb => ?_, h.2.1, h.2.2⟩
  obtain ⟨a1, a2⟩ := h.1 b hb
  refine ⟨a1, ?_⟩
  by_cases e : b = q
  · rw [show ftune (wrF F q 1 x) b = x from if_pos e]; exact hx
  · rw [show ftune (wrF F q 1 x) b = ftune F b from if_neg e]; exact a2
theorem okF_w2 {F : zF} {q : Nat} {x : Int32} (h : okF F) (hx : ∃ b, b < fB F ∧ x = nI b) : okF (wrF F q 2 x) := by
  refine ⟨h.1, fun v hv => ?_, h.2.2⟩
  obtain ⟨a1, a2, a3, a4, a5⟩ := h.2.1 v hv
  refine ⟨?_, a2, a3, a4, a5⟩
  by_cases e : v = q
  · rw [show fbell (wrF F q 2 x) v = x from if_pos e]; exact hx
  · rw [show fbell (wrF F q 2 x) v = fbell F v from if_neg e]; exact a1
theorem okF_w3 {F : zF} {q : Nat} {x : Int32} (h : okF F) (hx : 1 ≤ x ∧ x ≤ 9) : okF (wrF F q 3 x) := by
  refine ⟨h.1, fun v hv => ?_, h.2.2⟩
  obtain ⟨a1, a2, a3, a4, a5⟩ := h.2.1 v hv
  refine ⟨a1, ?_, a3, a4, a5⟩
  by_cases e : v = q
  · rw [show fwt (wrF F q 3 x) v = x from if_pos e]; exact hx
  · rw [show fwt (wrF F q 3 x) v = fwt F v from if_neg e]; exact a2
theorem okF_w4 {F : zF} {q : Nat} {x : Int32} (h : okF F) (hx : 0 ≤ x ∧ x ≤ 5) : okF (wrF F q 4 x) := by
  refine ⟨h.1, fun v hv => ?_, h.2.2⟩
  obtain ⟨a1, a2, a3, a4, a5⟩ := h.2.1 v hv
  refine ⟨a1, a2, ?_, a4, a5⟩
  by_cases e : v = q
  · rw [show fby (wrF F q 4 x) v = x from if_pos e]; exact hx
  · rw [show fby (wrF F q 4 x) v = fby F v from if_neg e]; exact a3
theorem okF_w5 {F : zF} {q : Nat} {x : Int32} (h : okF F) (hx : 0 ≤ x ∧ x ≤ 999) : okF (wrF F q 5 x) := by
  refine ⟨h.1, fun v hv => ?_, h.2.2⟩
  obtain ⟨a1, a2, a3, a4, a5⟩ := h.2.1 v hv
  refine ⟨a1, a2, a3, ?_, a5⟩
  by_cases e : v = q
  · rw [show fbr (wrF F q 5 x) v = x from if_pos e]; exact hx
  · rw [show fbr (wrF F q 5 x) v = fbr F v from if_neg e]; exact a4
theorem okF_w6 {F : zF} {q : Nat} {x : Int32} (h : okF F) (hx : 0 ≤ x ∧ x ≤ 999) : okF (wrF F q 6 x) := by
  refine ⟨h.1, fun v hv => ?_, h.2.2⟩
  obtain ⟨a1, a2, a3, a4, a5⟩ := h.2.1 v hv
  refine ⟨a1, a2, a3, a4, ?_⟩
  by_cases e : v = q
  · rw [show fag (wrF F q 6 x) v = x from if_pos e]; exact hx
  · rw [show fag (wrF F q 6 x) v = fag F v from if_neg e]; exact a5
theorem okF_w7 {F : zF} {q : Nat} {x : Int32} (h : okF F) : okF (wrF F q 7 x) := h
theorem isN_w {F : zF} {n w : Int32} (h : isN F n w) : w = 0 ∨ w = 1 ∨ w = 2 ∨ w = 3 ∨ w = 4 ∨ w = 5 ∨ w = 6 ∨ w = 7 := by
  have g : 0 ≤ w ∧ w < nI 8 := by
    rcases h with ⟨a, -⟩ | ⟨a, -⟩ | ⟨a, -⟩
    · exact ⟨a.1, Int32.lt_of_le_of_lt a.2 (by decide)⟩
    · exact ⟨Int32.le_trans (by decide) a.1, Int32.lt_of_le_of_lt a.2 (by decide)⟩
    · rw [a]; decide
  obtain ⟨i, hi, e, -⟩ := zix g.1 g.2 (by omega)
  subst e
  rcases (show i = 0 ∨ i = 1 ∨ i = 2 ∨ i = 3 ∨ i = 4 ∨ i = 5 ∨ i = 6 ∨ i = 7 by omega) with rfl | rfl | rfl | rfl | rfl | rfl | rfl | rfl <;> decide
theorem wrS_N {S : zS} {n w x : Int32} (h : okN S) (hx : leaW w ≤ x ∧ x ≤ mosW S.1 w) : okN (wrS S n w x) := by
  refine ⟨?_, h.2⟩
  show 0 ≤ wrL S.2.1.1 w x ∧ wrL S.2.1.1 w x ≤ 12
  unfold wrL
  by_cases e : w = 7
  · rw [if_pos e]
    rw [e] at hx
    exact hx
  · rw [if_neg e]; exact h.1
theorem okF_wr {F : zF} {n w x : Int32} (h : okF F) (h6 : fB F ≤ 6) (hN : isN F n w) (hx : leaW w ≤ x ∧ x ≤ mosW F w) : okF (wrF F n.toNatClampNeg w x) := by
  rcases isN_w hN with e | e | e | e | e | e | e | e <;> subst e
  · exact okF_w0 h hx
  · exact okF_w1 h hx
  · obtain ⟨i, hi, ei, -⟩ := ixm (n := fB F) hx.1 hx.2 (by omega)
    exact okF_w2 h ⟨i, hi, ei⟩
  · exact okF_w3 h hx
  · exact okF_w4 h hx
  · exact okF_w5 h hx
  · exact okF_w6 h hx
  · exact okF_w7 h
theorem ok_wrS {S : zS} {n w x : Int32} (h : okS S) (hb : bdS S) (hN : isN S.1 n w) (hx : leaW w ≤ x ∧ x ≤ mosW S.1 w) : okS (wrS S n w x) := by
  obtain ⟨a1, a2, a3, a4, a5, a6, a7⟩ := h
  exact ⟨okF_wr a1 hb.1 hN hx, a2, a3, a4, a5, wrS_N a6 hx, a7⟩
theorem rd_in {S : zS} {n w : Int32} (h : okS S) (hb : bdS S) (hN : isN S.1 n w) : leaW w ≤ rdF S.1 S.2.1.1 n.toNatClampNeg w ∧ rdF S.1 S.2.1.1 n.toNatClampNeg w ≤ mosW S.1 w := by
  obtain ⟨a1, a2, a3, a4, a5, a6, a7⟩ := h
  have hB : ∀ w : Int32, w = 0 ∨ w = 1 → isN S.1 n w → isB S.1 n := fun w e g => by
    rcases g with g | g | g
    · exact g.2
    · exfalso
      rcases e with e | e <;> (rw [e] at g; exact absurd g.1.1 (by decide))
    · exfalso
      rcases e with e | e <;> (rw [e] at g; exact absurd g.1 (by decide))
  have hV : ∀ w : Int32, w = 2 ∨ w = 3 ∨ w = 4 ∨ w = 5 ∨ w = 6 → isN S.1 n w → isV S.1 n := fun w e g => by
    rcases g with g | g | g
    · exfalso
      rcases e with e | e | e | e | e <;> (rw [e] at g; exact absurd g.1.2 (by decide))
    · exact g.2
    · exfalso
      rcases e with e | e | e | e | e <;> (rw [e] at g; exact absurd g.1 (by decide))
  have h6 := hb.1
  have h12 := hb.2.1
  have v5 : ∀ w : Int32, w = 2 ∨ w = 3 ∨ w = 4 ∨ w = 5 ∨ w = 6 → isN S.1 n w → (∃ b, b < fB S.1 ∧ fbell S.1 n.toNatClampNeg = nI b) ∧ (1 ≤ fwt S.1 n.toNatClampNeg ∧ fwt S.1 n.toNatClampNeg ≤ 9) ∧ (0 ≤ fby S.1 n.toNatClampNeg ∧ fby S.1 n.toNatClampNeg ≤ 5) ∧ (0 ≤ fbr S.1 n.toNatClampNeg ∧ fbr S.1 n.toNatClampNeg ≤ 999) ∧ (0 ≤ fag S.1 n.toNatClampNeg ∧ fag S.1 n.toNatClampNeg ≤ 999) := fun w e g => by
    obtain ⟨i, hi, -, ei⟩ := zix (hV w e g).1 (hV w e g).2 (by omega)
    rw [ei]
    exact a1.2.1 i hi
  have v2 : ∀ w : Int32, w = 0 ∨ w = 1 → isN S.1 n w → (0 ≤ ftone S.1 n.toNatClampNeg ∧ ftone S.1 n.toNatClampNeg ≤ 99) ∧ (1 ≤ ftune S.1 n.toNatClampNeg ∧ ftune S.1 n.toNatClampNeg ≤ 24) := fun w e g => by
    obtain ⟨i, hi, -, ei⟩ := zix (hB w e g).1 (hB w e g).2 (by omega)
    rw [ei]
    exact a1.1 i hi
  rcases isN_w hN with e | e | e | e | e | e | e | e
  · have := (v2 w (Or.inl e) hN).1
    subst e
    exact this
  · have := (v2 w (Or.inr e) hN).2
    subst e
    exact this
  · have := (v5 w (Or.inl e) hN).1
    subst e
    obtain ⟨b, hbb, eb⟩ := this
    show 0 ≤ fbell S.1 n.toNatClampNeg ∧ fbell S.1 n.toNatClampNeg ≤ nI (fB S.1) - 1
    rw [eb]
    refine ⟨nI_pos' (by omega), ?_⟩
    rw [show (1 : Int32) = nI 1 from rfl, pk_sub (by omega)]
    exact nI_le (by omega) (by omega)
  · have := (v5 w (Or.inr (Or.inl e)) hN).2.1
    subst e
    exact this
  · have := (v5 w (Or.inr (Or.inr (Or.inl e))) hN).2.2.1
    subst e
    exact this
  · have := (v5 w (Or.inr (Or.inr (Or.inr (Or.inl e)))) hN).2.2.2.1
    subst e
    exact this
  · have := (v5 w (Or.inr (Or.inr (Or.inr (Or.inr e)))) hN).2.2.2.2
    subst e
    exact this
  · subst e
    exact a6.1
theorem ok_add {S : zS} {n w p v : Int32} (h : okC S) (hb : bdS S) (hN : isN S.1 n w) (hp : leaW w ≤ p ∧ p ≤ mosW S.1 w) (hv : leaW w ≤ v ∧ v ≤ mosW S.1 w) : okC (sC S (chAdd (cC S) n w p v)) := by
  have key : ∀ k, k < (chDrop (cC S)).1.1 → isN S.1 ((chDrop (cC S)).2.1 k) ((chDrop (cC S)).2.2.1 k) ∧ (leaW ((chDrop (cC S)).2.2.1 k) ≤ (chDrop (cC S)).2.2.2.1 k ∧ (chDrop (cC S)).2.2.2.1 k ≤ mosW S.1 ((chDrop (cC S)).2.2.1 k)) ∧ (leaW ((chDrop (cC S)).2.2.1 k) ≤ (chDrop (cC S)).2.2.2.2 k ∧ (chDrop (cC S)).2.2.2.2 k ≤ mosW S.1 ((chDrop (cC S)).2.2.1 k)) := by
    intro k hk
    unfold chDrop at hk ⊢
    by_cases e : (cC S).1.1 = 40
    · rw [if_pos e] at hk ⊢
      have hk' : k < 39 := hk
      show isN S.1 (dr1 (cC S).2.1 k) (dr1 (cC S).2.2.1 k) ∧ (leaW (dr1 (cC S).2.2.1 k) ≤ dr1 (cC S).2.2.2.1 k ∧ dr1 (cC S).2.2.2.1 k ≤ mosW S.1 (dr1 (cC S).2.2.1 k)) ∧ (leaW (dr1 (cC S).2.2.1 k) ≤ dr1 (cC S).2.2.2.2 k ∧ dr1 (cC S).2.2.2.2 k ≤ mosW S.1 (dr1 (cC S).2.2.1 k))
      rw [show dr1 (cC S).2.1 k = (cC S).2.1 (k + 1) from if_pos hk', show dr1 (cC S).2.2.1 k = (cC S).2.2.1 (k + 1) from if_pos hk', show dr1 (cC S).2.2.2.1 k = (cC S).2.2.2.1 (k + 1) from if_pos hk', show dr1 (cC S).2.2.2.2 k = (cC S).2.2.2.2 (k + 1) from if_pos hk']
      exact h (k + 1) (by have := hb.2.2.1; omega)
    · rw [if_neg e] at hk ⊢
      exact h k (Nat.lt_of_lt_of_le hk hb.2.2.1)
  intro k hk
  have hk' : k < (chDrop (cC S)).1.1 + 1 := hk
  show isN S.1 (fu (chDrop (cC S)).2.1 (chDrop (cC S)).1.1 n k) (fu (chDrop (cC S)).2.2.1 (chDrop (cC S)).1.1 w k) ∧ (leaW (fu (chDrop (cC S)).2.2.1 (chDrop (cC S)).1.1 w k) ≤ fu (chDrop (cC S)).2.2.2.1 (chDrop (cC S)).1.1 p k ∧ fu (chDrop (cC S)).2.2.2.1 (chDrop (cC S)).1.1 p k ≤ mosW S.1 (fu (chDrop (cC S)).2.2.1 (chDrop (cC S)).1.1 w k)) ∧ (leaW (fu (chDrop (cC S)).2.2.1 (chDrop (cC S)).1.1 w k) ≤ fu (chDrop (cC S)).2.2.2.2 (chDrop (cC S)).1.1 v k ∧ fu (chDrop (cC S)).2.2.2.2 (chDrop (cC S)).1.1 v k ≤ mosW S.1 (fu (chDrop (cC S)).2.2.1 (chDrop (cC S)).1.1 w k))
  by_cases e : k = (chDrop (cC S)).1.1
  · rw [show fu (chDrop (cC S)).2.1 (chDrop (cC S)).1.1 n k = n from if_pos e, show fu (chDrop (cC S)).2.2.1 (chDrop (cC S)).1.1 w k = w from if_pos e, show fu (chDrop (cC S)).2.2.2.1 (chDrop (cC S)).1.1 p k = p from if_pos e, show fu (chDrop (cC S)).2.2.2.2 (chDrop (cC S)).1.1 v k = v from if_pos e]
    exact ⟨hN, hp, hv⟩
  · rw [show fu (chDrop (cC S)).2.1 (chDrop (cC S)).1.1 n k = (chDrop (cC S)).2.1 k from if_neg e, show fu (chDrop (cC S)).2.2.1 (chDrop (cC S)).1.1 w k = (chDrop (cC S)).2.2.1 k from if_neg e, show fu (chDrop (cC S)).2.2.2.1 (chDrop (cC S)).1.1 p k = (chDrop (cC S)).2.2.2.1 k from if_neg e, show fu (chDrop (cC S)).2.2.2.2 (chDrop (cC S)).1.1 v k = (chDrop (cC S)).2.2.2.2 k from if_neg e]
    exact key k (by omega)
theorem ok_mend {S : zS} {n w v : Int32} (h : okS S) (hb : bdS S) : okS (opMend S n w v).2 := by
  unfold opMend
  by_cases h1 : isN S.1 n w ∧ (leaW w ≤ v ∧ v ≤ mosW S.1 w)
  · rw [if_neg (fun z => z h1)]
    by_cases h2 : rdF S.1 S.2.1.1 n.toNatClampNeg w = v
    · rw [if_pos h2]; exact h
    · rw [if_neg h2]
      have hr := rd_in h hb h1.1
      obtain ⟨a1, a2, a3, a4, a5, a6, a7⟩ := h
      have a2' := ok_add (p := rdF S.1 S.2.1.1 n.toNatClampNeg w) (v := v) a2 hb h1.1 hr h1.2
      exact ⟨okF_wr a1 hb.1 h1.1 h1.2, a2', a3, a4, a5, wrS_N (S := sC S (chAdd (cC S) n w (rdF S.1 S.2.1.1 n.toNatClampNeg w) v)) a6 h1.2, a7⟩
  · rw [if_pos h1]; exact h
theorem ok_undo {S : zS} (h : okS S) (hb : bdS S) : okS (opUndo S).2 := by
  unfold opUndo
  by_cases h1 : (cC S).1.1 = 0
  · rw [if_pos h1]; exact h
  · rw [if_neg h1]
    obtain ⟨a1, a2, a3, a4, a5, a6, a7⟩ := h
    obtain ⟨x1, x2, x3⟩ := a2 ((cC S).1.1 - 1) (by have := hb.2.2.1; omega)
    exact ⟨okF_wr a1 hb.1 x1 x2, a2, a3, a4, a5, wrS_N (S := sC S (chMade (cC S) ((cC S).1.1 - 1))) a6 x2, a7⟩
theorem ok_redo {S : zS} (h : okS S) (hb : bdS S) : okS (opRedo S).2 := by
  unfold opRedo
  by_cases h1 : (cC S).1.1 = (cC S).1.2
  · rw [if_pos h1]; exact h
  · rw [if_neg h1]
    obtain ⟨a1, a2, a3, a4, a5, a6, a7⟩ := h
    obtain ⟨x1, x2, x3⟩ := a2 (cC S).1.1 (by have := hb.2.2.1; omega)
    exact ⟨okF_wr a1 hb.1 x1 x3, a2, a3, a4, a5, wrS_N (S := sC S (chMade (cC S) ((cC S).1.1 + 1))) a6 x3, a7⟩
theorem ok_act {S : zS} {b a x : Int32} (h : okS S) (hb : bdS S) : okS (opAct S b a x).2 := by
  unfold opAct
  split
  · exact h
  · exact h
theorem ok_body {S : zS} {k : Int32} (h : okS S) (hb : bdS S) : okS (opBody S k).2 := by
  unfold opBody
  by_cases h1 : 0 ≤ k ∧ k ≤ 7
  · rw [if_neg (fun z => z h1)]
    split
    · exact h
    · obtain ⟨a1, a2, a3, a4, a5, a6, a7⟩ := h
      refine ⟨a1, a2, fun i hi => ?_, fun s hs => ?_, a5, a6, a7⟩
      · have hi' : i < (zA_ S).1.1 + 1 := hi
        show ∃ q, q < 8 ∧ fu (zA_ S).1.2 (zA_ S).1.1 k i = nI q
        by_cases e : i = (zA_ S).1.1
        · rw [show fu (zA_ S).1.2 (zA_ S).1.1 k i = k from if_pos e]
          obtain ⟨q, hq, eq, -⟩ := ixl (n := 7) h1.1 h1.2 (by omega)
          exact ⟨q, by omega, eq⟩
        · rw [show fu (zA_ S).1.2 (zA_ S).1.1 k i = (zA_ S).1.2 i from if_neg e]
          exact a3 i (by omega)
      · rcases a4 s hs with e | ⟨e, b, hbb, eb⟩ | e
        · exact Or.inl e
        · exact Or.inr (Or.inl ⟨e, b, Nat.lt_succ_of_lt hbb, eb⟩)
        · exact Or.inr (Or.inr e)
  · rw [if_pos h1]; exact h
