/-! what stands stays sound: okS, kept by every step -/
theorem ixl {x : Int32} {n : Nat} (h0 : 0 ≤ x) (h1 : x ≤ nI n) (hn : n < 2 ^ 31) : ∃ i : Nat, i ≤ n ∧ x = nI i ∧ x.toNatClampNeg = i := by
  obtain ⟨i, hi, rfl⟩ := nI_of (x := x) (Int32.not_lt.mpr h0)
  refine ⟨i, ?_, rfl, nI_clamp hi⟩
  rcases Nat.lt_or_ge n i with q | q
  · exact absurd ((nI_ltI hn hi).mpr q) (Int32.not_lt.mpr h1)
  · exact q
theorem ixm {x : Int32} {n : Nat} (h0 : 0 ≤ x) (h1 : x ≤ nI n - 1) (hn : n < 2 ^ 31) : ∃ i : Nat, i < n ∧ x = nI i ∧ x.toNatClampNeg = i := by
  rcases Nat.eq_zero_or_pos n with e | e
  · subst e
    exact absurd (Int32.le_trans h0 h1) (by decide)
  · rw [show (1 : Int32) = nI 1 from rfl, pk_sub (by omega)] at h1
    obtain ⟨i, hi, e1, e2⟩ := ixl h0 h1 (by omega)
    exact ⟨i, by omega, e1, e2⟩
def okI (S : zS) : Prop := (zI_ S).1 = -1 ∨ ((∃ q : Nat, q ≤ 12 ∧ (zI_ S).1 = nI q ∧ ∀ v, v < q → (0 ≤ (zI_ S).2.1 v ∧ (zI_ S).2.1 v ≤ 999) ∧ (0 ≤ (zI_ S).2.2.1 v ∧ (zI_ S).2.2.1 v ≤ 999)) ∧ (0 ≤ (zI_ S).2.2.2.1 ∧ (zI_ S).2.2.2.1 ≤ 998))
def okN (S : zS) : Prop := (0 ≤ S.2.1.1 ∧ S.2.1.1 ≤ 12) ∧ (0 ≤ tod S ∧ tod S ≤ 998)
def okS (S : zS) : Prop := okF S.1 ∧ okC S ∧ okA S ∧ okH S ∧ okT S ∧ okN S ∧ okI S
def bdS (S : zS) : Prop := fB S.1 ≤ 6 ∧ fV S.1 ≤ 12 ∧ (cC S).1.1 ≤ (cC S).1.2 ∧ (cC S).1.2 ≤ 40 ∧ (zA_ S).1.1 ≤ 50 ∧ (tT S).1 ≤ 120
theorem bS.bd {S : zS} {μ : zMem} (h : bS S μ) : bdS S := ⟨h.1.1.b6, h.1.1.v12, h.2.2.2.2.1.1.2.2.1, h.2.2.2.2.1.1.2.2.2, h.2.2.2.2.2.2.2.1.2.1, h.2.2.2.1.2.1⟩
theorem okF_fnB {F : zF} {t : Int32} (h : okF F) (ht : 0 ≤ t ∧ t ≤ 99) : okF (fnB F t) := by
  refine ⟨fun b hb => ?_, fun v hv => ?_, h.2.2⟩
  · by_cases e : b = fB F
    · rw [show ftone (fnB F t) b = t from if_pos e, show ftune (fnB F t) b = 12 from if_pos e]
      exact ⟨ht, by decide⟩
    · have hb' : b < fB F := by have : b < fB F + 1 := hb; omega
      rw [show ftone (fnB F t) b = ftone F b from if_neg e, show ftune (fnB F t) b = ftune F b from if_neg e]
      exact h.1 b hb'
  · obtain ⟨⟨b, hb, eb⟩, r⟩ := h.2.1 v hv
    exact ⟨⟨b, Nat.lt_succ_of_lt hb, eb⟩, r⟩
theorem okF_fnV {F : zF} {b w p : Int32} (h : okF F) (h6 : fB F ≤ 6) (hb : isB F b) (hw : 1 ≤ w ∧ w ≤ 9) (hp : 0 ≤ p ∧ p ≤ 5) : okF (fnV F b w p) := by
  refine ⟨h.1, fun v hv => ?_, h.2.2⟩
  by_cases e : v = fV F
  · rw [show fbell (fnV F b w p) v = b from if_pos e, show fwt (fnV F b w p) v = w from if_pos e, show fby (fnV F b w p) v = p from if_pos e, show fbr (fnV F b w p) v = 999 from if_pos e, show fag (fnV F b w p) v = 999 from if_pos e]
    obtain ⟨i, hi, ei, -⟩ := zix hb.1 hb.2 (by omega)
    exact ⟨⟨i, hi, ei⟩, hw, hp, by decide, by decide⟩
  · have hv' : v < fV F := by have : v < fV F + 1 := hv; omega
    rw [show fbell (fnV F b w p) v = fbell F v from if_neg e, show fwt (fnV F b w p) v = fwt F v from if_neg e, show fby (fnV F b w p) v = fby F v from if_neg e, show fbr (fnV F b w p) v = fbr F v from if_neg e, show fag (fnV F b w p) v = fag F v from if_neg e]
    exact h.2.1 v hv'
theorem okF_br {F : zF} {u : Nat} {x : Int32} (h : okF F) (hx : 0 ≤ x ∧ x ≤ 999) : okF (fsbr F u x) := by
  refine ⟨h.1, fun v hv => ?_, h.2.2⟩
  obtain ⟨a1, a2, a3, a4, a5⟩ := h.2.1 v hv
  refine ⟨a1, a2, a3, ?_, a5⟩
  by_cases e : v = u
  · rw [show fbr (fsbr F u x) v = x from if_pos e]; exact hx
  · rw [show fbr (fsbr F u x) v = fbr F v from if_neg e]; exact a4
theorem okF_ag {F : zF} {u : Nat} {x : Int32} (h : okF F) (hx : 0 ≤ x ∧ x ≤ 999) : okF (fsag F u x) := by
  refine ⟨h.1, fun v hv => ?_, h.2.2⟩
  obtain ⟨a1, a2, a3, a4, a5⟩ := h.2.1 v hv
  refine ⟨a1, a2, a3, a4, ?_⟩
  by_cases e : v = u
  · rw [show fag (fsag F u x) v = x from if_pos e]; exact hx
  · rw [show fag (fsag F u x) v = fag F v from if_neg e]; exact a5
theorem okF_bk {F : zF} {ib ia : Nat → Int32} {n : Nat} (h : okF F) (hx : ∀ v, v < n → (0 ≤ ib v ∧ ib v ≤ 999) ∧ (0 ≤ ia v ∧ ia v ≤ 999)) : okF (bkF F ib ia n) := by
  refine ⟨h.1, fun v hv => ?_, h.2.2⟩
  obtain ⟨a1, a2, a3, a4, a5⟩ := h.2.1 v hv
  refine ⟨a1, a2, a3, ?_⟩
  by_cases e : v < n
  · rw [show fbr (bkF F ib ia n) v = ib v from if_pos e, show fag (bkF F ib ia n) v = ia v from if_pos e]; exact hx v e
  · rw [show fbr (bkF F ib ia n) v = fbr F v from if_neg e, show fag (bkF F ib ia n) v = fag F v from if_neg e]; exact ⟨a4, a5⟩
theorem qclamp_r9 (x : Int32) : r9 (qclamp x) := by
  unfold qclamp
  by_cases a : x < -9
  · rw [if_pos a]; decide
  · rw [if_neg a]
    by_cases b : 9 < x
    · rw [if_pos b]; decide
    · rw [if_neg b]; exact ⟨Int32.not_lt.mp a, Int32.not_lt.mp b⟩
theorem okF_law {F : zF} {T : Nat → Int32} {n : Nat} (h : okF F) : okF (fnL F (qlaw 1 T n)) := by
  refine ⟨h.1, h.2.1, fun w k dd hh b p _ _ => ?_⟩
  show r9 (qlaw 1 T n w k dd hh b p)
  unfold qlaw
  rw [if_neg (show ¬ (1 : Int32) = 0 by decide)]
  exact qclamp_r9 _
theorem mos_up : ∀ a b : Fin 7, a.1 ≤ b.1 → nI a.1 - 1 ≤ nI b.1 - 1 := by decide +kernel
theorem mosW_up {F F' : zF} {w : Int32} (hb : fB F ≤ fB F') (b6 : fB F' ≤ 6) : mosW F w ≤ mosW F' w := by
  unfold mosW
  by_cases h0 : w = 0
  · rw [if_pos h0, if_pos h0]; exact Int32.le_refl _
  rw [if_neg h0, if_neg h0]
  by_cases h1 : w = 1
  · rw [if_pos h1, if_pos h1]; exact Int32.le_refl _
  rw [if_neg h1, if_neg h1]
  by_cases h2 : w = 2
  · rw [if_pos h2, if_pos h2]; exact mos_up ⟨fB F, by omega⟩ ⟨fB F', by omega⟩ hb
  rw [if_neg h2, if_neg h2]
  exact Int32.le_refl _
theorem isN_up {F F' : zF} {n w : Int32} (h : isN F n w) (hb : fB F ≤ fB F') (hv : fV F ≤ fV F') (b6 : fB F' ≤ 6) (v12 : fV F' ≤ 12) : isN F' n w := by
  rcases h with ⟨a, b⟩ | ⟨a, b⟩ | c
  · exact Or.inl ⟨a, b.1, Int32.lt_of_lt_of_le b.2 (nI_le hb (by omega))⟩
  · exact Or.inr (Or.inl ⟨a, b.1, Int32.lt_of_lt_of_le b.2 (nI_le hv (by omega))⟩)
  · exact Or.inr (Or.inr c)
theorem okC_up {S S' : zS} (h : okC S) (e : cC S' = cC S) (hb : fB S.1 ≤ fB S'.1) (hv : fV S.1 ≤ fV S'.1) (b6 : fB S'.1 ≤ 6) (v12 : fV S'.1 ≤ 12) : okC S' := by
  unfold okC
  rw [e]
  intro k hk
  obtain ⟨a, b, c⟩ := h k hk
  exact ⟨isN_up a hb hv b6 v12, ⟨b.1, Int32.le_trans b.2 (mosW_up hb b6)⟩, c.1, Int32.le_trans c.2 (mosW_up hb b6)⟩
theorem ok_bell {S : zS} {t : Int32} (h : okS S) (hb : bdS S) : okS (opBell S t).2 := by
  unfold opBell
  by_cases h1 : 0 ≤ t ∧ t ≤ 99
  · rw [if_neg (fun z => z h1)]
    by_cases h2 : fB S.1 = 6
    · rw [if_pos h2]; exact h
    · rw [if_neg h2]
      obtain ⟨a1, a2, a3, a4, a5, a6, a7⟩ := h
      exact ⟨okF_fnB a1 h1, okC_up a2 rfl (Nat.le_succ _) (Nat.le_refl _) (by have := hb.1; show fB S.1 + 1 ≤ 6; omega) hb.2.1, a3, a4, a5, a6, a7⟩
  · rw [if_pos h1]; exact h
theorem ok_fnV {S : zS} {F : zF} (h : okS S) (hF : okF F) (hB : fB F = fB S.1) (h6 : fB F ≤ 6) (hv : fV S.1 ≤ fV F) (h12 : fV F ≤ 12) : okS (sF S F) := by
  obtain ⟨a1, a2, a3, a4, a5, a6, a7⟩ := h
  exact ⟨hF, okC_up a2 rfl (Nat.le_of_eq hB.symm) hv h6 h12, a3, a4, a5, a6, a7⟩
theorem ok_vow {S : zS} {b w : Int32} (h : okS S) (hb : bdS S) : okS (opVow S b w).2 := by
  unfold opVow
  by_cases h1 : isB S.1 b ∧ (1 ≤ w ∧ w ≤ 9)
  · rw [if_neg (fun z => z h1)]
    by_cases h2 : fV S.1 = 12
    · rw [if_pos h2]; exact h
    · rw [if_neg h2]
      exact ok_fnV h (okF_fnV h.1 hb.1 h1.1 h1.2 (by decide)) rfl hb.1 (Nat.le_succ _) (by have := hb.2.1; show fV S.1 + 1 ≤ 12; omega)
  · rw [if_pos h1]; exact h
theorem voL_ok {c : Nat → Int32} {m : Nat} : ∀ (k q came : Nat) (F : zF), okF F → fB F ≤ 6 → fV F ≤ 12 → okF (voL c m k q came F).2 ∧ fB (voL c m k q came F).2 = fB F ∧ fV F ≤ fV (voL c m k q came F).2 ∧ fV (voL c m k q came F).2 ≤ 12 := by
  intro k
  induction k with
  | zero => exact fun q came F h h6 h12 => ⟨h, rfl, Nat.le_refl _, h12⟩
  | succ k ih =>
    intro q came F h h6 h12
    rw [voL_s]
    by_cases h1 : m < q + 3 ∨ fV F = 12
    · rw [if_pos h1]; exact ⟨h, rfl, Nat.le_refl _, h12⟩
    · rw [if_neg h1]
      by_cases h2 : isB F (c q) ∧ (1 ≤ c (q + 1) ∧ c (q + 1) ≤ 9) ∧ (0 ≤ c (q + 2) ∧ c (q + 2) ≤ 5)
      · rw [if_pos h2]
        have hv : fV (fnV F (c q) (c (q + 1)) (c (q + 2))) = fV F + 1 := rfl
        obtain ⟨x1, x2, x3, x4⟩ := ih (q + 3) (came + 1) (fnV F (c q) (c (q + 1)) (c (q + 2))) (okF_fnV h h6 h2.1 h2.2.1 h2.2.2) h6 (by rw [hv]; omega)
        exact ⟨x1, x2, by rw [hv] at x3; omega, x4⟩
      · rw [if_neg h2]; exact ⟨h, rfl, Nat.le_refl _, h12⟩
theorem ok_vows {S : zS} {s i n : Int32} (h : okS S) (hb : bdS S) : okS (opVows S s i n).2 := by
  unfold opVows
  split
  · exact h
  · split
    · exact h
    · split
      · exact h
      · split
        · exact h
        · obtain ⟨x1, x2, x3, x4⟩ := voL_ok (c := hInt S s.toNatClampNeg) (m := (hSize S s.toNatClampNeg).toNatClampNeg) n.toNatClampNeg i.toNatClampNeg 0 S.1 h.1 hb.1 hb.2.1
          exact ok_fnV h x1 x2 (by rw [x2]; exact hb.1) x3 x4
theorem ok_law {S : zS} (h : okS S) (hb : bdS S) : okS (opLaw S).2 := by
  unfold opLaw
  obtain ⟨a1, a2, a3, a4, a5, a6, a7⟩ := h
  have a5' : okT (sTp S (0, (tT S).2)) := fun i hi => absurd hi (Nat.not_lt_zero i)
  split
  · exact ⟨a1, a2, a3, a4, a5', a6, a7⟩
  · exact ⟨okF_law a1, a2, a3, a4, a5', a6, a7⟩
theorem ok_feed {S : zS} {b : Int32} (h : okS S) (hb : bdS S) : okS (opFeed S b).2 := by
  unfold opFeed
  by_cases h1 : 0 ≤ b ∧ b ≤ 255
  · rw [if_neg (fun z => z h1)]
    split
    · exact h
    · obtain ⟨a1, a2, a3, a4, a5, a6, a7⟩ := h
      refine ⟨a1, a2, a3, a4, fun i hi => ?_, a6, a7⟩
      by_cases e : i = (tT S).1
      · show 0 ≤ fu (tT S).2 (tT S).1 b i ∧ fu (tT S).2 (tT S).1 b i ≤ 255
        rw [show fu (tT S).2 (tT S).1 b i = b from if_pos e]; exact h1
      · show 0 ≤ fu (tT S).2 (tT S).1 b i ∧ fu (tT S).2 (tT S).1 b i ≤ 255
        rw [show fu (tT S).2 (tT S).1 b i = (tT S).2 i from if_neg e]
        exact a5 i (by have : i < (tT S).1 + 1 := hi; omega)
  · rw [if_pos h1]; exact h
theorem le999 {x : Int32} (h : x ≤ 998) : x ≤ 999 := Int32.le_trans h (by decide)
theorem ok_breaks {S : zS} {v : Int32} (h : okS S) (hb : bdS S) : okS (opBreaks S v).2 := by
  unfold opBreaks
  split
  · exact h
  · split
    · exact h
    · obtain ⟨a1, a2, a3, a4, a5, a6, a7⟩ := h
      exact ⟨okF_ag (okF_br a1 ⟨a6.2.1, le999 a6.2.2⟩) (by decide), a2, a3, a4, a5, a6, a7⟩
theorem ok_keeps {S : zS} {v : Int32} (h : okS S) (hb : bdS S) : okS (opKeeps S v).2 := by
  unfold opKeeps
  split
  · exact h
  · split
    · exact h
    · split
      · exact h
      · obtain ⟨a1, a2, a3, a4, a5, a6, a7⟩ := h
        exact ⟨okF_ag a1 ⟨a6.2.1, le999 a6.2.2⟩, a2, a3, a4, a5, a6, a7⟩
theorem ok_ring {S : zS} {b x : Int32} (h : okS S) (hb : bdS S) : okS (opRing S b x).2 := by
  unfold opRing
  split
  · exact h
  · exact h
theorem ok_image {S : zS} (h : okS S) (hb : bdS S) : okS (opImage S).2 := by
  obtain ⟨a1, a2, a3, a4, a5, a6, a7⟩ := h
  exact ⟨a1, a2, a3, a4, a5, a6, Or.inr ⟨⟨fV S.1, hb.2.1, rfl, fun v hv => (a1.2.1 v hv).2.2.2⟩, a6.2⟩⟩
theorem ok_back {S : zS} (h : okS S) (hb : bdS S) : okS (opBack S).2 := by
  unfold opBack
  by_cases h1 : (zI_ S).1 < 0
  · rw [if_pos h1]; exact h
  · rw [if_neg h1]
    obtain ⟨a1, a2, a3, a4, a5, a6, a7⟩ := h
    rcases a7 with e | ⟨⟨q, hq, eq, hv⟩, hd⟩
    · rw [e] at h1; exact absurd (by decide) h1
    · have ec : (zI_ S).1.toNatClampNeg = q := by rw [eq]; exact nI_clamp (by omega)
      refine ⟨?_, a2, a3, a4, a5, ⟨a6.1, hd⟩, Or.inr ⟨⟨q, hq, eq, hv⟩, hd⟩⟩
      show okF (bkF S.1 (zI_ S).2.1 (zI_ S).2.2.1 (zI_ S).1.toNatClampNeg)
      rw [ec]
      exact okF_bk a1 hv
theorem ok_pass {S : zS} {n : Int32} (h : okS S) (hb : bdS S) : okS (opPass S n).2 := by
  unfold opPass
  by_cases h1 : 1 ≤ n ∧ n ≤ 99
  · rw [if_neg (fun z => z h1)]
    by_cases h2 : tod S + n ≤ 998
    · rw [if_neg (fun z => z h2)]
      obtain ⟨a1, a2, a3, a4, a5, a6, a7⟩ := h
      refine ⟨a1, a2, a3, a4, a5, ⟨a6.1, ?_, h2⟩, a7⟩
      show 0 ≤ tod S + n
      obtain ⟨i, hi, ei, -⟩ := ixl (n := 998) a6.2.1 a6.2.2 (by omega)
      obtain ⟨j, hj, ej, -⟩ := ixl (n := 99) (Int32.le_trans (by decide) h1.1) h1.2 (by omega)
      rw [ei, ej, nI_add]
      exact nI_pos' (by omega)
    · rw [if_pos h2]; exact h
  · rw [if_pos h1]; exact h
