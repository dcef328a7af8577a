/-! okS kept: shelves -/
theorem ok_sH {S : zS} {H : zSh} (h : okS S) (hH : okH (sH S H)) : okS (sH S H) := by
  obtain ⟨a1, a2, a3, a4, a5, a6, a7⟩ := h
  exact ⟨a1, a2, a3, hH, a5, a6, a7⟩
theorem ok_keep {S : zS} {s b : Int32} (h : okS S) (hb : bdS S) : okS (opKeep S s b).2 := by
  unfold opKeep
  by_cases h1 : (0 ≤ s ∧ s < 6) ∧ (-1 ≤ b ∧ b ≤ nI (zA_ S).1.1 - 1)
  · rw [if_neg (fun z => z h1)]
    refine ok_sH h (fun q hq => ?_)
    by_cases e : q = s.toNatClampNeg
    · by_cases hn : b < 0
      · refine Or.inl ?_
        show fu (hHeld S) s.toNatClampNeg (if b < 0 then 0 else 1) q = 0
        rw [show fu (hHeld S) s.toNatClampNeg (if b < 0 then 0 else 1) q = (if b < 0 then 0 else 1) from if_pos e]
        exact if_pos hn
      · refine Or.inr (Or.inl ⟨?_, ?_⟩)
        · show fu (hHeld S) s.toNatClampNeg (if b < 0 then 0 else 1) q = 1
          rw [show fu (hHeld S) s.toNatClampNeg (if b < 0 then 0 else 1) q = (if b < 0 then 0 else 1) from if_pos e]
          exact if_neg hn
        · obtain ⟨i, hi, ei, -⟩ := ixm (n := (zA_ S).1.1) (Int32.not_lt.mp hn) h1.2.2 (by have := hb.2.2.2.2.1; omega)
          refine ⟨i, hi, ?_⟩
          show fu (hShown S) s.toNatClampNeg b q = nI i
          rw [show fu (hShown S) s.toNatClampNeg b q = b from if_pos e]
          exact ei
    · have e1 : fu (hHeld S) s.toNatClampNeg (if b < 0 then 0 else 1) q = hHeld S q := if_neg e
      have e2 : fu (hShown S) s.toNatClampNeg b q = hShown S q := if_neg e
      rcases h.2.2.2.1 q hq with z | ⟨z, y⟩ | ⟨z, y⟩
      · exact Or.inl (e1.trans z)
      · refine Or.inr (Or.inl ⟨e1.trans z, ?_⟩)
        obtain ⟨i, hi, ei⟩ := y
        exact ⟨i, hi, e2.trans ei⟩
      · exact Or.inr (Or.inr ⟨e1.trans z, y⟩)
  · rw [if_pos h1]; exact h
theorem ok_row {S : zS} {s p n : Int32} (h : okS S) (hb : bdS S) : okS (opRow S s p n).2 := by
  unfold opRow
  by_cases h1 : (0 ≤ s ∧ s < 6) ∧ (0 ≤ p ∧ p ≤ 4) ∧ n ≤ 60
  · rw [if_neg (fun z => z h1)]
    by_cases hn : n < 0
    · rw [if_pos hn]; exact h
    · rw [if_neg hn]
      refine ok_sH h (fun q hq => ?_)
      by_cases e : q = s.toNatClampNeg
      · refine Or.inr (Or.inr ⟨if_pos e, ?_, ?_, fun _ i hi => ?_⟩)
        · obtain ⟨i, hi, ei, -⟩ := ixl (n := 4) h1.2.1.1 h1.2.1.2 (by omega)
          refine ⟨i, hi, ?_⟩
          show fu (hSort S) s.toNatClampNeg p q = nI i
          rw [show fu (hSort S) s.toNatClampNeg p q = p from if_pos e]
          exact ei
        · obtain ⟨i, hi, ei, -⟩ := ixl (n := 60) (Int32.not_lt.mp hn) h1.2.2 (by omega)
          refine ⟨i, hi, ?_⟩
          show fu (hSize S) s.toNatClampNeg n q = nI i
          rw [show fu (hSize S) s.toNatClampNeg n q = n from if_pos e]
          exact ei
        · show (Int64.toInt32 (if q = s.toNatClampNeg then 0 else hCell S q i)).toInt64 = if q = s.toNatClampNeg then 0 else hCell S q i
          rw [if_pos e]
          rfl
      · have e1 : fu (hHeld S) s.toNatClampNeg 2 q = hHeld S q := if_neg e
        have e2 : fu (hSort S) s.toNatClampNeg p q = hSort S q := if_neg e
        have e3 : fu (hSize S) s.toNatClampNeg n q = hSize S q := if_neg e
        rcases h.2.2.2.1 q hq with z | ⟨z, y⟩ | ⟨z, ⟨i, hi, ei⟩, ⟨j, hj, ej⟩, y⟩
        · exact Or.inl (e1.trans z)
        · exact Or.inr (Or.inl ⟨e1.trans z, y⟩)
        · refine Or.inr (Or.inr ⟨e1.trans z, ⟨i, hi, e2.trans ei⟩, ⟨j, hj, e3.trans ej⟩, fun h5 k hk => ?_⟩)
          show (Int64.toInt32 (if q = s.toNatClampNeg then 0 else hCell S q k)).toInt64 = if q = s.toNatClampNeg then 0 else hCell S q k
          rw [if_neg e]
          exact y (e2.symm.trans h5) k hk
  · rw [if_pos h1]; exact h
theorem int_back (x : Int32) : (x.toInt64).toInt32.toInt64 = x.toInt64 := by rw [Int32.toInt32_toInt64]
theorem ok_put {S : zS} {s i : Int32} {v : Int64} (h : okS S) (hb : bdS S) : okS (opPut S s i v).2 := by
  unfold opPut
  split
  · exact h
  · split
    · exact h
    · refine ok_sH h (fun q hq => ?_)
      rcases h.2.2.2.1 q hq with z | ⟨z, y⟩ | ⟨z, y1, y2, y⟩
      · exact Or.inl z
      · exact Or.inr (Or.inl ⟨z, y⟩)
      · refine Or.inr (Or.inr ⟨z, y1, y2, fun h5 k hk => ?_⟩)
        show (Int64.toInt32 (fuL (hCell S) s.toNatClampNeg i.toNatClampNeg (narL (hSort S s.toNatClampNeg) v) q k)).toInt64 = fuL (hCell S) s.toNatClampNeg i.toNatClampNeg (narL (hSort S s.toNatClampNeg) v) q k
        by_cases e : q = s.toNatClampNeg ∧ k = i.toNatClampNeg
        · rw [show fuL (hCell S) s.toNatClampNeg i.toNatClampNeg (narL (hSort S s.toNatClampNeg) v) q k = narL (hSort S s.toNatClampNeg) v from if_pos e]
          have h5' : hSort S s.toNatClampNeg = 1 := by rw [← e.1]; exact h5
          rw [h5']
          exact int_back _
        · rw [show fuL (hCell S) s.toNatClampNeg i.toNatClampNeg (narL (hSort S s.toNatClampNeg) v) q k = hCell S q k from if_neg e]
          exact y h5 k hk
theorem ok_shift {S : zS} {s i p j n : Int32} (h : okS S) (hb : bdS S) : okS (opShift S s i p j n).2 := by
  unfold opShift
  by_cases c1 : (0 ≤ s ∧ s < 6) ∧ (0 ≤ p ∧ p < 6)
  · rw [if_neg (fun z => z c1)]
    by_cases c2 : hHeld S s.toNatClampNeg = 0 ∨ hHeld S p.toNatClampNeg = 0
    · rw [if_pos c2]; exact h
    · rw [if_neg c2]
      by_cases c3 : hHeld S s.toNatClampNeg = 1 ∨ hHeld S p.toNatClampNeg = 1 ∨ ¬ hSort S s.toNatClampNeg = hSort S p.toNatClampNeg
      · rw [if_pos c3]; exact h
      · rw [if_neg c3]
        by_cases c4 : 0 ≤ n ∧ 0 ≤ i ∧ 0 ≤ j ∧ i ≤ hSize S s.toNatClampNeg - n ∧ j ≤ hSize S p.toNatClampNeg - n
        · rw [if_neg (fun z => z c4)]
          have key : ∀ (a : Int32), (0 ≤ a ∧ a < 6) → ∃ q, q < 6 ∧ a.toNatClampNeg = q := fun a ha => by
            obtain ⟨q, hq, -, eq⟩ := zix (n := 6) ha.1 ha.2 (by omega)
            exact ⟨q, hq, eq⟩
          obtain ⟨s', hs', es⟩ := key s c1.1
          obtain ⟨p', hp', ep⟩ := key p c1.2
          rw [es, ep] at c2 c3 c4 ⊢
          have hs2 : (∃ m, m ≤ 60 ∧ hSize S s' = nI m) ∧ (hSort S s' = 1 → ∀ i, i < 60 → (hInt S s' i).toInt64 = hCell S s' i) := by
            rcases h.2.2.2.1 s' hs' with z | ⟨z, y⟩ | ⟨z, y1, y2, y⟩
            · exact absurd (Or.inl z) c2
            · exact absurd (Or.inl z) c3
            · exact ⟨y2, y⟩
          obtain ⟨⟨m, hm, em⟩, hc⟩ := hs2
          obtain ⟨N, hN, rfl⟩ := nI_of (x := n) (Int32.not_lt.mpr c4.1)
          obtain ⟨I, hI, rfl⟩ := nI_of (x := i) (Int32.not_lt.mpr c4.2.1)
          have hsum : I + N ≤ m := by
            have hh := c4.2.2.2.1
            rw [em] at hh
            have t := Int32.le_iff_toInt_le.mp hh
            rw [sub_toInt hm hN, nI_toInt hI] at t
            omega
          refine ok_sH h (fun q hq => ?_)
          rcases h.2.2.2.1 q hq with z | ⟨z, y⟩ | ⟨z, y1, y2, y⟩
          · exact Or.inl z
          · exact Or.inr (Or.inl ⟨z, y⟩)
          · refine Or.inr (Or.inr ⟨z, y1, y2, fun h5 k hk => ?_⟩)
            show (Int64.toInt32 (shC S s' (nI I).toNatClampNeg p' j.toNatClampNeg (nI N).toNatClampNeg q k)).toInt64 = shC S s' (nI I).toNatClampNeg p' j.toNatClampNeg (nI N).toNatClampNeg q k
            rw [nI_clamp hI, nI_clamp hN]
            by_cases e : q = p' ∧ j.toNatClampNeg ≤ k ∧ k < j.toNatClampNeg + N
            · rw [show shC S s' I p' j.toNatClampNeg N q k = hCell S s' (I + (k - j.toNatClampNeg)) from if_pos e]
              have h5' : hSort S s' = 1 := by
                have : hSort S q = 1 := h5
                rw [e.1] at this
                rcases Decidable.em (hSort S s' = hSort S p') with w | w
                · exact w.trans this
                · exact absurd (Or.inr (Or.inr w)) c3
              exact hc h5' _ (by omega)
            · rw [show shC S s' I p' j.toNatClampNeg N q k = hCell S q k from if_neg e]
              exact y h5 k hk
        · rw [if_pos c4]; exact h
  · rw [if_pos c1]; exact h
