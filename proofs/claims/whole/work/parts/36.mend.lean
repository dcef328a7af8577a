/-! the reference: numbers mended, undone, redone -/
section WR
variable {F : zF} {μ : zMem} {q : Nat} {x : Int32}
theorem oM.w0 (h : oM F μ) : oM (wrF F q 0 x) (zpI μ 25 q x) := ⟨h.1, by rw [← h.2]; rfl⟩
theorem oM.w1 (h : oM F μ) : oM (wrF F q 1 x) (zpI μ 26 q x) := ⟨h.1, by rw [← h.2]; rfl⟩
theorem oM.w2 (h : oM F μ) : oM (wrF F q 2 x) (zpI μ 27 q x) := ⟨h.1, by rw [← h.2]; rfl⟩
theorem oM.w3 (h : oM F μ) : oM (wrF F q 3 x) (zpI μ 28 q x) := ⟨h.1, by rw [← h.2]; rfl⟩
theorem oM.w4 (h : oM F μ) : oM (wrF F q 4 x) (zpI μ 29 q x) := ⟨h.1, by rw [← h.2]; rfl⟩
theorem oM.w5 (h : oM F μ) : oM (wrF F q 5 x) (zpI μ 30 q x) := ⟨h.1, by rw [← h.2]; rfl⟩
theorem oM.w6 (h : oM F μ) : oM (wrF F q 6 x) (zpI μ 31 q x) := ⟨h.1, by rw [← h.2]; rfl⟩
theorem oM.w7 (h : oM F μ) : oM (wrF F q 7 x) (zpI μ 0 2 x) := ⟨h.1, by rw [← h.2]; rfl⟩
end WR
theorem isN_7 {F : zF} {n w : Int32} (h : isN F n w) (h0 : ¬ w = 0) (h1 : ¬ w = 1) (h2 : ¬ w = 2) (h3 : ¬ w = 3) (h4 : ¬ w = 4) (h5 : ¬ w = 5) (h6 : ¬ w = 6) : w = 7 := by
  rcases h with h | h | h
  · obtain ⟨q, hq, rfl⟩ := nI_of2 (M := 1) (n := 1) rfl (Int32.not_lt.mpr h.1.1) h.1.2
    rcases (show q = 0 ∨ q = 1 by omega) with rfl | rfl
    · exact absurd rfl h0
    · exact absurd rfl h1
  · obtain ⟨q, hq, rfl⟩ := nI_of2 (M := 6) (n := 6) rfl (Int32.not_lt.mpr (Int32.le_trans (by decide) h.1.1)) h.1.2
    rcases (show q = 0 ∨ q = 1 ∨ q = 2 ∨ q = 3 ∨ q = 4 ∨ q = 5 ∨ q = 6 by omega) with rfl | rfl | rfl | rfl | rfl | rfl | rfl
    · exact absurd rfl h0
    · exact absurd rfl h1
    · exact absurd rfl h2
    · exact absurd rfl h3
    · exact absurd rfl h4
    · exact absurd rfl h5
    · exact absurd rfl h6
  · exact h.1

set_option maxRecDepth 100000 in
set_option maxHeartbeats 4000000 in
theorem s_M_write {g : zG} {d : Nat} {S : zS} {μ : zMem} {n w x : Int32} (hN : isN S.1 n w) (hS : mS S μ) : zM g d M_write [.ref 0, .int n, .int w, .int x] μ (fun r μ' => r = none ∧ mS (wrS S n w x) μ' ∧ onlyM μ μ') := by
  refine zM_of (by decide +kernel) rfl rfl (Nat.le_of_ble_eq_true rfl) rfl ?_
  refine zb M_write_s0 rfl ?_
  by_cases hs1_0 : w = 0
  · refine z_tabIn M_write_d1 (off := 43) (tgt := 44) (by rw [hs1_0]; decide) (by rw [hs1_0]; decide) (by rw [hs1_0]; decide) rfl ?_
    refine zb1 M_write_s44 rfl (by first | exact (isN_ix hN hS.1.b6 hS.1.v12).1 (Or.inl (by assumption)) | exact (isN_ix hN hS.1.b6 hS.1.v12).1 (Or.inr (by assumption)) | (refine (isN_ix hN hS.1.b6 hS.1.v12).2 ?_ ?_ <;> (intro z; simp_all))) ?_
    refine z_retV M_write_d119 rfl ?_
    obtain ⟨ho, h2, hT, hC, hD, hI, hA, hH⟩ := hS
    first
      | (subst hs1_0; exact ⟨rfl, ⟨ho.w0, h2, hT, hC, hD, hI, hA, hH⟩, onlyM.put rfl onlyM.rf⟩)
      | (subst hs1_1; exact ⟨rfl, ⟨ho.w1, h2, hT, hC, hD, hI, hA, hH⟩, onlyM.put rfl onlyM.rf⟩)
      | (subst hs1_2; exact ⟨rfl, ⟨ho.w2, h2, hT, hC, hD, hI, hA, hH⟩, onlyM.put rfl onlyM.rf⟩)
      | (subst hs1_3; exact ⟨rfl, ⟨ho.w3, h2, hT, hC, hD, hI, hA, hH⟩, onlyM.put rfl onlyM.rf⟩)
      | (subst hs1_4; exact ⟨rfl, ⟨ho.w4, h2, hT, hC, hD, hI, hA, hH⟩, onlyM.put rfl onlyM.rf⟩)
      | (subst hs1_5; exact ⟨rfl, ⟨ho.w5, h2, hT, hC, hD, hI, hA, hH⟩, onlyM.put rfl onlyM.rf⟩)
      | (subst hs1_6; exact ⟨rfl, ⟨ho.w6, h2, hT, hC, hD, hI, hA, hH⟩, onlyM.put rfl onlyM.rf⟩)
      | (have h7 := isN_7 hN hs1_0 hs1_1 hs1_2 hs1_3 hs1_4 hs1_5 hs1_6
         subst h7
         exact ⟨rfl, ⟨ho.w7, ⟨rfl, h2.2⟩, hT, hC, hD, hI, hA, hH⟩, onlyM.put rfl onlyM.rf⟩)
  · by_cases hs1_1 : w = 1
    · refine z_tabIn M_write_d1 (off := 53) (tgt := 54) (by rw [hs1_1]; decide) (by rw [hs1_1]; decide) (by rw [hs1_1]; decide) rfl ?_
      refine zb1 M_write_s54 rfl (by first | exact (isN_ix hN hS.1.b6 hS.1.v12).1 (Or.inl (by assumption)) | exact (isN_ix hN hS.1.b6 hS.1.v12).1 (Or.inr (by assumption)) | (refine (isN_ix hN hS.1.b6 hS.1.v12).2 ?_ ?_ <;> (intro z; simp_all))) ?_
      refine z_retV M_write_d119 rfl ?_
      obtain ⟨ho, h2, hT, hC, hD, hI, hA, hH⟩ := hS
      first
        | (subst hs1_0; exact ⟨rfl, ⟨ho.w0, h2, hT, hC, hD, hI, hA, hH⟩, onlyM.put rfl onlyM.rf⟩)
        | (subst hs1_1; exact ⟨rfl, ⟨ho.w1, h2, hT, hC, hD, hI, hA, hH⟩, onlyM.put rfl onlyM.rf⟩)
        | (subst hs1_2; exact ⟨rfl, ⟨ho.w2, h2, hT, hC, hD, hI, hA, hH⟩, onlyM.put rfl onlyM.rf⟩)
        | (subst hs1_3; exact ⟨rfl, ⟨ho.w3, h2, hT, hC, hD, hI, hA, hH⟩, onlyM.put rfl onlyM.rf⟩)
        | (subst hs1_4; exact ⟨rfl, ⟨ho.w4, h2, hT, hC, hD, hI, hA, hH⟩, onlyM.put rfl onlyM.rf⟩)
        | (subst hs1_5; exact ⟨rfl, ⟨ho.w5, h2, hT, hC, hD, hI, hA, hH⟩, onlyM.put rfl onlyM.rf⟩)
        | (subst hs1_6; exact ⟨rfl, ⟨ho.w6, h2, hT, hC, hD, hI, hA, hH⟩, onlyM.put rfl onlyM.rf⟩)
        | (have h7 := isN_7 hN hs1_0 hs1_1 hs1_2 hs1_3 hs1_4 hs1_5 hs1_6
           subst h7
           exact ⟨rfl, ⟨ho.w7, ⟨rfl, h2.2⟩, hT, hC, hD, hI, hA, hH⟩, onlyM.put rfl onlyM.rf⟩)
    · by_cases hs1_2 : w = 2
      · refine z_tabIn M_write_d1 (off := 63) (tgt := 64) (by rw [hs1_2]; decide) (by rw [hs1_2]; decide) (by rw [hs1_2]; decide) rfl ?_
        refine zb1 M_write_s64 rfl (by first | exact (isN_ix hN hS.1.b6 hS.1.v12).1 (Or.inl (by assumption)) | exact (isN_ix hN hS.1.b6 hS.1.v12).1 (Or.inr (by assumption)) | (refine (isN_ix hN hS.1.b6 hS.1.v12).2 ?_ ?_ <;> (intro z; simp_all))) ?_
        refine z_retV M_write_d119 rfl ?_
        obtain ⟨ho, h2, hT, hC, hD, hI, hA, hH⟩ := hS
        first
          | (subst hs1_0; exact ⟨rfl, ⟨ho.w0, h2, hT, hC, hD, hI, hA, hH⟩, onlyM.put rfl onlyM.rf⟩)
          | (subst hs1_1; exact ⟨rfl, ⟨ho.w1, h2, hT, hC, hD, hI, hA, hH⟩, onlyM.put rfl onlyM.rf⟩)
          | (subst hs1_2; exact ⟨rfl, ⟨ho.w2, h2, hT, hC, hD, hI, hA, hH⟩, onlyM.put rfl onlyM.rf⟩)
          | (subst hs1_3; exact ⟨rfl, ⟨ho.w3, h2, hT, hC, hD, hI, hA, hH⟩, onlyM.put rfl onlyM.rf⟩)
          | (subst hs1_4; exact ⟨rfl, ⟨ho.w4, h2, hT, hC, hD, hI, hA, hH⟩, onlyM.put rfl onlyM.rf⟩)
          | (subst hs1_5; exact ⟨rfl, ⟨ho.w5, h2, hT, hC, hD, hI, hA, hH⟩, onlyM.put rfl onlyM.rf⟩)
          | (subst hs1_6; exact ⟨rfl, ⟨ho.w6, h2, hT, hC, hD, hI, hA, hH⟩, onlyM.put rfl onlyM.rf⟩)
          | (have h7 := isN_7 hN hs1_0 hs1_1 hs1_2 hs1_3 hs1_4 hs1_5 hs1_6
             subst h7
             exact ⟨rfl, ⟨ho.w7, ⟨rfl, h2.2⟩, hT, hC, hD, hI, hA, hH⟩, onlyM.put rfl onlyM.rf⟩)
      · by_cases hs1_3 : w = 3
        · refine z_tabIn M_write_d1 (off := 73) (tgt := 74) (by rw [hs1_3]; decide) (by rw [hs1_3]; decide) (by rw [hs1_3]; decide) rfl ?_
          refine zb1 M_write_s74 rfl (by first | exact (isN_ix hN hS.1.b6 hS.1.v12).1 (Or.inl (by assumption)) | exact (isN_ix hN hS.1.b6 hS.1.v12).1 (Or.inr (by assumption)) | (refine (isN_ix hN hS.1.b6 hS.1.v12).2 ?_ ?_ <;> (intro z; simp_all))) ?_
          refine z_retV M_write_d119 rfl ?_
          obtain ⟨ho, h2, hT, hC, hD, hI, hA, hH⟩ := hS
          first
            | (subst hs1_0; exact ⟨rfl, ⟨ho.w0, h2, hT, hC, hD, hI, hA, hH⟩, onlyM.put rfl onlyM.rf⟩)
            | (subst hs1_1; exact ⟨rfl, ⟨ho.w1, h2, hT, hC, hD, hI, hA, hH⟩, onlyM.put rfl onlyM.rf⟩)
            | (subst hs1_2; exact ⟨rfl, ⟨ho.w2, h2, hT, hC, hD, hI, hA, hH⟩, onlyM.put rfl onlyM.rf⟩)
            | (subst hs1_3; exact ⟨rfl, ⟨ho.w3, h2, hT, hC, hD, hI, hA, hH⟩, onlyM.put rfl onlyM.rf⟩)
            | (subst hs1_4; exact ⟨rfl, ⟨ho.w4, h2, hT, hC, hD, hI, hA, hH⟩, onlyM.put rfl onlyM.rf⟩)
            | (subst hs1_5; exact ⟨rfl, ⟨ho.w5, h2, hT, hC, hD, hI, hA, hH⟩, onlyM.put rfl onlyM.rf⟩)
            | (subst hs1_6; exact ⟨rfl, ⟨ho.w6, h2, hT, hC, hD, hI, hA, hH⟩, onlyM.put rfl onlyM.rf⟩)
            | (have h7 := isN_7 hN hs1_0 hs1_1 hs1_2 hs1_3 hs1_4 hs1_5 hs1_6
               subst h7
               exact ⟨rfl, ⟨ho.w7, ⟨rfl, h2.2⟩, hT, hC, hD, hI, hA, hH⟩, onlyM.put rfl onlyM.rf⟩)
        · by_cases hs1_4 : w = 4
          · refine z_tabIn M_write_d1 (off := 83) (tgt := 84) (by rw [hs1_4]; decide) (by rw [hs1_4]; decide) (by rw [hs1_4]; decide) rfl ?_
            refine zb1 M_write_s84 rfl (by first | exact (isN_ix hN hS.1.b6 hS.1.v12).1 (Or.inl (by assumption)) | exact (isN_ix hN hS.1.b6 hS.1.v12).1 (Or.inr (by assumption)) | (refine (isN_ix hN hS.1.b6 hS.1.v12).2 ?_ ?_ <;> (intro z; simp_all))) ?_
            refine z_retV M_write_d119 rfl ?_
            obtain ⟨ho, h2, hT, hC, hD, hI, hA, hH⟩ := hS
            first
              | (subst hs1_0; exact ⟨rfl, ⟨ho.w0, h2, hT, hC, hD, hI, hA, hH⟩, onlyM.put rfl onlyM.rf⟩)
              | (subst hs1_1; exact ⟨rfl, ⟨ho.w1, h2, hT, hC, hD, hI, hA, hH⟩, onlyM.put rfl onlyM.rf⟩)
              | (subst hs1_2; exact ⟨rfl, ⟨ho.w2, h2, hT, hC, hD, hI, hA, hH⟩, onlyM.put rfl onlyM.rf⟩)
              | (subst hs1_3; exact ⟨rfl, ⟨ho.w3, h2, hT, hC, hD, hI, hA, hH⟩, onlyM.put rfl onlyM.rf⟩)
              | (subst hs1_4; exact ⟨rfl, ⟨ho.w4, h2, hT, hC, hD, hI, hA, hH⟩, onlyM.put rfl onlyM.rf⟩)
              | (subst hs1_5; exact ⟨rfl, ⟨ho.w5, h2, hT, hC, hD, hI, hA, hH⟩, onlyM.put rfl onlyM.rf⟩)
              | (subst hs1_6; exact ⟨rfl, ⟨ho.w6, h2, hT, hC, hD, hI, hA, hH⟩, onlyM.put rfl onlyM.rf⟩)
              | (have h7 := isN_7 hN hs1_0 hs1_1 hs1_2 hs1_3 hs1_4 hs1_5 hs1_6
                 subst h7
                 exact ⟨rfl, ⟨ho.w7, ⟨rfl, h2.2⟩, hT, hC, hD, hI, hA, hH⟩, onlyM.put rfl onlyM.rf⟩)
          · by_cases hs1_5 : w = 5
            · refine z_tabIn M_write_d1 (off := 93) (tgt := 94) (by rw [hs1_5]; decide) (by rw [hs1_5]; decide) (by rw [hs1_5]; decide) rfl ?_
              refine zb1 M_write_s94 rfl (by first | exact (isN_ix hN hS.1.b6 hS.1.v12).1 (Or.inl (by assumption)) | exact (isN_ix hN hS.1.b6 hS.1.v12).1 (Or.inr (by assumption)) | (refine (isN_ix hN hS.1.b6 hS.1.v12).2 ?_ ?_ <;> (intro z; simp_all))) ?_
              refine z_retV M_write_d119 rfl ?_
              obtain ⟨ho, h2, hT, hC, hD, hI, hA, hH⟩ := hS
              first
                | (subst hs1_0; exact ⟨rfl, ⟨ho.w0, h2, hT, hC, hD, hI, hA, hH⟩, onlyM.put rfl onlyM.rf⟩)
                | (subst hs1_1; exact ⟨rfl, ⟨ho.w1, h2, hT, hC, hD, hI, hA, hH⟩, onlyM.put rfl onlyM.rf⟩)
                | (subst hs1_2; exact ⟨rfl, ⟨ho.w2, h2, hT, hC, hD, hI, hA, hH⟩, onlyM.put rfl onlyM.rf⟩)
                | (subst hs1_3; exact ⟨rfl, ⟨ho.w3, h2, hT, hC, hD, hI, hA, hH⟩, onlyM.put rfl onlyM.rf⟩)
                | (subst hs1_4; exact ⟨rfl, ⟨ho.w4, h2, hT, hC, hD, hI, hA, hH⟩, onlyM.put rfl onlyM.rf⟩)
                | (subst hs1_5; exact ⟨rfl, ⟨ho.w5, h2, hT, hC, hD, hI, hA, hH⟩, onlyM.put rfl onlyM.rf⟩)
                | (subst hs1_6; exact ⟨rfl, ⟨ho.w6, h2, hT, hC, hD, hI, hA, hH⟩, onlyM.put rfl onlyM.rf⟩)
                | (have h7 := isN_7 hN hs1_0 hs1_1 hs1_2 hs1_3 hs1_4 hs1_5 hs1_6
                   subst h7
                   exact ⟨rfl, ⟨ho.w7, ⟨rfl, h2.2⟩, hT, hC, hD, hI, hA, hH⟩, onlyM.put rfl onlyM.rf⟩)
            · by_cases hs1_6 : w = 6
              · refine z_tabIn M_write_d1 (off := 103) (tgt := 104) (by rw [hs1_6]; decide) (by rw [hs1_6]; decide) (by rw [hs1_6]; decide) rfl ?_
                refine zb1 M_write_s104 rfl (by first | exact (isN_ix hN hS.1.b6 hS.1.v12).1 (Or.inl (by assumption)) | exact (isN_ix hN hS.1.b6 hS.1.v12).1 (Or.inr (by assumption)) | (refine (isN_ix hN hS.1.b6 hS.1.v12).2 ?_ ?_ <;> (intro z; simp_all))) ?_
                refine z_retV M_write_d119 rfl ?_
                obtain ⟨ho, h2, hT, hC, hD, hI, hA, hH⟩ := hS
                first
                  | (subst hs1_0; exact ⟨rfl, ⟨ho.w0, h2, hT, hC, hD, hI, hA, hH⟩, onlyM.put rfl onlyM.rf⟩)
                  | (subst hs1_1; exact ⟨rfl, ⟨ho.w1, h2, hT, hC, hD, hI, hA, hH⟩, onlyM.put rfl onlyM.rf⟩)
                  | (subst hs1_2; exact ⟨rfl, ⟨ho.w2, h2, hT, hC, hD, hI, hA, hH⟩, onlyM.put rfl onlyM.rf⟩)
                  | (subst hs1_3; exact ⟨rfl, ⟨ho.w3, h2, hT, hC, hD, hI, hA, hH⟩, onlyM.put rfl onlyM.rf⟩)
                  | (subst hs1_4; exact ⟨rfl, ⟨ho.w4, h2, hT, hC, hD, hI, hA, hH⟩, onlyM.put rfl onlyM.rf⟩)
                  | (subst hs1_5; exact ⟨rfl, ⟨ho.w5, h2, hT, hC, hD, hI, hA, hH⟩, onlyM.put rfl onlyM.rf⟩)
                  | (subst hs1_6; exact ⟨rfl, ⟨ho.w6, h2, hT, hC, hD, hI, hA, hH⟩, onlyM.put rfl onlyM.rf⟩)
                  | (have h7 := isN_7 hN hs1_0 hs1_1 hs1_2 hs1_3 hs1_4 hs1_5 hs1_6
                     subst h7
                     exact ⟨rfl, ⟨ho.w7, ⟨rfl, h2.2⟩, hT, hC, hD, hI, hA, hH⟩, onlyM.put rfl onlyM.rf⟩)
              · refine z_tabOut M_write_d1 (tgt := 114) (zsw_out 7 (by decide) (fun k hk => by rcases (show k = 0 ∨ k = 1 ∨ k = 2 ∨ k = 3 ∨ k = 4 ∨ k = 5 ∨ k = 6 by omega) with rfl | rfl | rfl | rfl | rfl | rfl | rfl <;> first | exact hs1_0 | exact hs1_1 | exact hs1_2 | exact hs1_3 | exact hs1_4 | exact hs1_5 | exact hs1_6)) rfl ?_
                refine zb M_write_s114 rfl ?_
                refine z_retV M_write_d119 rfl ?_
                obtain ⟨ho, h2, hT, hC, hD, hI, hA, hH⟩ := hS
                first
                  | (subst hs1_0; exact ⟨rfl, ⟨ho.w0, h2, hT, hC, hD, hI, hA, hH⟩, onlyM.put rfl onlyM.rf⟩)
                  | (subst hs1_1; exact ⟨rfl, ⟨ho.w1, h2, hT, hC, hD, hI, hA, hH⟩, onlyM.put rfl onlyM.rf⟩)
                  | (subst hs1_2; exact ⟨rfl, ⟨ho.w2, h2, hT, hC, hD, hI, hA, hH⟩, onlyM.put rfl onlyM.rf⟩)
                  | (subst hs1_3; exact ⟨rfl, ⟨ho.w3, h2, hT, hC, hD, hI, hA, hH⟩, onlyM.put rfl onlyM.rf⟩)
                  | (subst hs1_4; exact ⟨rfl, ⟨ho.w4, h2, hT, hC, hD, hI, hA, hH⟩, onlyM.put rfl onlyM.rf⟩)
                  | (subst hs1_5; exact ⟨rfl, ⟨ho.w5, h2, hT, hC, hD, hI, hA, hH⟩, onlyM.put rfl onlyM.rf⟩)
                  | (subst hs1_6; exact ⟨rfl, ⟨ho.w6, h2, hT, hC, hD, hI, hA, hH⟩, onlyM.put rfl onlyM.rf⟩)
                  | (have h7 := isN_7 hN hs1_0 hs1_1 hs1_2 hs1_3 hs1_4 hs1_5 hs1_6
                     subst h7
                     exact ⟨rfl, ⟨ho.w7, ⟨rfl, h2.2⟩, hT, hC, hD, hI, hA, hH⟩, onlyM.put rfl onlyM.rf⟩)

def dri (f : Nat → Int32) (i : Nat) : Nat → Int32 := fun k => if k + 1 < i then f (k + 1) else f k
theorem dri_1 (f : Nat → Int32) : dri f 1 = f := by funext k; unfold dri; rw [if_neg (by omega)]
theorem dri_40 (f : Nat → Int32) : dri f 40 = dr1 f := by
  funext k
  unfold dri dr1
  by_cases h : k < 39
  · rw [if_pos (by omega), if_pos h]
  · rw [if_neg (by omega), if_neg h]
theorem dri_s (f : Nat → Int32) (i : Nat) (h : 1 ≤ i) : fu (dri f i) (i - 1) (dri f i i) = dri f (i + 1) := by
  funext k
  unfold fu dri
  rw [if_neg (show ¬ i + 1 < i by omega)]
  by_cases e : k = i - 1
  · rw [if_pos e, if_pos (by omega)]
    congr 1
    omega
  · rw [if_neg e]
    by_cases q : k + 1 < i
    · rw [if_pos q, if_pos (by omega)]
    · rw [if_neg q, if_neg (by omega)]
def drR (μ0 : zMem) (i : Nat) (μ : zMem) : Prop := (∀ c, ¬ (34 ≤ c ∧ c ≤ 37) → μ.1 c = μ0.1 c) ∧ μ.2 = μ0.2 ∧ μ.1 34 = dri (μ0.1 34) i ∧ μ.1 35 = dri (μ0.1 35) i ∧ μ.1 36 = dri (μ0.1 36) i ∧ μ.1 37 = dri (μ0.1 37) i
theorem zpI_row {μ : zMem} {c k : Nat} {x : Int32} : (zpI μ c k x).1 c = fu (μ.1 c) k x := by funext p; simp [zpI, zu, fu]
theorem drR.s {μ0 μ : zMem} {i : Nat} (h : drR μ0 i μ) (h1 : 1 ≤ i) : drR μ0 (i + 1) (zpI (zpI (zpI (zpI μ 34 (i - 1) (μ.1 34 i)) 35 (i - 1) (μ.1 35 i)) 36 (i - 1) (μ.1 36 i)) 37 (i - 1) (μ.1 37 i)) := by
  obtain ⟨a, b, c1, c2, c3, c4⟩ := h
  refine ⟨fun c hc => ?_, b, ?_, ?_, ?_, ?_⟩
  · rw [zpI_ne (by omega), zpI_ne (by omega), zpI_ne (by omega), zpI_ne (by omega)]
    exact a c hc
  · simp (disch := decide) only [zpI_ne]
    rw [zpI_row, c1, dri_s _ _ h1]
  · simp (disch := decide) only [zpI_ne]
    rw [zpI_row]
    simp (disch := decide) only [zpI_ne]
    rw [c2, dri_s _ _ h1]
  · simp (disch := decide) only [zpI_ne]
    rw [zpI_row]
    simp (disch := decide) only [zpI_ne]
    rw [c3, dri_s _ _ h1]
  · rw [zpI_row]
    simp (disch := decide) only [zpI_ne]
    rw [c4, dri_s _ _ h1]
/-- but for the changes -/
theorem mS.drop {S : zS} {μ0 μ : zMem} (h : mS S μ0) (h40 : (cC S).1.1 = 40) (hr : drR μ0 40 μ) : mS (sC S (chDrop (cC S))) (zpI μ 0 22 (nI 39)) ∧ onlyM μ0 (zpI μ 0 22 (nI 39)) := by
  obtain ⟨a, b, c1, c2, c3, c4⟩ := hr
  obtain ⟨ho, h2, hT, hC, hD, hI, hA, hH⟩ := h
  have hm : zq (fun c _ => Nat.ble 34 c && Nat.ble c 37) μ0 μ := by
    refine ⟨fun c k hc => ?_, b⟩
    rw [a c]
    rintro ⟨z, y⟩
    dsimp only at hc
    rw [Nat.ble_eq.mpr z, Nat.ble_eq.mpr y] at hc
    cases hc
  have ho1 : oM S.1 μ := ⟨(zq_fM ⟨⟨rfl, rfl, rfl, rfl⟩, fun _ => ⟨rfl, rfl, rfl, rfl, rfl, rfl, rfl, rfl⟩⟩ hm).2 ho.1, by rw [(zq_fM ⟨⟨rfl, rfl, rfl, rfl⟩, fun _ => ⟨rfl, rfl, rfl, rfl, rfl, rfl, rfl, rfl⟩⟩ hm).1]; exact ho.2⟩
  have e0 := a 0 (by decide)
  have hC2 : (μ0.1 0 22 = nI (cC S).1.1 ∧ μ0.1 0 23 = nI (cC S).1.2 ∧ (cC S).1.1 ≤ (cC S).1.2 ∧ (cC S).1.2 ≤ 40) ∧ μ0.1 34 = (cC S).2.1 ∧ μ0.1 35 = (cC S).2.2.1 ∧ μ0.1 36 = (cC S).2.2.2.1 ∧ μ0.1 37 = (cC S).2.2.2.2 := hC
  refine ⟨⟨ho1, ?_, ?_, ?_, ?_, ?_, ?_, ?_⟩, ?_⟩
  · show μ.1 0 2 = _ ∧ μ.1 0 3 = _
    rw [e0]; exact h2
  · show μ.1 0 4 = _ ∧ _ ∧ μ.1 32 = _
    rw [e0, a 32 (by decide)]; exact hT
  · show (nI 39 = nI (chDrop (cC S)).1.1 ∧ μ.1 0 23 = _ ∧ _ ∧ _) ∧ μ.1 34 = _ ∧ μ.1 35 = _ ∧ μ.1 36 = _ ∧ μ.1 37 = _
    unfold chDrop
    rw [if_pos h40, e0, c1, c2, c3, c4, hC2.2.1, hC2.2.2.1, hC2.2.2.2.1, hC2.2.2.2.2, dri_40, dri_40, dri_40, dri_40]
    exact ⟨⟨rfl, hC2.1.2.1, by have := hC2.1.2.2.1; show 39 ≤ (cC S).1.2; omega, hC2.1.2.2.2⟩, rfl, rfl, rfl, rfl⟩
  · show μ.1 0 35 = _ ∧ μ.1 0 36 = _ ∧ μ.1 0 37 = _ ∧ μ.1 0 38 = _
    rw [e0]; exact hD
  · unfold mI at hI ⊢
    rw [show (zpI μ 0 22 (nI 39)).1 0 40 = μ0.1 0 40 from congrFun e0 40, show (zpI μ 0 22 (nI 39)).1 45 = μ0.1 45 from a 45 (by decide)]
    exact hI
  · unfold mA at hA ⊢
    rw [show (zpI μ 0 22 (nI 39)).1 0 7 = μ0.1 0 7 from congrFun e0 7, show (zpI μ 0 22 (nI 39)).1 0 6 = μ0.1 0 6 from congrFun e0 6, show (zpI μ 0 22 (nI 39)).1 46 = μ0.1 46 from a 46 (by decide), show (zpI μ 0 22 (nI 39)).1 47 = μ0.1 47 from a 47 (by decide)]
    exact hA
  · unfold mH at hH ⊢
    rw [show (zpI μ 0 22 (nI 39)).1 48 = μ0.1 48 from a 48 (by decide), show (zpI μ 0 22 (nI 39)).1 49 = μ0.1 49 from a 49 (by decide), show (zpI μ 0 22 (nI 39)).1 50 = μ0.1 50 from a 50 (by decide), show (zpI μ 0 22 (nI 39)).1 51 = μ0.1 51 from a 51 (by decide), show (zpI μ 0 22 (nI 39)).2.1 = μ0.2.1 by rw [← b]; rfl]
    exact hH
  · refine onlyM.put rfl ⟨fun c hc => ⟨a c (fun z => ?_), by rw [b]⟩, by rw [b]⟩
    have : isMc c = true := by
      unfold isMc
      rw [Nat.ble_eq.mpr (show 25 ≤ c by omega), Nat.ble_eq.mpr (show c ≤ 53 by omega)]
      simp
    rw [this] at hc
    cases hc

set_option maxRecDepth 100000 in
set_option maxHeartbeats 4000000 in
theorem w_M_drops {g : zG} {d : Nat} {μ0 : zMem} {Q : Option Value → zMem → Prop} (hQ : ∀ μ : zMem, drR μ0 40 μ → zW g M_drops d 70 [some (.ref 0), some (.int (nI 40))] [] μ Q) : ∀ (j i : Nat) (μ : zMem), i + j = 40 → (1 ≤ i) → (drR μ0 i μ) → zW g M_drops d 2 [some (.ref 0), some (.int (nI i))] [] μ (Q) := by
  intro j
  induction j with
  | zero =>
    intro i  μ hi  hv0 hv1
    have hi : 40 = i := by omega
    subst hi
    refine zb M_drops_s2 rfl ?_
    refine z_cge M_drops_d5 (tgt := 70) rfl (fun h5 => ?_) (fun h5 => absurd (show 40 ≤ nI (40) by first | exact Int32.le_refl _ | (rw [hbd]; exact Int32.le_refl _)) h5)
    exact hQ _ hv1
  | succ j ih =>
    intro i  μ hi  hv0 hv1
    have hilt : i < 40 := by omega
    have ei : (nI i).toNatClampNeg = i := nI_clamp (by omega)
    have ei1 : (nI i - 1).toNatClampNeg = i - 1 := by rw [show (1 : Int32) = nI 1 from rfl, pk_sub (by omega)]; exact nI_clamp (by omega)
    have hvi : vp_in (nI i) 40 := vp_in_nI (by omega) (by omega)
    have hvi1 : vp_in (nI i - 1) 40 := by rw [show (1 : Int32) = nI 1 from rfl, pk_sub (by omega)]; exact vp_in_nI (by omega) (by omega)
    refine zb M_drops_s2 rfl ?_
    refine z_cge M_drops_d5 (tgt := 70) rfl (fun h5 => absurd h5 (show ¬ 40 ≤ nI i by first | exact nI_ge (b := 40) hilt (by omega) | (rw [hbd]; exact nI_ge hilt (by omega)))) (fun h5 => ?_)
    refine zb8 M_drops_s8 rfl (by first | exact hvi | exact hvi1) (by first | exact hvi | exact hvi1) (by first | exact hvi | exact hvi1) (by first | exact hvi | exact hvi1) (by first | exact hvi | exact hvi1) (by first | exact hvi | exact hvi1) (by first | exact hvi | exact hvi1) (by first | exact hvi | exact hvi1) ?_
    rw [nI_1, ei, ei1]
    exact ih (i + 1) _ (by omega) (by omega) (hv1.s hv0)

set_option maxRecDepth 100000 in
set_option maxHeartbeats 4000000 in
theorem s_M_drops {g : zG} {d : Nat} {S : zS} {μ : zMem} (hS : mS S μ) (h40 : (cC S).1.1 = 40) : zM g d M_drops [.ref 0] μ (fun r μ' => r = none ∧ mS (sC S (chDrop (cC S))) μ' ∧ onlyM μ μ') := by
  refine zM_of (by decide +kernel) rfl rfl (Nat.le_of_ble_eq_true rfl) rfl ?_
  refine zb M_drops_s0 rfl ?_
  refine w_M_drops (μ0 := μ) (fun μ1 hr => ?_) 39 1 μ (by omega) (by omega) ⟨fun _ _ => rfl, rfl, (dri_1 _).symm, (dri_1 _).symm, (dri_1 _).symm, (dri_1 _).symm⟩
  have e22 : μ1.1 0 22 = nI 40 := by
    rw [hr.1 0 (by decide), ← h40]
    exact hS.2.2.2.1.1.1
  have hd := hS.drop h40 hr
  refine zb M_drops_s70 rfl ?_
  rw [e22]
  refine z_retV M_drops_d80 rfl ?_
  exact ⟨rfl, hd.1, hd.2⟩

theorem mC.push {c : zCh} {μ : zMem} {n w p v : Int32} (h : mC c μ) (hm : c.1.1 < 40) : mC ((c.1.1 + 1, c.1.1 + 1), fu c.2.1 c.1.1 n, fu c.2.2.1 c.1.1 w, fu c.2.2.2.1 c.1.1 p, fu c.2.2.2.2 c.1.1 v) (zpI (zpI (zpI (zpI (zpI (zpI μ 34 c.1.1 n) 35 c.1.1 w) 36 c.1.1 p) 37 c.1.1 v) 0 22 (nI (c.1.1 + 1))) 0 23 (nI (c.1.1 + 1))) := by
  obtain ⟨⟨h1, h2, h3, h4⟩, h5, h6, h7, h8⟩ := h
  refine ⟨⟨?_, ?_, Nat.le_refl _, hm⟩, ?_, ?_, ?_, ?_⟩
  · rfl
  · rfl
  · rw [← h5]; rfl
  · rw [← h6]; rfl
  · rw [← h7]; rfl
  · rw [← h8]; rfl
theorem chDrop_lt {c : zCh} (h1 : c.1.1 ≤ c.1.2) (h2 : c.1.2 ≤ 40) : (chDrop c).1.1 < 40 := by
  unfold chDrop
  split
  · show 39 < 40
    decide
  · omega

def okC (S : zS) : Prop := ∀ k, k < (cC S).1.2 → isN S.1 ((cC S).2.1 k) ((cC S).2.2.1 k) ∧ (leaW ((cC S).2.2.1 k) ≤ (cC S).2.2.2.1 k ∧ (cC S).2.2.2.1 k ≤ mosW S.1 ((cC S).2.2.1 k)) ∧ (leaW ((cC S).2.2.1 k) ≤ (cC S).2.2.2.2 k ∧ (cC S).2.2.2.2 k ≤ mosW S.1 ((cC S).2.2.1 k))
theorem mS.push {S : zS} {μ : zMem} {n w p v : Int32} (h : mS S μ) (hm : (cC S).1.1 < 40) : mS (sC S (((cC S).1.1 + 1, (cC S).1.1 + 1), fu (cC S).2.1 (cC S).1.1 n, fu (cC S).2.2.1 (cC S).1.1 w, fu (cC S).2.2.2.1 (cC S).1.1 p, fu (cC S).2.2.2.2 (cC S).1.1 v)) (zpI (zpI (zpI (zpI (zpI (zpI μ 34 (cC S).1.1 n) 35 (cC S).1.1 w) 36 (cC S).1.1 p) 37 (cC S).1.1 v) 0 22 (nI ((cC S).1.1 + 1))) 0 23 (nI ((cC S).1.1 + 1))) := by
  obtain ⟨ho, h2, hT, hC, hD, hI, hA, hH⟩ := h
  have hC1 : mC (cC S) μ := hC
  have ho1 : oM S.1 (zpI (zpI (zpI (zpI (zpI (zpI μ 34 (cC S).1.1 n) 35 (cC S).1.1 w) 36 (cC S).1.1 p) 37 (cC S).1.1 v) 0 22 (nI ((cC S).1.1 + 1))) 0 23 (nI ((cC S).1.1 + 1))) := ⟨ho.1, by rw [← ho.2]; rfl⟩
  exact ⟨ho1, h2, hT, hC1.push hm, hD, hI, hA, hH⟩
theorem mS.made {S : zS} {μ : zMem} {m : Nat} (h : mS S μ) (hm : m ≤ (cC S).1.2) : mS (sC S (chMade (cC S) m)) (zpI μ 0 22 (nI m)) := by
  obtain ⟨ho, h2, hT, hC, hD, hI, hA, hH⟩ := h
  have hC1 : mC (cC S) μ := hC
  have ho1 : oM S.1 (zpI μ 0 22 (nI m)) := ⟨ho.1, by rw [← ho.2]; rfl⟩
  exact ⟨ho1, h2, hT, ⟨⟨rfl, hC1.1.2.1, hm, hC1.1.2.2.2⟩, hC1.2⟩, hD, hI, hA, hH⟩

set_option maxRecDepth 100000 in
set_option maxHeartbeats 4000000 in
theorem s_M_mend {g : zG} {d : Nat} {S : zS} {μ : zMem} {n w v : Int32} (hd : 2 ≤ d) (hS : mS S μ) : zM g d M_mend [.ref 0, .int n, .int w, .int v] μ (pO mS onlyM (opMend S n w v) μ) := by
  refine zM_of (by decide +kernel) rfl rfl (Nat.le_of_ble_eq_true rfl) rfl ?_
  obtain ⟨ho, h2, hT, hC, hD, hI, hA, hH⟩ := hS
  have hS : mS S μ := ⟨ho, h2, hT, hC, hD, hI, hA, hH⟩
  have hb := ho.b
  have hv := ho.v
  have h6 := ho.b6
  have h12 := ho.v12
  have hz : zq sM μ μ := zq.rf
  replace hC : mC (cC S) μ := hC
  refine zb M_mend_s0 rfl ?_
  refine zcallV M_mend_d3 k11_137 (by omega) (s_M_isNumber _ _ (by omega) ho) rfl rfl rfl (Nat.le_of_ble_eq_true rfl) ?_
  rintro _ μx ⟨rfl, hx⟩
  rw [hx]
  clear hx μx
  refine z_eq M_mend_d6 (tgt := 27) rfl (fun h6 => ?_) (fun h6 => ?_)
  · refine zb M_mend_s27 rfl ?_
    refine z_ret M_mend_d28 rfl ?_
    unfold opMend
    first
      | (rw [if_pos (fun z => (zB_eq0.mp h6) z.1)]; exact ⟨rfl, hS, onlyM.rf⟩)
      | (rw [if_pos (fun z => (zB_eq0.mp h24) z.2)]; exact ⟨rfl, hS, onlyM.rf⟩)
      | (rw [if_neg (fun z => z ⟨hN, zB_ne0.mp h24⟩), if_neg h40]
         exact ⟨rfl, hS3, (hO1.tr (by repeat (first | exact onlyM.rf | refine onlyM.put rfl ?_))).tr hO3⟩)
      | (rw [if_neg (fun z => z ⟨hN, zB_ne0.mp h24⟩), if_pos h40]; exact ⟨by rw [h40], hS, onlyM.rf⟩)
  · refine zb M_mend_s9 rfl ?_
    refine zcallV M_mend_d13 k11_141 (by omega) (s_M_least _) rfl rfl rfl (Nat.le_of_ble_eq_true rfl) ?_
    rintro _ μx ⟨rfl, hx⟩
    rw [hx]
    clear hx μx
    refine zb M_mend_s16 rfl ?_
    refine zcallV M_mend_d18 k11_145 (by omega) (s_M_most _ ho) rfl rfl rfl (Nat.le_of_ble_eq_true rfl) ?_
    rintro _ μx ⟨rfl, hx⟩
    rw [hx]
    clear hx μx
    refine zcallV M_mend_d21 k11_112 (by omega) (c_M_isIn _ _ _) rfl rfl rfl (Nat.le_of_ble_eq_true rfl) ?_
    rintro _ μx ⟨rfl, hx⟩
    rw [hx]
    clear hx μx
    refine z_ne M_mend_d24 (tgt := 29) rfl (fun h24 => ?_) (fun h24 => ?_)
    · have hN := zB_ne0.mp h6
      refine zb M_mend_s29 rfl ?_
      refine zcallV M_mend_d32 k11_148 (by omega) (s_M_read hN h2.1 ho) rfl rfl rfl (Nat.le_of_ble_eq_true rfl) ?_
      rintro _ μx ⟨rfl, hx⟩
      rw [hx]
      clear hx μx
      refine zb M_mend_s35 rfl ?_
      refine z_cne M_mend_d40 (tgt := 46) rfl (fun h40 => ?_) (fun h40 => ?_)
      · refine zb M_mend_s46 rfl ?_
        refine z_cne M_mend_d52 (tgt := 59) rfl (fun h52 => ?_) (fun h52 => ?_)
        · first
            | (have hS1 : mS (sC S (chDrop (cC S))) μ := by
                 have h40 : ¬ (cC S).1.1 = 40 := fun z => h52 (by rw [hC.1.1, z]; rfl)
                 have e : chDrop (cC S) = cC S := if_neg h40
                 rw [e]
                 exact hS
               have hO1 : onlyM μ μ := onlyM.rf)
            | skip
          have hm40 := chDrop_lt hC.1.2.2.1 hC.1.2.2.2
          have e22 := hS1.2.2.2.1.1.1
          replace e22 : _ = nI (chDrop (cC S)).1.1 := e22
          have hvm : vp_in (nI (chDrop (cC S)).1.1) 40 := vp_in_nI hm40 (by omega)
          have em : (nI (chDrop (cC S)).1.1).toNatClampNeg = (chDrop (cC S)).1.1 := nI_clamp (by omega)
          have hS2 := hS1.push (n := n) (w := w) (p := rdF S.1 S.2.1.1 n.toNatClampNeg w) (v := v) hm40
          replace hS2 : mS (sC S (chAdd (cC S) n w (rdF S.1 S.2.1.1 n.toNatClampNeg w) v)) _ := hS2
          refine zb4 M_mend_s59 rfl (by first | exact hvm | (rw [e22]; exact hvm) | (simp (disch := decide) only [zpI_ne, e22]; exact hvm)) (by first | exact hvm | (rw [e22]; exact hvm) | (simp (disch := decide) only [zpI_ne, e22]; exact hvm)) (by first | exact hvm | (rw [e22]; exact hvm) | (simp (disch := decide) only [zpI_ne, e22]; exact hvm)) (by first | exact hvm | (rw [e22]; exact hvm) | (simp (disch := decide) only [zpI_ne, e22]; exact hvm)) ?_
          try simp (disch := decide) only [zpI_ne, e22, em, nI_1, zpI_at]
          try simp only [if_true]
          try simp (disch := decide) only [zpI_ne]
          refine zcallV M_mend_d122 k11_157 (by omega) (s_M_write (S := sC S (chAdd (cC S) n w (rdF S.1 S.2.1.1 n.toNatClampNeg w) v)) hN hS2) rfl rfl rfl (Nat.le_of_ble_eq_true rfl) ?_
          rintro _ μ2 ⟨rfl, hS3, hO3⟩
          refine zb M_mend_s125 rfl ?_
          refine z_ret M_mend_d127 rfl ?_
          unfold opMend
          first
            | (rw [if_pos (fun z => (zB_eq0.mp h6) z.1)]; exact ⟨rfl, hS, onlyM.rf⟩)
            | (rw [if_pos (fun z => (zB_eq0.mp h24) z.2)]; exact ⟨rfl, hS, onlyM.rf⟩)
            | (rw [if_neg (fun z => z ⟨hN, zB_ne0.mp h24⟩), if_neg h40]
               exact ⟨rfl, hS3, (hO1.tr (by repeat (first | exact onlyM.rf | refine onlyM.put rfl ?_))).tr hO3⟩)
            | (rw [if_neg (fun z => z ⟨hN, zB_ne0.mp h24⟩), if_pos h40]; exact ⟨by rw [h40], hS, onlyM.rf⟩)
        · have hm4 : (cC S).1.1 = 40 := by rw [hC.1.1] at h52; exact (nI_eq (b := 40) (by have := hC.1.2.2; omega) (by omega)).mp h52
          refine zb M_mend_s55 rfl ?_
          refine zcallV M_mend_d56 k11_151 (by omega) (s_M_drops hS hm4) rfl rfl rfl (Nat.le_of_ble_eq_true rfl) ?_
          rintro _ μ1 ⟨rfl, hS1, hO1⟩
          first
            | (have hS1 : mS (sC S (chDrop (cC S))) μ := by
                 have h40 : ¬ (cC S).1.1 = 40 := fun z => h52 (by rw [hC.1.1, z]; rfl)
                 have e : chDrop (cC S) = cC S := if_neg h40
                 rw [e]
                 exact hS
               have hO1 : onlyM μ μ := onlyM.rf)
            | skip
          have hm40 := chDrop_lt hC.1.2.2.1 hC.1.2.2.2
          have e22 := hS1.2.2.2.1.1.1
          replace e22 : _ = nI (chDrop (cC S)).1.1 := e22
          have hvm : vp_in (nI (chDrop (cC S)).1.1) 40 := vp_in_nI hm40 (by omega)
          have em : (nI (chDrop (cC S)).1.1).toNatClampNeg = (chDrop (cC S)).1.1 := nI_clamp (by omega)
          have hS2 := hS1.push (n := n) (w := w) (p := rdF S.1 S.2.1.1 n.toNatClampNeg w) (v := v) hm40
          replace hS2 : mS (sC S (chAdd (cC S) n w (rdF S.1 S.2.1.1 n.toNatClampNeg w) v)) _ := hS2
          refine zb4 M_mend_s59 rfl (by first | exact hvm | (rw [e22]; exact hvm) | (simp (disch := decide) only [zpI_ne, e22]; exact hvm)) (by first | exact hvm | (rw [e22]; exact hvm) | (simp (disch := decide) only [zpI_ne, e22]; exact hvm)) (by first | exact hvm | (rw [e22]; exact hvm) | (simp (disch := decide) only [zpI_ne, e22]; exact hvm)) (by first | exact hvm | (rw [e22]; exact hvm) | (simp (disch := decide) only [zpI_ne, e22]; exact hvm)) ?_
          try simp (disch := decide) only [zpI_ne, e22, em, nI_1, zpI_at]
          try simp only [if_true]
          try simp (disch := decide) only [zpI_ne]
          refine zcallV M_mend_d122 k11_157 (by omega) (s_M_write (S := sC S (chAdd (cC S) n w (rdF S.1 S.2.1.1 n.toNatClampNeg w) v)) hN hS2) rfl rfl rfl (Nat.le_of_ble_eq_true rfl) ?_
          rintro _ μ2 ⟨rfl, hS3, hO3⟩
          refine zb M_mend_s125 rfl ?_
          refine z_ret M_mend_d127 rfl ?_
          unfold opMend
          first
            | (rw [if_pos (fun z => (zB_eq0.mp h6) z.1)]; exact ⟨rfl, hS, onlyM.rf⟩)
            | (rw [if_pos (fun z => (zB_eq0.mp h24) z.2)]; exact ⟨rfl, hS, onlyM.rf⟩)
            | (rw [if_neg (fun z => z ⟨hN, zB_ne0.mp h24⟩), if_neg h40]
               exact ⟨rfl, hS3, (hO1.tr (by repeat (first | exact onlyM.rf | refine onlyM.put rfl ?_))).tr hO3⟩)
            | (rw [if_neg (fun z => z ⟨hN, zB_ne0.mp h24⟩), if_pos h40]; exact ⟨by rw [h40], hS, onlyM.rf⟩)
      · refine zb M_mend_s43 rfl ?_
        refine z_ret M_mend_d45 rfl ?_
        unfold opMend
        first
          | (rw [if_pos (fun z => (zB_eq0.mp h6) z.1)]; exact ⟨rfl, hS, onlyM.rf⟩)
          | (rw [if_pos (fun z => (zB_eq0.mp h24) z.2)]; exact ⟨rfl, hS, onlyM.rf⟩)
          | (rw [if_neg (fun z => z ⟨hN, zB_ne0.mp h24⟩), if_neg h40]
             exact ⟨rfl, hS3, (hO1.tr (by repeat (first | exact onlyM.rf | refine onlyM.put rfl ?_))).tr hO3⟩)
          | (rw [if_neg (fun z => z ⟨hN, zB_ne0.mp h24⟩), if_pos h40]; exact ⟨by rw [h40], hS, onlyM.rf⟩)
    · refine zb M_mend_s27 rfl ?_
      refine z_ret M_mend_d28 rfl ?_
      unfold opMend
      first
        | (rw [if_pos (fun z => (zB_eq0.mp h6) z.1)]; exact ⟨rfl, hS, onlyM.rf⟩)
        | (rw [if_pos (fun z => (zB_eq0.mp h24) z.2)]; exact ⟨rfl, hS, onlyM.rf⟩)
        | (rw [if_neg (fun z => z ⟨hN, zB_ne0.mp h24⟩), if_neg h40]
           exact ⟨rfl, hS3, (hO1.tr (by repeat (first | exact onlyM.rf | refine onlyM.put rfl ?_))).tr hO3⟩)
        | (rw [if_neg (fun z => z ⟨hN, zB_ne0.mp h24⟩), if_pos h40]; exact ⟨by rw [h40], hS, onlyM.rf⟩)
