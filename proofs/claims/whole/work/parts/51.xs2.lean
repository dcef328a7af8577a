/-! the class: numbers mended, undone, redone; of, feed -/
theorem isN_cases {F : zF} {n w : Int32} (h : isN F n w) : w = 0 ∨ w = 1 ∨ w = 2 ∨ w = 3 ∨ w = 4 ∨ w = 5 ∨ w = 6 ∨ w = 7 := by
  by_cases h0 : w = 0
  · exact Or.inl h0
  by_cases h1 : w = 1
  · exact Or.inr (Or.inl h1)
  by_cases h2 : w = 2
  · exact Or.inr (Or.inr (Or.inl h2))
  by_cases h3 : w = 3
  · exact Or.inr (Or.inr (Or.inr (Or.inl h3)))
  by_cases h4 : w = 4
  · exact Or.inr (Or.inr (Or.inr (Or.inr (Or.inl h4))))
  by_cases h5 : w = 5
  · exact Or.inr (Or.inr (Or.inr (Or.inr (Or.inr (Or.inl h5)))))
  by_cases h6 : w = 6
  · exact Or.inr (Or.inr (Or.inr (Or.inr (Or.inr (Or.inr (Or.inl h6))))))
  exact Or.inr (Or.inr (Or.inr (Or.inr (Or.inr (Or.inr (Or.inr (isN_7 h h0 h1 h2 h3 h4 h5 h6)))))))
theorem zle1 {w : Int32} (h : ¬ 2 ≤ w) : w ≤ 1 := by grind
theorem zle6 {w : Int32} (h : ¬ 7 ≤ w) : w ≤ 6 := by grind

set_option maxRecDepth 100000 in
set_option maxHeartbeats 4000000 in
theorem x_hasNumber {g : zG} {d : Nat} {F : zF} {μ : zMem} (n w : Int32) (hd : 1 ≤ d) (ho : oX F μ) : zM g d F_hasNumber [.ref 2, .int n, .int w] μ (fun r μ' => r = some (.int (zB (isN F n w))) ∧ μ' = μ) := by
  refine zM_of (by decide +kernel) rfl rfl (Nat.le_of_ble_eq_true rfl) rfl ?_
  refine zb F_hasNumber_s0 rfl ?_
  refine z_cne F_hasNumber_d3 (tgt := 16) rfl (fun h3 => ?_) (fun h3 => ?_)
  · refine zb F_hasNumber_s16 rfl ?_
    refine z_cge F_hasNumber_d18 (tgt := 41) rfl (fun h18 => ?_) (fun h18 => ?_)
    · refine zb F_hasNumber_s41 rfl ?_
      refine z_cge F_hasNumber_d44 (tgt := 59) rfl (fun h44 => ?_) (fun h44 => ?_)
      · refine zb F_hasNumber_s59 rfl ?_
        refine z_retZ F_hasNumber_d60 rfl (by first | exact Or.inl rfl | exact Or.inr rfl) ?_
        refine ⟨congrArg (fun z => some (Value.int z)) ?_, rfl⟩
        first
          | exact (zB_t (show isN F n w from Or.inr (Or.inr (And.intro h3 h7)))).symm
          | exact (zB_t (show isN F n w from Or.inl (And.intro (And.intro (Int32.not_lt.mp h22) (zle1 h18)) (zB_ne0.mp h30)))).symm
          | exact (zB_t (show isN F n w from Or.inr (Or.inl (And.intro (And.intro h18 (zle6 h44)) (zB_ne0.mp h52))))).symm
          | (refine (zB_f ?_).symm
             intro z
             rcases z with z | z | z
             · first
                 | exact absurd z.1.1 (Int32.not_le.mpr h22)
                 | exact (show ¬ isB F n from zB_eq0.mp h30) z.2
                 | exact absurd (Int32.le_trans h18 z.1.2) (by decide)
                 | exact absurd (h3 ▸ z.1.2) (by decide)
             · first
                 | exact absurd z.1.1 h18
                 | exact (show ¬ isV F n from zB_eq0.mp h52) z.2
                 | exact absurd (Int32.le_trans h44 z.1.2) (by decide)
                 | exact absurd (h3 ▸ z.1.2) (by decide)
             · first
                 | exact h3 z.1
                 | exact h7 z.2)
      · refine zb F_hasNumber_s47 rfl ?_
        refine zcallV F_hasNumber_d49 k4_58 (by omega) (x_hasVow _ ho) rfl rfl rfl (Nat.le_of_ble_eq_true rfl) ?_
        rintro _ μx ⟨rfl, hx⟩
        rw [hx]
        clear hx μx
        refine z_eq F_hasNumber_d52 (tgt := 59) rfl (fun h52 => ?_) (fun h52 => ?_)
        · refine zb F_hasNumber_s59 rfl ?_
          refine z_retZ F_hasNumber_d60 rfl (by first | exact Or.inl rfl | exact Or.inr rfl) ?_
          refine ⟨congrArg (fun z => some (Value.int z)) ?_, rfl⟩
          first
            | exact (zB_t (show isN F n w from Or.inr (Or.inr (And.intro h3 h7)))).symm
            | exact (zB_t (show isN F n w from Or.inl (And.intro (And.intro (Int32.not_lt.mp h22) (zle1 h18)) (zB_ne0.mp h30)))).symm
            | exact (zB_t (show isN F n w from Or.inr (Or.inl (And.intro (And.intro h18 (zle6 h44)) (zB_ne0.mp h52))))).symm
            | (refine (zB_f ?_).symm
               intro z
               rcases z with z | z | z
               · first
                   | exact absurd z.1.1 (Int32.not_le.mpr h22)
                   | exact (show ¬ isB F n from zB_eq0.mp h30) z.2
                   | exact absurd (Int32.le_trans h18 z.1.2) (by decide)
                   | exact absurd (h3 ▸ z.1.2) (by decide)
               · first
                   | exact absurd z.1.1 h18
                   | exact (show ¬ isV F n from zB_eq0.mp h52) z.2
                   | exact absurd (Int32.le_trans h44 z.1.2) (by decide)
                   | exact absurd (h3 ▸ z.1.2) (by decide)
               · first
                   | exact h3 z.1
                   | exact h7 z.2)
        · refine zb F_hasNumber_s55 rfl ?_
          refine z_retZ F_hasNumber_d60 rfl (by first | exact Or.inl rfl | exact Or.inr rfl) ?_
          refine ⟨congrArg (fun z => some (Value.int z)) ?_, rfl⟩
          first
            | exact (zB_t (show isN F n w from Or.inr (Or.inr (And.intro h3 h7)))).symm
            | exact (zB_t (show isN F n w from Or.inl (And.intro (And.intro (Int32.not_lt.mp h22) (zle1 h18)) (zB_ne0.mp h30)))).symm
            | exact (zB_t (show isN F n w from Or.inr (Or.inl (And.intro (And.intro h18 (zle6 h44)) (zB_ne0.mp h52))))).symm
            | (refine (zB_f ?_).symm
               intro z
               rcases z with z | z | z
               · first
                   | exact absurd z.1.1 (Int32.not_le.mpr h22)
                   | exact (show ¬ isB F n from zB_eq0.mp h30) z.2
                   | exact absurd (Int32.le_trans h18 z.1.2) (by decide)
                   | exact absurd (h3 ▸ z.1.2) (by decide)
               · first
                   | exact absurd z.1.1 h18
                   | exact (show ¬ isV F n from zB_eq0.mp h52) z.2
                   | exact absurd (Int32.le_trans h44 z.1.2) (by decide)
                   | exact absurd (h3 ▸ z.1.2) (by decide)
               · first
                   | exact h3 z.1
                   | exact h7 z.2)
    · refine zb F_hasNumber_s21 rfl ?_
      refine z_lt F_hasNumber_d22 (tgt := 37) rfl (fun h22 => ?_) (fun h22 => ?_)
      · refine zb F_hasNumber_s37 rfl ?_
        refine z_retZ F_hasNumber_d60 rfl (by first | exact Or.inl rfl | exact Or.inr rfl) ?_
        refine ⟨congrArg (fun z => some (Value.int z)) ?_, rfl⟩
        first
          | exact (zB_t (show isN F n w from Or.inr (Or.inr (And.intro h3 h7)))).symm
          | exact (zB_t (show isN F n w from Or.inl (And.intro (And.intro (Int32.not_lt.mp h22) (zle1 h18)) (zB_ne0.mp h30)))).symm
          | exact (zB_t (show isN F n w from Or.inr (Or.inl (And.intro (And.intro h18 (zle6 h44)) (zB_ne0.mp h52))))).symm
          | (refine (zB_f ?_).symm
             intro z
             rcases z with z | z | z
             · first
                 | exact absurd z.1.1 (Int32.not_le.mpr h22)
                 | exact (show ¬ isB F n from zB_eq0.mp h30) z.2
                 | exact absurd (Int32.le_trans h18 z.1.2) (by decide)
                 | exact absurd (h3 ▸ z.1.2) (by decide)
             · first
                 | exact absurd z.1.1 h18
                 | exact (show ¬ isV F n from zB_eq0.mp h52) z.2
                 | exact absurd (Int32.le_trans h44 z.1.2) (by decide)
                 | exact absurd (h3 ▸ z.1.2) (by decide)
             · first
                 | exact h3 z.1
                 | exact h7 z.2)
      · refine zb F_hasNumber_s25 rfl ?_
        refine zcallV F_hasNumber_d27 k4_50 (by omega) (x_hasBell _ ho) rfl rfl rfl (Nat.le_of_ble_eq_true rfl) ?_
        rintro _ μx ⟨rfl, hx⟩
        rw [hx]
        clear hx μx
        refine z_eq F_hasNumber_d30 (tgt := 37) rfl (fun h30 => ?_) (fun h30 => ?_)
        · refine zb F_hasNumber_s37 rfl ?_
          refine z_retZ F_hasNumber_d60 rfl (by first | exact Or.inl rfl | exact Or.inr rfl) ?_
          refine ⟨congrArg (fun z => some (Value.int z)) ?_, rfl⟩
          first
            | exact (zB_t (show isN F n w from Or.inr (Or.inr (And.intro h3 h7)))).symm
            | exact (zB_t (show isN F n w from Or.inl (And.intro (And.intro (Int32.not_lt.mp h22) (zle1 h18)) (zB_ne0.mp h30)))).symm
            | exact (zB_t (show isN F n w from Or.inr (Or.inl (And.intro (And.intro h18 (zle6 h44)) (zB_ne0.mp h52))))).symm
            | (refine (zB_f ?_).symm
               intro z
               rcases z with z | z | z
               · first
                   | exact absurd z.1.1 (Int32.not_le.mpr h22)
                   | exact (show ¬ isB F n from zB_eq0.mp h30) z.2
                   | exact absurd (Int32.le_trans h18 z.1.2) (by decide)
                   | exact absurd (h3 ▸ z.1.2) (by decide)
               · first
                   | exact absurd z.1.1 h18
                   | exact (show ¬ isV F n from zB_eq0.mp h52) z.2
                   | exact absurd (Int32.le_trans h44 z.1.2) (by decide)
                   | exact absurd (h3 ▸ z.1.2) (by decide)
               · first
                   | exact h3 z.1
                   | exact h7 z.2)
        · refine zb F_hasNumber_s33 rfl ?_
          refine z_retZ F_hasNumber_d60 rfl (by first | exact Or.inl rfl | exact Or.inr rfl) ?_
          refine ⟨congrArg (fun z => some (Value.int z)) ?_, rfl⟩
          first
            | exact (zB_t (show isN F n w from Or.inr (Or.inr (And.intro h3 h7)))).symm
            | exact (zB_t (show isN F n w from Or.inl (And.intro (And.intro (Int32.not_lt.mp h22) (zle1 h18)) (zB_ne0.mp h30)))).symm
            | exact (zB_t (show isN F n w from Or.inr (Or.inl (And.intro (And.intro h18 (zle6 h44)) (zB_ne0.mp h52))))).symm
            | (refine (zB_f ?_).symm
               intro z
               rcases z with z | z | z
               · first
                   | exact absurd z.1.1 (Int32.not_le.mpr h22)
                   | exact (show ¬ isB F n from zB_eq0.mp h30) z.2
                   | exact absurd (Int32.le_trans h18 z.1.2) (by decide)
                   | exact absurd (h3 ▸ z.1.2) (by decide)
               · first
                   | exact absurd z.1.1 h18
                   | exact (show ¬ isV F n from zB_eq0.mp h52) z.2
                   | exact absurd (Int32.le_trans h44 z.1.2) (by decide)
                   | exact absurd (h3 ▸ z.1.2) (by decide)
               · first
                   | exact h3 z.1
                   | exact h7 z.2)
  · refine zb F_hasNumber_s6 rfl ?_
    refine z_ne F_hasNumber_d7 (tgt := 14) rfl (fun h7 => ?_) (fun h7 => ?_)
    · refine zb F_hasNumber_s14 rfl ?_
      refine z_retZ F_hasNumber_d15 rfl (by first | exact Or.inl rfl | exact Or.inr rfl) ?_
      refine ⟨congrArg (fun z => some (Value.int z)) ?_, rfl⟩
      first
        | exact (zB_t (show isN F n w from Or.inr (Or.inr (And.intro h3 h7)))).symm
        | exact (zB_t (show isN F n w from Or.inl (And.intro (And.intro (Int32.not_lt.mp h22) (zle1 h18)) (zB_ne0.mp h30)))).symm
        | exact (zB_t (show isN F n w from Or.inr (Or.inl (And.intro (And.intro h18 (zle6 h44)) (zB_ne0.mp h52))))).symm
        | (refine (zB_f ?_).symm
           intro z
           rcases z with z | z | z
           · first
               | exact absurd z.1.1 (Int32.not_le.mpr h22)
               | exact (show ¬ isB F n from zB_eq0.mp h30) z.2
               | exact absurd (Int32.le_trans h18 z.1.2) (by decide)
               | exact absurd (h3 ▸ z.1.2) (by decide)
           · first
               | exact absurd z.1.1 h18
               | exact (show ¬ isV F n from zB_eq0.mp h52) z.2
               | exact absurd (Int32.le_trans h44 z.1.2) (by decide)
               | exact absurd (h3 ▸ z.1.2) (by decide)
           · first
               | exact h3 z.1
               | exact h7 z.2)
    · refine zb F_hasNumber_s10 rfl ?_
      refine z_retZ F_hasNumber_d15 rfl (by first | exact Or.inl rfl | exact Or.inr rfl) ?_
      refine ⟨congrArg (fun z => some (Value.int z)) ?_, rfl⟩
      first
        | exact (zB_t (show isN F n w from Or.inr (Or.inr (And.intro h3 h7)))).symm
        | exact (zB_t (show isN F n w from Or.inl (And.intro (And.intro (Int32.not_lt.mp h22) (zle1 h18)) (zB_ne0.mp h30)))).symm
        | exact (zB_t (show isN F n w from Or.inr (Or.inl (And.intro (And.intro h18 (zle6 h44)) (zB_ne0.mp h52))))).symm
        | (refine (zB_f ?_).symm
           intro z
           rcases z with z | z | z
           · first
               | exact absurd z.1.1 (Int32.not_le.mpr h22)
               | exact (show ¬ isB F n from zB_eq0.mp h30) z.2
               | exact absurd (Int32.le_trans h18 z.1.2) (by decide)
               | exact absurd (h3 ▸ z.1.2) (by decide)
           · first
               | exact absurd z.1.1 h18
               | exact (show ¬ isV F n from zB_eq0.mp h52) z.2
               | exact absurd (Int32.le_trans h44 z.1.2) (by decide)
               | exact absurd (h3 ▸ z.1.2) (by decide)
           · first
               | exact h3 z.1
               | exact h7 z.2)

theorem allow_is {F : zF} (hB : fB F ≤ 6) (v : Int32) : (((0 ≤ v ∧ v ≤ 99) ↔ (leaW 0 ≤ v ∧ v ≤ mosW F 0)) ∧ ((1 ≤ v ∧ v ≤ 24) ↔ (leaW 1 ≤ v ∧ v ≤ mosW F 1)) ∧ ((isB F v) ↔ (leaW 2 ≤ v ∧ v ≤ mosW F 2)) ∧ ((1 ≤ v ∧ v ≤ 9) ↔ (leaW 3 ≤ v ∧ v ≤ mosW F 3)) ∧ ((0 ≤ v ∧ v ≤ 5) ↔ (leaW 4 ≤ v ∧ v ≤ mosW F 4)) ∧ ((0 ≤ v ∧ v ≤ 999) ↔ (leaW 5 ≤ v ∧ v ≤ mosW F 5)) ∧ ((0 ≤ v ∧ v ≤ 999) ↔ (leaW 6 ≤ v ∧ v ≤ mosW F 6)) ∧ ((0 ≤ v ∧ v ≤ 12) ↔ (leaW 7 ≤ v ∧ v ≤ mosW F 7))) := by
  refine ⟨Iff.rfl, Iff.rfl, ?_, Iff.rfl, Iff.rfl, Iff.rfl, Iff.rfl, Iff.rfl⟩
  refine ⟨fun z => ⟨z.1, ?_⟩, fun z => ⟨z.1, ?_⟩⟩
  · show v ≤ nI (fB F) - 1
    rw [Int32.le_iff_toInt_le, show (1 : Int32) = nI 1 from rfl, sub_toInt (by omega) (by omega)]
    have := Int32.lt_iff_toInt_lt.mp z.2
    rw [nI_toInt (by omega)] at this
    omega
  · have z2 : v ≤ nI (fB F) - 1 := z.2
    rw [Int32.le_iff_toInt_le, show (1 : Int32) = nI 1 from rfl, sub_toInt (by omega) (by omega)] at z2
    rw [Int32.lt_iff_toInt_lt, nI_toInt (by omega)]
    omega

set_option maxRecDepth 100000 in
set_option maxHeartbeats 4000000 in
theorem x_allows_0 {g : zG} {d : Nat} {F : zF} {μ : zMem} (v : Int32) (hd : 1 ≤ d) (ho : oX F μ) : zM g d F_allows [.ref 2, .int 0, .int v] μ (fun r μ' => r = some (.int (zB (leaW 0 ≤ v ∧ v ≤ mosW F 0))) ∧ μ' = μ) := by
  refine zM_of (by decide +kernel) rfl rfl (Nat.le_of_ble_eq_true rfl) rfl ?_
  have hal := allow_is ho.b6 v
  refine zb F_allows_s0 rfl ?_
  refine z_tabIn F_allows_d1 (off := 47) (tgt := 48) (by decide) (by decide) (by decide) rfl ?_
  refine zb F_allows_s48 rfl ?_
  refine zcallN F_allows_d51 k4_54 (by omega) (x_isWithin _ _) rfl rfl (Nat.le_of_ble_eq_true rfl) ?_
  rintro _ μx ⟨rfl, hx⟩
  rw [hx]
  clear hx μx
  refine z_retZ F_allows_d54 rfl (zB_01 _) ?_
  exact ⟨congrArg (fun z => some (Value.int z)) (zB_cong hal.1), rfl⟩

set_option maxRecDepth 100000 in
set_option maxHeartbeats 4000000 in
theorem x_allows_1 {g : zG} {d : Nat} {F : zF} {μ : zMem} (v : Int32) (hd : 1 ≤ d) (ho : oX F μ) : zM g d F_allows [.ref 2, .int 1, .int v] μ (fun r μ' => r = some (.int (zB (leaW 1 ≤ v ∧ v ≤ mosW F 1))) ∧ μ' = μ) := by
  refine zM_of (by decide +kernel) rfl rfl (Nat.le_of_ble_eq_true rfl) rfl ?_
  have hal := allow_is ho.b6 v
  refine zb F_allows_s0 rfl ?_
  refine z_tabIn F_allows_d1 (off := 54) (tgt := 55) (by decide) (by decide) (by decide) rfl ?_
  refine zb F_allows_s55 rfl ?_
  refine z_clt F_allows_d57 (tgt := 70) rfl (fun h57 => ?_) (fun h57 => ?_)
  · refine zb F_allows_s70 rfl ?_
    refine z_retZ F_allows_d71 rfl (by first | exact Or.inl rfl | exact Or.inr rfl) ?_
    refine ⟨congrArg (fun z => some (Value.int z)) ?_, rfl⟩
    first
      | exact (zB_t (hal.2.1.mp (And.intro (Int32.not_lt.mp h57) (Int32.not_lt.mp h63)))).symm
      | exact (zB_f (fun z : (leaW 1 ≤ v ∧ v ≤ mosW F 1) => Int32.not_le.mpr (show 24 < v from h63) (hal.2.1.mpr z).2)).symm
      | exact (zB_f (fun z : (leaW 1 ≤ v ∧ v ≤ mosW F 1) => Int32.not_le.mpr (show v < 1 from h57) (hal.2.1.mpr z).1)).symm
  · refine zb F_allows_s60 rfl ?_
    refine z_cgt F_allows_d63 (tgt := 70) rfl (fun h63 => ?_) (fun h63 => ?_)
    · refine zb F_allows_s70 rfl ?_
      refine z_retZ F_allows_d71 rfl (by first | exact Or.inl rfl | exact Or.inr rfl) ?_
      refine ⟨congrArg (fun z => some (Value.int z)) ?_, rfl⟩
      first
        | exact (zB_t (hal.2.1.mp (And.intro (Int32.not_lt.mp h57) (Int32.not_lt.mp h63)))).symm
        | exact (zB_f (fun z : (leaW 1 ≤ v ∧ v ≤ mosW F 1) => Int32.not_le.mpr (show 24 < v from h63) (hal.2.1.mpr z).2)).symm
        | exact (zB_f (fun z : (leaW 1 ≤ v ∧ v ≤ mosW F 1) => Int32.not_le.mpr (show v < 1 from h57) (hal.2.1.mpr z).1)).symm
    · refine zb F_allows_s66 rfl ?_
      refine z_retZ F_allows_d71 rfl (by first | exact Or.inl rfl | exact Or.inr rfl) ?_
      refine ⟨congrArg (fun z => some (Value.int z)) ?_, rfl⟩
      first
        | exact (zB_t (hal.2.1.mp (And.intro (Int32.not_lt.mp h57) (Int32.not_lt.mp h63)))).symm
        | exact (zB_f (fun z : (leaW 1 ≤ v ∧ v ≤ mosW F 1) => Int32.not_le.mpr (show 24 < v from h63) (hal.2.1.mpr z).2)).symm
        | exact (zB_f (fun z : (leaW 1 ≤ v ∧ v ≤ mosW F 1) => Int32.not_le.mpr (show v < 1 from h57) (hal.2.1.mpr z).1)).symm

set_option maxRecDepth 100000 in
set_option maxHeartbeats 4000000 in
theorem x_allows_2 {g : zG} {d : Nat} {F : zF} {μ : zMem} (v : Int32) (hd : 1 ≤ d) (ho : oX F μ) : zM g d F_allows [.ref 2, .int 2, .int v] μ (fun r μ' => r = some (.int (zB (leaW 2 ≤ v ∧ v ≤ mosW F 2))) ∧ μ' = μ) := by
  refine zM_of (by decide +kernel) rfl rfl (Nat.le_of_ble_eq_true rfl) rfl ?_
  have hal := allow_is ho.b6 v
  refine zb F_allows_s0 rfl ?_
  refine z_tabIn F_allows_d1 (off := 71) (tgt := 72) (by decide) (by decide) (by decide) rfl ?_
  refine zb F_allows_s72 rfl ?_
  refine zcallV F_allows_d74 k4_50 (by omega) (x_hasBell _ ho) rfl rfl rfl (Nat.le_of_ble_eq_true rfl) ?_
  rintro _ μx ⟨rfl, hx⟩
  rw [hx]
  clear hx μx
  refine z_retZ F_allows_d77 rfl (zB_01 _) ?_
  exact ⟨congrArg (fun z => some (Value.int z)) (zB_cong hal.2.2.1), rfl⟩

set_option maxRecDepth 100000 in
set_option maxHeartbeats 4000000 in
theorem x_allows_3 {g : zG} {d : Nat} {F : zF} {μ : zMem} (v : Int32) (hd : 1 ≤ d) (ho : oX F μ) : zM g d F_allows [.ref 2, .int 3, .int v] μ (fun r μ' => r = some (.int (zB (leaW 3 ≤ v ∧ v ≤ mosW F 3))) ∧ μ' = μ) := by
  refine zM_of (by decide +kernel) rfl rfl (Nat.le_of_ble_eq_true rfl) rfl ?_
  have hal := allow_is ho.b6 v
  refine zb F_allows_s0 rfl ?_
  refine z_tabIn F_allows_d1 (off := 77) (tgt := 78) (by decide) (by decide) (by decide) rfl ?_
  refine zb F_allows_s78 rfl ?_
  refine z_clt F_allows_d80 (tgt := 93) rfl (fun h80 => ?_) (fun h80 => ?_)
  · refine zb F_allows_s93 rfl ?_
    refine z_retZ F_allows_d94 rfl (by first | exact Or.inl rfl | exact Or.inr rfl) ?_
    refine ⟨congrArg (fun z => some (Value.int z)) ?_, rfl⟩
    first
      | exact (zB_t (hal.2.2.2.1.mp (And.intro (Int32.not_lt.mp h80) (Int32.not_lt.mp h86)))).symm
      | exact (zB_f (fun z : (leaW 3 ≤ v ∧ v ≤ mosW F 3) => Int32.not_le.mpr (show 9 < v from h86) (hal.2.2.2.1.mpr z).2)).symm
      | exact (zB_f (fun z : (leaW 3 ≤ v ∧ v ≤ mosW F 3) => Int32.not_le.mpr (show v < 1 from h80) (hal.2.2.2.1.mpr z).1)).symm
  · refine zb F_allows_s83 rfl ?_
    refine z_cgt F_allows_d86 (tgt := 93) rfl (fun h86 => ?_) (fun h86 => ?_)
    · refine zb F_allows_s93 rfl ?_
      refine z_retZ F_allows_d94 rfl (by first | exact Or.inl rfl | exact Or.inr rfl) ?_
      refine ⟨congrArg (fun z => some (Value.int z)) ?_, rfl⟩
      first
        | exact (zB_t (hal.2.2.2.1.mp (And.intro (Int32.not_lt.mp h80) (Int32.not_lt.mp h86)))).symm
        | exact (zB_f (fun z : (leaW 3 ≤ v ∧ v ≤ mosW F 3) => Int32.not_le.mpr (show 9 < v from h86) (hal.2.2.2.1.mpr z).2)).symm
        | exact (zB_f (fun z : (leaW 3 ≤ v ∧ v ≤ mosW F 3) => Int32.not_le.mpr (show v < 1 from h80) (hal.2.2.2.1.mpr z).1)).symm
    · refine zb F_allows_s89 rfl ?_
      refine z_retZ F_allows_d94 rfl (by first | exact Or.inl rfl | exact Or.inr rfl) ?_
      refine ⟨congrArg (fun z => some (Value.int z)) ?_, rfl⟩
      first
        | exact (zB_t (hal.2.2.2.1.mp (And.intro (Int32.not_lt.mp h80) (Int32.not_lt.mp h86)))).symm
        | exact (zB_f (fun z : (leaW 3 ≤ v ∧ v ≤ mosW F 3) => Int32.not_le.mpr (show 9 < v from h86) (hal.2.2.2.1.mpr z).2)).symm
        | exact (zB_f (fun z : (leaW 3 ≤ v ∧ v ≤ mosW F 3) => Int32.not_le.mpr (show v < 1 from h80) (hal.2.2.2.1.mpr z).1)).symm

set_option maxRecDepth 100000 in
set_option maxHeartbeats 4000000 in
theorem x_allows_4 {g : zG} {d : Nat} {F : zF} {μ : zMem} (v : Int32) (hd : 1 ≤ d) (ho : oX F μ) : zM g d F_allows [.ref 2, .int 4, .int v] μ (fun r μ' => r = some (.int (zB (leaW 4 ≤ v ∧ v ≤ mosW F 4))) ∧ μ' = μ) := by
  refine zM_of (by decide +kernel) rfl rfl (Nat.le_of_ble_eq_true rfl) rfl ?_
  have hal := allow_is ho.b6 v
  refine zb F_allows_s0 rfl ?_
  refine z_tabIn F_allows_d1 (off := 94) (tgt := 95) (by decide) (by decide) (by decide) rfl ?_
  refine zb F_allows_s95 rfl ?_
  refine zcallN F_allows_d97 k4_54 (by omega) (x_isWithin _ _) rfl rfl (Nat.le_of_ble_eq_true rfl) ?_
  rintro _ μx ⟨rfl, hx⟩
  rw [hx]
  clear hx μx
  refine z_retZ F_allows_d100 rfl (zB_01 _) ?_
  exact ⟨congrArg (fun z => some (Value.int z)) (zB_cong hal.2.2.2.2.1), rfl⟩

set_option maxRecDepth 100000 in
set_option maxHeartbeats 4000000 in
theorem x_allows_5 {g : zG} {d : Nat} {F : zF} {μ : zMem} (v : Int32) (hd : 1 ≤ d) (ho : oX F μ) : zM g d F_allows [.ref 2, .int 5, .int v] μ (fun r μ' => r = some (.int (zB (leaW 5 ≤ v ∧ v ≤ mosW F 5))) ∧ μ' = μ) := by
  refine zM_of (by decide +kernel) rfl rfl (Nat.le_of_ble_eq_true rfl) rfl ?_
  have hal := allow_is ho.b6 v
  refine zb F_allows_s0 rfl ?_
  refine z_tabIn F_allows_d1 (off := 100) (tgt := 101) (by decide) (by decide) (by decide) rfl ?_
  refine zb F_allows_s101 rfl ?_
  refine zcallN F_allows_d105 k4_54 (by omega) (x_isWithin _ _) rfl rfl (Nat.le_of_ble_eq_true rfl) ?_
  rintro _ μx ⟨rfl, hx⟩
  rw [hx]
  clear hx μx
  refine z_retZ F_allows_d108 rfl (zB_01 _) ?_
  exact ⟨congrArg (fun z => some (Value.int z)) (zB_cong hal.2.2.2.2.2.1), rfl⟩

set_option maxRecDepth 100000 in
set_option maxHeartbeats 4000000 in
theorem x_allows_6 {g : zG} {d : Nat} {F : zF} {μ : zMem} (v : Int32) (hd : 1 ≤ d) (ho : oX F μ) : zM g d F_allows [.ref 2, .int 6, .int v] μ (fun r μ' => r = some (.int (zB (leaW 6 ≤ v ∧ v ≤ mosW F 6))) ∧ μ' = μ) := by
  refine zM_of (by decide +kernel) rfl rfl (Nat.le_of_ble_eq_true rfl) rfl ?_
  have hal := allow_is ho.b6 v
  refine zb F_allows_s0 rfl ?_
  refine z_tabIn F_allows_d1 (off := 100) (tgt := 101) (by decide) (by decide) (by decide) rfl ?_
  refine zb F_allows_s101 rfl ?_
  refine zcallN F_allows_d105 k4_54 (by omega) (x_isWithin _ _) rfl rfl (Nat.le_of_ble_eq_true rfl) ?_
  rintro _ μx ⟨rfl, hx⟩
  rw [hx]
  clear hx μx
  refine z_retZ F_allows_d108 rfl (zB_01 _) ?_
  exact ⟨congrArg (fun z => some (Value.int z)) (zB_cong hal.2.2.2.2.2.2.1), rfl⟩

set_option maxRecDepth 100000 in
set_option maxHeartbeats 4000000 in
theorem x_allows_7 {g : zG} {d : Nat} {F : zF} {μ : zMem} (v : Int32) (hd : 1 ≤ d) (ho : oX F μ) : zM g d F_allows [.ref 2, .int 7, .int v] μ (fun r μ' => r = some (.int (zB (leaW 7 ≤ v ∧ v ≤ mosW F 7))) ∧ μ' = μ) := by
  refine zM_of (by decide +kernel) rfl rfl (Nat.le_of_ble_eq_true rfl) rfl ?_
  have hal := allow_is ho.b6 v
  refine zb F_allows_s0 rfl ?_
  refine z_tabIn F_allows_d1 (off := 108) (tgt := 109) (by decide) (by decide) (by decide) rfl ?_
  refine zb F_allows_s109 rfl ?_
  refine zcallN F_allows_d112 k4_54 (by omega) (x_isWithin _ _) rfl rfl (Nat.le_of_ble_eq_true rfl) ?_
  rintro _ μx ⟨rfl, hx⟩
  rw [hx]
  clear hx μx
  refine z_retZ F_allows_d115 rfl (zB_01 _) ?_
  exact ⟨congrArg (fun z => some (Value.int z)) (zB_cong hal.2.2.2.2.2.2.2), rfl⟩

theorem x_allows {g : zG} {d : Nat} {F : zF} {μ : zMem} {n w : Int32} (v : Int32) (hd : 1 ≤ d) (hN : isN F n w) (ho : oX F μ) : zM g d F_allows [.ref 2, .int w, .int v] μ (fun r μ' => r = some (.int (zB (leaW w ≤ v ∧ v ≤ mosW F w))) ∧ μ' = μ) := by
  rcases isN_cases hN with rfl | rfl | rfl | rfl | rfl | rfl | rfl | rfl
  · exact x_allows_0 v hd ho
  · exact x_allows_1 v hd ho
  · exact x_allows_2 v hd ho
  · exact x_allows_3 v hd ho
  · exact x_allows_4 v hd ho
  · exact x_allows_5 v hd ho
  · exact x_allows_6 v hd ho
  · exact x_allows_7 v hd ho

set_option maxRecDepth 100000 in
set_option maxHeartbeats 4000000 in
theorem x_rowOf_0 {g : zG} {d : Nat} {μ : zMem} : zM g d F_rowOf [.ref 2, .int 0] μ (fun r μ' => r = some (.ref 54) ∧ μ' = μ) := by
  refine zM_of (by decide +kernel) rfl rfl (Nat.le_of_ble_eq_true rfl) rfl ?_
  refine zb F_rowOf_s0 rfl ?_
  refine z_tabIn F_rowOf_d1 (off := 39) (tgt := 40) (by decide) (by decide) (by decide) rfl ?_
  refine zb F_rowOf_s40 rfl ?_
  refine z_retA F_rowOf_d44 rfl (by first | exact Or.inl ⟨_, rfl⟩ | exact Or.inr ⟨_, rfl⟩) ?_
  exact ⟨rfl, rfl⟩

set_option maxRecDepth 100000 in
set_option maxHeartbeats 4000000 in
theorem x_numberOf_0 {g : zG} {d : Nat} {F : zF} {μ : zMem} {fl n : Int32} (hd : 2 ≤ d) (hN : isN F n 0) (ho : oX F μ) : zM g d F_numberOf [.ref 2, .int n, .int 0] μ (fun r μ' => r = some (.int (rdF F fl n.toNatClampNeg 0)) ∧ μ' = μ) := by
  refine zM_of (by decide +kernel) rfl rfl (Nat.le_of_ble_eq_true rfl) rfl ?_
  refine zb F_numberOf_s0 rfl ?_
  refine zcallV F_numberOf_d3 k4_61 (by omega) (x_hasNumber _ _ (by omega) ho) rfl rfl rfl (Nat.le_of_ble_eq_true rfl) ?_
  rintro _ μx ⟨rfl, hx⟩
  rw [hx]
  clear hx μx
  refine z_ne F_numberOf_d6 (tgt := 11) rfl (fun h6 => ?_) (fun h6 => absurd h6 (by rw [zB_t hN]; decide))
  refine zb F_numberOf_s11 rfl ?_
  refine z_cne F_numberOf_d14 (tgt := 24) rfl (fun h14 => ?_) (fun h14 => absurd h14 (by decide))
  refine zb F_numberOf_s24 rfl ?_
  refine zcallV F_numberOf_d26 k4_64 (by omega) (x_rowOf_0) rfl rfl rfl (Nat.le_of_ble_eq_true rfl) ?_
  rintro _ μx ⟨rfl, hx⟩
  rw [hx]
  clear hx μx
  refine zb1 F_numberOf_s29 rfl (by first | exact (isN_ix hN ho.b6 ho.v12).1 (Or.inl rfl) | exact (isN_ix hN ho.b6 ho.v12).1 (Or.inr rfl) | exact (isN_ix hN ho.b6 ho.v12).2 (by decide) (by decide)) ?_
  refine z_ret F_numberOf_d31 rfl ?_
  rw [ho.e54]
  exact ⟨rfl, rfl⟩

set_option maxRecDepth 100000 in
set_option maxHeartbeats 4000000 in
theorem xs_set_0 {g : zG} {d : Nat} {S : zS} {μ : zMem} {n x : Int32} (hd : 2 ≤ d) (hN : isN S.1 n 0) (hS : xS S μ) : zM g d F_setNumber [.ref 2, .int n, .int 0, .int x] μ (fun r μ' => r = none ∧ xS (wrS S n 0 x) μ' ∧ onlyX μ μ') := by
  refine zM_of (by decide +kernel) rfl rfl (Nat.le_of_ble_eq_true rfl) rfl ?_
  obtain ⟨ho, h2, hT, hC, hD, hI, hA, hH⟩ := hS
  refine zb F_setNumber_s0 rfl ?_
  refine zcallV F_setNumber_d3 k4_61 (by omega) (x_hasNumber _ _ (by omega) ho) rfl rfl rfl (Nat.le_of_ble_eq_true rfl) ?_
  rintro _ μx ⟨rfl, hx⟩
  rw [hx]
  clear hx μx
  refine z_ne F_setNumber_d6 (tgt := 10) rfl (fun h6 => ?_) (fun h6 => absurd h6 (by rw [zB_t hN]; decide))
  refine zb F_setNumber_s10 rfl ?_
  refine z_cne F_setNumber_d13 (tgt := 24) rfl (fun h13 => ?_) (fun h13 => absurd h13 (by decide))
  refine zb F_setNumber_s24 rfl ?_
  refine zcallV F_setNumber_d26 k4_64 (by omega) (x_rowOf_0) rfl rfl rfl (Nat.le_of_ble_eq_true rfl) ?_
  rintro _ μx ⟨rfl, hx⟩
  rw [hx]
  clear hx μx
  refine zb1 F_setNumber_s29 rfl (by first | exact (isN_ix hN ho.b6 ho.v12).1 (Or.inl rfl) | exact (isN_ix hN ho.b6 ho.v12).1 (Or.inr rfl) | exact (isN_ix hN ho.b6 ho.v12).2 (by decide) (by decide)) ?_
  refine z_retV F_setNumber_d32 rfl ?_
  exact ⟨rfl, ⟨ho.w0, h2, hT, hC, hD, hI, hA, (by repeat (first | exact hH | refine xH.put (by decide) ?_))⟩, (by repeat (first | exact onlyX.rf | refine onlyX.put rfl ?_))⟩

set_option maxRecDepth 100000 in
set_option maxHeartbeats 4000000 in
theorem x_rowOf_1 {g : zG} {d : Nat} {μ : zMem} : zM g d F_rowOf [.ref 2, .int 1] μ (fun r μ' => r = some (.ref 55) ∧ μ' = μ) := by
  refine zM_of (by decide +kernel) rfl rfl (Nat.le_of_ble_eq_true rfl) rfl ?_
  refine zb F_rowOf_s0 rfl ?_
  refine z_tabIn F_rowOf_d1 (off := 44) (tgt := 45) (by decide) (by decide) (by decide) rfl ?_
  refine zb F_rowOf_s45 rfl ?_
  refine z_retA F_rowOf_d49 rfl (by first | exact Or.inl ⟨_, rfl⟩ | exact Or.inr ⟨_, rfl⟩) ?_
  exact ⟨rfl, rfl⟩

set_option maxRecDepth 100000 in
set_option maxHeartbeats 4000000 in
theorem x_numberOf_1 {g : zG} {d : Nat} {F : zF} {μ : zMem} {fl n : Int32} (hd : 2 ≤ d) (hN : isN F n 1) (ho : oX F μ) : zM g d F_numberOf [.ref 2, .int n, .int 1] μ (fun r μ' => r = some (.int (rdF F fl n.toNatClampNeg 1)) ∧ μ' = μ) := by
  refine zM_of (by decide +kernel) rfl rfl (Nat.le_of_ble_eq_true rfl) rfl ?_
  refine zb F_numberOf_s0 rfl ?_
  refine zcallV F_numberOf_d3 k4_61 (by omega) (x_hasNumber _ _ (by omega) ho) rfl rfl rfl (Nat.le_of_ble_eq_true rfl) ?_
  rintro _ μx ⟨rfl, hx⟩
  rw [hx]
  clear hx μx
  refine z_ne F_numberOf_d6 (tgt := 11) rfl (fun h6 => ?_) (fun h6 => absurd h6 (by rw [zB_t hN]; decide))
  refine zb F_numberOf_s11 rfl ?_
  refine z_cne F_numberOf_d14 (tgt := 24) rfl (fun h14 => ?_) (fun h14 => absurd h14 (by decide))
  refine zb F_numberOf_s24 rfl ?_
  refine zcallV F_numberOf_d26 k4_64 (by omega) (x_rowOf_1) rfl rfl rfl (Nat.le_of_ble_eq_true rfl) ?_
  rintro _ μx ⟨rfl, hx⟩
  rw [hx]
  clear hx μx
  refine zb1 F_numberOf_s29 rfl (by first | exact (isN_ix hN ho.b6 ho.v12).1 (Or.inl rfl) | exact (isN_ix hN ho.b6 ho.v12).1 (Or.inr rfl) | exact (isN_ix hN ho.b6 ho.v12).2 (by decide) (by decide)) ?_
  refine z_ret F_numberOf_d31 rfl ?_
  rw [ho.e55]
  exact ⟨rfl, rfl⟩

set_option maxRecDepth 100000 in
set_option maxHeartbeats 4000000 in
theorem xs_set_1 {g : zG} {d : Nat} {S : zS} {μ : zMem} {n x : Int32} (hd : 2 ≤ d) (hN : isN S.1 n 1) (hS : xS S μ) : zM g d F_setNumber [.ref 2, .int n, .int 1, .int x] μ (fun r μ' => r = none ∧ xS (wrS S n 1 x) μ' ∧ onlyX μ μ') := by
  refine zM_of (by decide +kernel) rfl rfl (Nat.le_of_ble_eq_true rfl) rfl ?_
  obtain ⟨ho, h2, hT, hC, hD, hI, hA, hH⟩ := hS
  refine zb F_setNumber_s0 rfl ?_
  refine zcallV F_setNumber_d3 k4_61 (by omega) (x_hasNumber _ _ (by omega) ho) rfl rfl rfl (Nat.le_of_ble_eq_true rfl) ?_
  rintro _ μx ⟨rfl, hx⟩
  rw [hx]
  clear hx μx
  refine z_ne F_setNumber_d6 (tgt := 10) rfl (fun h6 => ?_) (fun h6 => absurd h6 (by rw [zB_t hN]; decide))
  refine zb F_setNumber_s10 rfl ?_
  refine z_cne F_setNumber_d13 (tgt := 24) rfl (fun h13 => ?_) (fun h13 => absurd h13 (by decide))
  refine zb F_setNumber_s24 rfl ?_
  refine zcallV F_setNumber_d26 k4_64 (by omega) (x_rowOf_1) rfl rfl rfl (Nat.le_of_ble_eq_true rfl) ?_
  rintro _ μx ⟨rfl, hx⟩
  rw [hx]
  clear hx μx
  refine zb1 F_setNumber_s29 rfl (by first | exact (isN_ix hN ho.b6 ho.v12).1 (Or.inl rfl) | exact (isN_ix hN ho.b6 ho.v12).1 (Or.inr rfl) | exact (isN_ix hN ho.b6 ho.v12).2 (by decide) (by decide)) ?_
  refine z_retV F_setNumber_d32 rfl ?_
  exact ⟨rfl, ⟨ho.w1, h2, hT, hC, hD, hI, hA, (by repeat (first | exact hH | refine xH.put (by decide) ?_))⟩, (by repeat (first | exact onlyX.rf | refine onlyX.put rfl ?_))⟩

set_option maxRecDepth 100000 in
set_option maxHeartbeats 4000000 in
theorem x_rowOf_2 {g : zG} {d : Nat} {μ : zMem} : zM g d F_rowOf [.ref 2, .int 2] μ (fun r μ' => r = some (.ref 56) ∧ μ' = μ) := by
  refine zM_of (by decide +kernel) rfl rfl (Nat.le_of_ble_eq_true rfl) rfl ?_
  refine zb F_rowOf_s0 rfl ?_
  refine z_tabIn F_rowOf_d1 (off := 49) (tgt := 50) (by decide) (by decide) (by decide) rfl ?_
  refine zb F_rowOf_s50 rfl ?_
  refine z_retA F_rowOf_d54 rfl (by first | exact Or.inl ⟨_, rfl⟩ | exact Or.inr ⟨_, rfl⟩) ?_
  exact ⟨rfl, rfl⟩

set_option maxRecDepth 100000 in
set_option maxHeartbeats 4000000 in
theorem x_numberOf_2 {g : zG} {d : Nat} {F : zF} {μ : zMem} {fl n : Int32} (hd : 2 ≤ d) (hN : isN F n 2) (ho : oX F μ) : zM g d F_numberOf [.ref 2, .int n, .int 2] μ (fun r μ' => r = some (.int (rdF F fl n.toNatClampNeg 2)) ∧ μ' = μ) := by
  refine zM_of (by decide +kernel) rfl rfl (Nat.le_of_ble_eq_true rfl) rfl ?_
  refine zb F_numberOf_s0 rfl ?_
  refine zcallV F_numberOf_d3 k4_61 (by omega) (x_hasNumber _ _ (by omega) ho) rfl rfl rfl (Nat.le_of_ble_eq_true rfl) ?_
  rintro _ μx ⟨rfl, hx⟩
  rw [hx]
  clear hx μx
  refine z_ne F_numberOf_d6 (tgt := 11) rfl (fun h6 => ?_) (fun h6 => absurd h6 (by rw [zB_t hN]; decide))
  refine zb F_numberOf_s11 rfl ?_
  refine z_cne F_numberOf_d14 (tgt := 24) rfl (fun h14 => ?_) (fun h14 => absurd h14 (by decide))
  refine zb F_numberOf_s24 rfl ?_
  refine zcallV F_numberOf_d26 k4_64 (by omega) (x_rowOf_2) rfl rfl rfl (Nat.le_of_ble_eq_true rfl) ?_
  rintro _ μx ⟨rfl, hx⟩
  rw [hx]
  clear hx μx
  refine zb1 F_numberOf_s29 rfl (by first | exact (isN_ix hN ho.b6 ho.v12).1 (Or.inl rfl) | exact (isN_ix hN ho.b6 ho.v12).1 (Or.inr rfl) | exact (isN_ix hN ho.b6 ho.v12).2 (by decide) (by decide)) ?_
  refine z_ret F_numberOf_d31 rfl ?_
  rw [ho.e56]
  exact ⟨rfl, rfl⟩

set_option maxRecDepth 100000 in
set_option maxHeartbeats 4000000 in
theorem xs_set_2 {g : zG} {d : Nat} {S : zS} {μ : zMem} {n x : Int32} (hd : 2 ≤ d) (hN : isN S.1 n 2) (hS : xS S μ) : zM g d F_setNumber [.ref 2, .int n, .int 2, .int x] μ (fun r μ' => r = none ∧ xS (wrS S n 2 x) μ' ∧ onlyX μ μ') := by
  refine zM_of (by decide +kernel) rfl rfl (Nat.le_of_ble_eq_true rfl) rfl ?_
  obtain ⟨ho, h2, hT, hC, hD, hI, hA, hH⟩ := hS
  refine zb F_setNumber_s0 rfl ?_
  refine zcallV F_setNumber_d3 k4_61 (by omega) (x_hasNumber _ _ (by omega) ho) rfl rfl rfl (Nat.le_of_ble_eq_true rfl) ?_
  rintro _ μx ⟨rfl, hx⟩
  rw [hx]
  clear hx μx
  refine z_ne F_setNumber_d6 (tgt := 10) rfl (fun h6 => ?_) (fun h6 => absurd h6 (by rw [zB_t hN]; decide))
  refine zb F_setNumber_s10 rfl ?_
  refine z_cne F_setNumber_d13 (tgt := 24) rfl (fun h13 => ?_) (fun h13 => absurd h13 (by decide))
  refine zb F_setNumber_s24 rfl ?_
  refine zcallV F_setNumber_d26 k4_64 (by omega) (x_rowOf_2) rfl rfl rfl (Nat.le_of_ble_eq_true rfl) ?_
  rintro _ μx ⟨rfl, hx⟩
  rw [hx]
  clear hx μx
  refine zb1 F_setNumber_s29 rfl (by first | exact (isN_ix hN ho.b6 ho.v12).1 (Or.inl rfl) | exact (isN_ix hN ho.b6 ho.v12).1 (Or.inr rfl) | exact (isN_ix hN ho.b6 ho.v12).2 (by decide) (by decide)) ?_
  refine z_retV F_setNumber_d32 rfl ?_
  exact ⟨rfl, ⟨ho.w2, h2, hT, hC, hD, hI, hA, (by repeat (first | exact hH | refine xH.put (by decide) ?_))⟩, (by repeat (first | exact onlyX.rf | refine onlyX.put rfl ?_))⟩

set_option maxRecDepth 100000 in
set_option maxHeartbeats 4000000 in
theorem x_rowOf_3 {g : zG} {d : Nat} {μ : zMem} : zM g d F_rowOf [.ref 2, .int 3] μ (fun r μ' => r = some (.ref 57) ∧ μ' = μ) := by
  refine zM_of (by decide +kernel) rfl rfl (Nat.le_of_ble_eq_true rfl) rfl ?_
  refine zb F_rowOf_s0 rfl ?_
  refine z_tabIn F_rowOf_d1 (off := 54) (tgt := 55) (by decide) (by decide) (by decide) rfl ?_
  refine zb F_rowOf_s55 rfl ?_
  refine z_retA F_rowOf_d59 rfl (by first | exact Or.inl ⟨_, rfl⟩ | exact Or.inr ⟨_, rfl⟩) ?_
  exact ⟨rfl, rfl⟩

set_option maxRecDepth 100000 in
set_option maxHeartbeats 4000000 in
theorem x_numberOf_3 {g : zG} {d : Nat} {F : zF} {μ : zMem} {fl n : Int32} (hd : 2 ≤ d) (hN : isN F n 3) (ho : oX F μ) : zM g d F_numberOf [.ref 2, .int n, .int 3] μ (fun r μ' => r = some (.int (rdF F fl n.toNatClampNeg 3)) ∧ μ' = μ) := by
  refine zM_of (by decide +kernel) rfl rfl (Nat.le_of_ble_eq_true rfl) rfl ?_
  refine zb F_numberOf_s0 rfl ?_
  refine zcallV F_numberOf_d3 k4_61 (by omega) (x_hasNumber _ _ (by omega) ho) rfl rfl rfl (Nat.le_of_ble_eq_true rfl) ?_
  rintro _ μx ⟨rfl, hx⟩
  rw [hx]
  clear hx μx
  refine z_ne F_numberOf_d6 (tgt := 11) rfl (fun h6 => ?_) (fun h6 => absurd h6 (by rw [zB_t hN]; decide))
  refine zb F_numberOf_s11 rfl ?_
  refine z_cne F_numberOf_d14 (tgt := 24) rfl (fun h14 => ?_) (fun h14 => absurd h14 (by decide))
  refine zb F_numberOf_s24 rfl ?_
  refine zcallV F_numberOf_d26 k4_64 (by omega) (x_rowOf_3) rfl rfl rfl (Nat.le_of_ble_eq_true rfl) ?_
  rintro _ μx ⟨rfl, hx⟩
  rw [hx]
  clear hx μx
  refine zb1 F_numberOf_s29 rfl (by first | exact (isN_ix hN ho.b6 ho.v12).1 (Or.inl rfl) | exact (isN_ix hN ho.b6 ho.v12).1 (Or.inr rfl) | exact (isN_ix hN ho.b6 ho.v12).2 (by decide) (by decide)) ?_
  refine z_ret F_numberOf_d31 rfl ?_
  rw [ho.e57]
  exact ⟨rfl, rfl⟩

set_option maxRecDepth 100000 in
set_option maxHeartbeats 4000000 in
theorem xs_set_3 {g : zG} {d : Nat} {S : zS} {μ : zMem} {n x : Int32} (hd : 2 ≤ d) (hN : isN S.1 n 3) (hS : xS S μ) : zM g d F_setNumber [.ref 2, .int n, .int 3, .int x] μ (fun r μ' => r = none ∧ xS (wrS S n 3 x) μ' ∧ onlyX μ μ') := by
  refine zM_of (by decide +kernel) rfl rfl (Nat.le_of_ble_eq_true rfl) rfl ?_
  obtain ⟨ho, h2, hT, hC, hD, hI, hA, hH⟩ := hS
  refine zb F_setNumber_s0 rfl ?_
  refine zcallV F_setNumber_d3 k4_61 (by omega) (x_hasNumber _ _ (by omega) ho) rfl rfl rfl (Nat.le_of_ble_eq_true rfl) ?_
  rintro _ μx ⟨rfl, hx⟩
  rw [hx]
  clear hx μx
  refine z_ne F_setNumber_d6 (tgt := 10) rfl (fun h6 => ?_) (fun h6 => absurd h6 (by rw [zB_t hN]; decide))
  refine zb F_setNumber_s10 rfl ?_
  refine z_cne F_setNumber_d13 (tgt := 24) rfl (fun h13 => ?_) (fun h13 => absurd h13 (by decide))
  refine zb F_setNumber_s24 rfl ?_
  refine zcallV F_setNumber_d26 k4_64 (by omega) (x_rowOf_3) rfl rfl rfl (Nat.le_of_ble_eq_true rfl) ?_
  rintro _ μx ⟨rfl, hx⟩
  rw [hx]
  clear hx μx
  refine zb1 F_setNumber_s29 rfl (by first | exact (isN_ix hN ho.b6 ho.v12).1 (Or.inl rfl) | exact (isN_ix hN ho.b6 ho.v12).1 (Or.inr rfl) | exact (isN_ix hN ho.b6 ho.v12).2 (by decide) (by decide)) ?_
  refine z_retV F_setNumber_d32 rfl ?_
  exact ⟨rfl, ⟨ho.w3, h2, hT, hC, hD, hI, hA, (by repeat (first | exact hH | refine xH.put (by decide) ?_))⟩, (by repeat (first | exact onlyX.rf | refine onlyX.put rfl ?_))⟩

set_option maxRecDepth 100000 in
set_option maxHeartbeats 4000000 in
theorem x_rowOf_4 {g : zG} {d : Nat} {μ : zMem} : zM g d F_rowOf [.ref 2, .int 4] μ (fun r μ' => r = some (.ref 58) ∧ μ' = μ) := by
  refine zM_of (by decide +kernel) rfl rfl (Nat.le_of_ble_eq_true rfl) rfl ?_
  refine zb F_rowOf_s0 rfl ?_
  refine z_tabIn F_rowOf_d1 (off := 59) (tgt := 60) (by decide) (by decide) (by decide) rfl ?_
  refine zb F_rowOf_s60 rfl ?_
  refine z_retA F_rowOf_d64 rfl (by first | exact Or.inl ⟨_, rfl⟩ | exact Or.inr ⟨_, rfl⟩) ?_
  exact ⟨rfl, rfl⟩

set_option maxRecDepth 100000 in
set_option maxHeartbeats 4000000 in
theorem x_numberOf_4 {g : zG} {d : Nat} {F : zF} {μ : zMem} {fl n : Int32} (hd : 2 ≤ d) (hN : isN F n 4) (ho : oX F μ) : zM g d F_numberOf [.ref 2, .int n, .int 4] μ (fun r μ' => r = some (.int (rdF F fl n.toNatClampNeg 4)) ∧ μ' = μ) := by
  refine zM_of (by decide +kernel) rfl rfl (Nat.le_of_ble_eq_true rfl) rfl ?_
  refine zb F_numberOf_s0 rfl ?_
  refine zcallV F_numberOf_d3 k4_61 (by omega) (x_hasNumber _ _ (by omega) ho) rfl rfl rfl (Nat.le_of_ble_eq_true rfl) ?_
  rintro _ μx ⟨rfl, hx⟩
  rw [hx]
  clear hx μx
  refine z_ne F_numberOf_d6 (tgt := 11) rfl (fun h6 => ?_) (fun h6 => absurd h6 (by rw [zB_t hN]; decide))
  refine zb F_numberOf_s11 rfl ?_
  refine z_cne F_numberOf_d14 (tgt := 24) rfl (fun h14 => ?_) (fun h14 => absurd h14 (by decide))
  refine zb F_numberOf_s24 rfl ?_
  refine zcallV F_numberOf_d26 k4_64 (by omega) (x_rowOf_4) rfl rfl rfl (Nat.le_of_ble_eq_true rfl) ?_
  rintro _ μx ⟨rfl, hx⟩
  rw [hx]
  clear hx μx
  refine zb1 F_numberOf_s29 rfl (by first | exact (isN_ix hN ho.b6 ho.v12).1 (Or.inl rfl) | exact (isN_ix hN ho.b6 ho.v12).1 (Or.inr rfl) | exact (isN_ix hN ho.b6 ho.v12).2 (by decide) (by decide)) ?_
  refine z_ret F_numberOf_d31 rfl ?_
  rw [ho.e58]
  exact ⟨rfl, rfl⟩

set_option maxRecDepth 100000 in
set_option maxHeartbeats 4000000 in
theorem xs_set_4 {g : zG} {d : Nat} {S : zS} {μ : zMem} {n x : Int32} (hd : 2 ≤ d) (hN : isN S.1 n 4) (hS : xS S μ) : zM g d F_setNumber [.ref 2, .int n, .int 4, .int x] μ (fun r μ' => r = none ∧ xS (wrS S n 4 x) μ' ∧ onlyX μ μ') := by
  refine zM_of (by decide +kernel) rfl rfl (Nat.le_of_ble_eq_true rfl) rfl ?_
  obtain ⟨ho, h2, hT, hC, hD, hI, hA, hH⟩ := hS
  refine zb F_setNumber_s0 rfl ?_
  refine zcallV F_setNumber_d3 k4_61 (by omega) (x_hasNumber _ _ (by omega) ho) rfl rfl rfl (Nat.le_of_ble_eq_true rfl) ?_
  rintro _ μx ⟨rfl, hx⟩
  rw [hx]
  clear hx μx
  refine z_ne F_setNumber_d6 (tgt := 10) rfl (fun h6 => ?_) (fun h6 => absurd h6 (by rw [zB_t hN]; decide))
  refine zb F_setNumber_s10 rfl ?_
  refine z_cne F_setNumber_d13 (tgt := 24) rfl (fun h13 => ?_) (fun h13 => absurd h13 (by decide))
  refine zb F_setNumber_s24 rfl ?_
  refine zcallV F_setNumber_d26 k4_64 (by omega) (x_rowOf_4) rfl rfl rfl (Nat.le_of_ble_eq_true rfl) ?_
  rintro _ μx ⟨rfl, hx⟩
  rw [hx]
  clear hx μx
  refine zb1 F_setNumber_s29 rfl (by first | exact (isN_ix hN ho.b6 ho.v12).1 (Or.inl rfl) | exact (isN_ix hN ho.b6 ho.v12).1 (Or.inr rfl) | exact (isN_ix hN ho.b6 ho.v12).2 (by decide) (by decide)) ?_
  refine z_retV F_setNumber_d32 rfl ?_
  exact ⟨rfl, ⟨ho.w4, h2, hT, hC, hD, hI, hA, (by repeat (first | exact hH | refine xH.put (by decide) ?_))⟩, (by repeat (first | exact onlyX.rf | refine onlyX.put rfl ?_))⟩

set_option maxRecDepth 100000 in
set_option maxHeartbeats 4000000 in
theorem x_rowOf_5 {g : zG} {d : Nat} {μ : zMem} : zM g d F_rowOf [.ref 2, .int 5] μ (fun r μ' => r = some (.ref 59) ∧ μ' = μ) := by
  refine zM_of (by decide +kernel) rfl rfl (Nat.le_of_ble_eq_true rfl) rfl ?_
  refine zb F_rowOf_s0 rfl ?_
  refine z_tabIn F_rowOf_d1 (off := 64) (tgt := 65) (by decide) (by decide) (by decide) rfl ?_
  refine zb F_rowOf_s65 rfl ?_
  refine z_retA F_rowOf_d69 rfl (by first | exact Or.inl ⟨_, rfl⟩ | exact Or.inr ⟨_, rfl⟩) ?_
  exact ⟨rfl, rfl⟩

set_option maxRecDepth 100000 in
set_option maxHeartbeats 4000000 in
theorem x_numberOf_5 {g : zG} {d : Nat} {F : zF} {μ : zMem} {fl n : Int32} (hd : 2 ≤ d) (hN : isN F n 5) (ho : oX F μ) : zM g d F_numberOf [.ref 2, .int n, .int 5] μ (fun r μ' => r = some (.int (rdF F fl n.toNatClampNeg 5)) ∧ μ' = μ) := by
  refine zM_of (by decide +kernel) rfl rfl (Nat.le_of_ble_eq_true rfl) rfl ?_
  refine zb F_numberOf_s0 rfl ?_
  refine zcallV F_numberOf_d3 k4_61 (by omega) (x_hasNumber _ _ (by omega) ho) rfl rfl rfl (Nat.le_of_ble_eq_true rfl) ?_
  rintro _ μx ⟨rfl, hx⟩
  rw [hx]
  clear hx μx
  refine z_ne F_numberOf_d6 (tgt := 11) rfl (fun h6 => ?_) (fun h6 => absurd h6 (by rw [zB_t hN]; decide))
  refine zb F_numberOf_s11 rfl ?_
  refine z_cne F_numberOf_d14 (tgt := 24) rfl (fun h14 => ?_) (fun h14 => absurd h14 (by decide))
  refine zb F_numberOf_s24 rfl ?_
  refine zcallV F_numberOf_d26 k4_64 (by omega) (x_rowOf_5) rfl rfl rfl (Nat.le_of_ble_eq_true rfl) ?_
  rintro _ μx ⟨rfl, hx⟩
  rw [hx]
  clear hx μx
  refine zb1 F_numberOf_s29 rfl (by first | exact (isN_ix hN ho.b6 ho.v12).1 (Or.inl rfl) | exact (isN_ix hN ho.b6 ho.v12).1 (Or.inr rfl) | exact (isN_ix hN ho.b6 ho.v12).2 (by decide) (by decide)) ?_
  refine z_ret F_numberOf_d31 rfl ?_
  rw [ho.e59]
  exact ⟨rfl, rfl⟩

set_option maxRecDepth 100000 in
set_option maxHeartbeats 4000000 in
theorem xs_set_5 {g : zG} {d : Nat} {S : zS} {μ : zMem} {n x : Int32} (hd : 2 ≤ d) (hN : isN S.1 n 5) (hS : xS S μ) : zM g d F_setNumber [.ref 2, .int n, .int 5, .int x] μ (fun r μ' => r = none ∧ xS (wrS S n 5 x) μ' ∧ onlyX μ μ') := by
  refine zM_of (by decide +kernel) rfl rfl (Nat.le_of_ble_eq_true rfl) rfl ?_
  obtain ⟨ho, h2, hT, hC, hD, hI, hA, hH⟩ := hS
  refine zb F_setNumber_s0 rfl ?_
  refine zcallV F_setNumber_d3 k4_61 (by omega) (x_hasNumber _ _ (by omega) ho) rfl rfl rfl (Nat.le_of_ble_eq_true rfl) ?_
  rintro _ μx ⟨rfl, hx⟩
  rw [hx]
  clear hx μx
  refine z_ne F_setNumber_d6 (tgt := 10) rfl (fun h6 => ?_) (fun h6 => absurd h6 (by rw [zB_t hN]; decide))
  refine zb F_setNumber_s10 rfl ?_
  refine z_cne F_setNumber_d13 (tgt := 24) rfl (fun h13 => ?_) (fun h13 => absurd h13 (by decide))
  refine zb F_setNumber_s24 rfl ?_
  refine zcallV F_setNumber_d26 k4_64 (by omega) (x_rowOf_5) rfl rfl rfl (Nat.le_of_ble_eq_true rfl) ?_
  rintro _ μx ⟨rfl, hx⟩
  rw [hx]
  clear hx μx
  refine zb1 F_setNumber_s29 rfl (by first | exact (isN_ix hN ho.b6 ho.v12).1 (Or.inl rfl) | exact (isN_ix hN ho.b6 ho.v12).1 (Or.inr rfl) | exact (isN_ix hN ho.b6 ho.v12).2 (by decide) (by decide)) ?_
  refine z_retV F_setNumber_d32 rfl ?_
  exact ⟨rfl, ⟨ho.w5, h2, hT, hC, hD, hI, hA, (by repeat (first | exact hH | refine xH.put (by decide) ?_))⟩, (by repeat (first | exact onlyX.rf | refine onlyX.put rfl ?_))⟩

set_option maxRecDepth 100000 in
set_option maxHeartbeats 4000000 in
theorem x_rowOf_6 {g : zG} {d : Nat} {μ : zMem} : zM g d F_rowOf [.ref 2, .int 6] μ (fun r μ' => r = some (.ref 60) ∧ μ' = μ) := by
  refine zM_of (by decide +kernel) rfl rfl (Nat.le_of_ble_eq_true rfl) rfl ?_
  refine zb F_rowOf_s0 rfl ?_
  refine z_tabOut F_rowOf_d1 (tgt := 70) (Or.inr (by decide)) rfl ?_
  refine zb F_rowOf_s70 rfl ?_
  refine z_retA F_rowOf_d74 rfl (by first | exact Or.inl ⟨_, rfl⟩ | exact Or.inr ⟨_, rfl⟩) ?_
  exact ⟨rfl, rfl⟩

set_option maxRecDepth 100000 in
set_option maxHeartbeats 4000000 in
theorem x_numberOf_6 {g : zG} {d : Nat} {F : zF} {μ : zMem} {fl n : Int32} (hd : 2 ≤ d) (hN : isN F n 6) (ho : oX F μ) : zM g d F_numberOf [.ref 2, .int n, .int 6] μ (fun r μ' => r = some (.int (rdF F fl n.toNatClampNeg 6)) ∧ μ' = μ) := by
  refine zM_of (by decide +kernel) rfl rfl (Nat.le_of_ble_eq_true rfl) rfl ?_
  refine zb F_numberOf_s0 rfl ?_
  refine zcallV F_numberOf_d3 k4_61 (by omega) (x_hasNumber _ _ (by omega) ho) rfl rfl rfl (Nat.le_of_ble_eq_true rfl) ?_
  rintro _ μx ⟨rfl, hx⟩
  rw [hx]
  clear hx μx
  refine z_ne F_numberOf_d6 (tgt := 11) rfl (fun h6 => ?_) (fun h6 => absurd h6 (by rw [zB_t hN]; decide))
  refine zb F_numberOf_s11 rfl ?_
  refine z_cne F_numberOf_d14 (tgt := 24) rfl (fun h14 => ?_) (fun h14 => absurd h14 (by decide))
  refine zb F_numberOf_s24 rfl ?_
  refine zcallV F_numberOf_d26 k4_64 (by omega) (x_rowOf_6) rfl rfl rfl (Nat.le_of_ble_eq_true rfl) ?_
  rintro _ μx ⟨rfl, hx⟩
  rw [hx]
  clear hx μx
  refine zb1 F_numberOf_s29 rfl (by first | exact (isN_ix hN ho.b6 ho.v12).1 (Or.inl rfl) | exact (isN_ix hN ho.b6 ho.v12).1 (Or.inr rfl) | exact (isN_ix hN ho.b6 ho.v12).2 (by decide) (by decide)) ?_
  refine z_ret F_numberOf_d31 rfl ?_
  rw [ho.e60]
  exact ⟨rfl, rfl⟩

set_option maxRecDepth 100000 in
set_option maxHeartbeats 4000000 in
theorem xs_set_6 {g : zG} {d : Nat} {S : zS} {μ : zMem} {n x : Int32} (hd : 2 ≤ d) (hN : isN S.1 n 6) (hS : xS S μ) : zM g d F_setNumber [.ref 2, .int n, .int 6, .int x] μ (fun r μ' => r = none ∧ xS (wrS S n 6 x) μ' ∧ onlyX μ μ') := by
  refine zM_of (by decide +kernel) rfl rfl (Nat.le_of_ble_eq_true rfl) rfl ?_
  obtain ⟨ho, h2, hT, hC, hD, hI, hA, hH⟩ := hS
  refine zb F_setNumber_s0 rfl ?_
  refine zcallV F_setNumber_d3 k4_61 (by omega) (x_hasNumber _ _ (by omega) ho) rfl rfl rfl (Nat.le_of_ble_eq_true rfl) ?_
  rintro _ μx ⟨rfl, hx⟩
  rw [hx]
  clear hx μx
  refine z_ne F_setNumber_d6 (tgt := 10) rfl (fun h6 => ?_) (fun h6 => absurd h6 (by rw [zB_t hN]; decide))
  refine zb F_setNumber_s10 rfl ?_
  refine z_cne F_setNumber_d13 (tgt := 24) rfl (fun h13 => ?_) (fun h13 => absurd h13 (by decide))
  refine zb F_setNumber_s24 rfl ?_
  refine zcallV F_setNumber_d26 k4_64 (by omega) (x_rowOf_6) rfl rfl rfl (Nat.le_of_ble_eq_true rfl) ?_
  rintro _ μx ⟨rfl, hx⟩
  rw [hx]
  clear hx μx
  refine zb1 F_setNumber_s29 rfl (by first | exact (isN_ix hN ho.b6 ho.v12).1 (Or.inl rfl) | exact (isN_ix hN ho.b6 ho.v12).1 (Or.inr rfl) | exact (isN_ix hN ho.b6 ho.v12).2 (by decide) (by decide)) ?_
  refine z_retV F_setNumber_d32 rfl ?_
  exact ⟨rfl, ⟨ho.w6, h2, hT, hC, hD, hI, hA, (by repeat (first | exact hH | refine xH.put (by decide) ?_))⟩, (by repeat (first | exact onlyX.rf | refine onlyX.put rfl ?_))⟩

set_option maxRecDepth 100000 in
set_option maxHeartbeats 4000000 in
theorem x_numberOf_7 {g : zG} {d : Nat} {F : zF} {μ : zMem} {fl n : Int32} (hd : 2 ≤ d) (hN : isN F n 7) (hfl : μ.1 2 9 = fl) (ho : oX F μ) : zM g d F_numberOf [.ref 2, .int n, .int 7] μ (fun r μ' => r = some (.int (rdF F fl n.toNatClampNeg 7)) ∧ μ' = μ) := by
  refine zM_of (by decide +kernel) rfl rfl (Nat.le_of_ble_eq_true rfl) rfl ?_
  refine zb F_numberOf_s0 rfl ?_
  refine zcallV F_numberOf_d3 k4_61 (by omega) (x_hasNumber _ _ (by omega) ho) rfl rfl rfl (Nat.le_of_ble_eq_true rfl) ?_
  rintro _ μx ⟨rfl, hx⟩
  rw [hx]
  clear hx μx
  refine z_ne F_numberOf_d6 (tgt := 11) rfl (fun h6 => ?_) (fun h6 => absurd h6 (by rw [zB_t hN]; decide))
  refine zb F_numberOf_s11 rfl ?_
  refine z_cne F_numberOf_d14 (tgt := 24) rfl (fun h14 => absurd rfl h14) (fun h14 => ?_)
  refine zb F_numberOf_s17 rfl ?_
  refine z_ret F_numberOf_d31 rfl ?_
  rw [hfl]
  exact ⟨rfl, rfl⟩

set_option maxRecDepth 100000 in
set_option maxHeartbeats 4000000 in
theorem xs_set_7 {g : zG} {d : Nat} {S : zS} {μ : zMem} {n x : Int32} (hd : 2 ≤ d) (hN : isN S.1 n 7) (hS : xS S μ) : zM g d F_setNumber [.ref 2, .int n, .int 7, .int x] μ (fun r μ' => r = none ∧ xS (wrS S n 7 x) μ' ∧ onlyX μ μ') := by
  refine zM_of (by decide +kernel) rfl rfl (Nat.le_of_ble_eq_true rfl) rfl ?_
  obtain ⟨ho, h2, hT, hC, hD, hI, hA, hH⟩ := hS
  refine zb F_setNumber_s0 rfl ?_
  refine zcallV F_setNumber_d3 k4_61 (by omega) (x_hasNumber _ _ (by omega) ho) rfl rfl rfl (Nat.le_of_ble_eq_true rfl) ?_
  rintro _ μx ⟨rfl, hx⟩
  rw [hx]
  clear hx μx
  refine z_ne F_setNumber_d6 (tgt := 10) rfl (fun h6 => ?_) (fun h6 => absurd h6 (by rw [zB_t hN]; decide))
  refine zb F_setNumber_s10 rfl ?_
  refine z_cne F_setNumber_d13 (tgt := 24) rfl (fun h13 => absurd rfl h13) (fun h13 => ?_)
  refine zb F_setNumber_s16 rfl ?_
  refine z_retV F_setNumber_d32 rfl ?_
  exact ⟨rfl, ⟨⟨ho.1, ho.2.1, ho.2.2⟩, ⟨rfl, h2.2⟩, hT, hC, hD, hI, hA, (by repeat (first | exact hH | refine xH.put (by decide) ?_))⟩, (by repeat (first | exact onlyX.rf | refine onlyX.put rfl ?_))⟩

theorem x_numberOf {g : zG} {d : Nat} {F : zF} {μ : zMem} {fl n w : Int32} (hd : 2 ≤ d) (hN : isN F n w) (hfl : μ.1 2 9 = fl) (ho : oX F μ) : zM g d F_numberOf [.ref 2, .int n, .int w] μ (fun r μ' => r = some (.int (rdF F fl n.toNatClampNeg w)) ∧ μ' = μ) := by
  rcases isN_cases hN with rfl | rfl | rfl | rfl | rfl | rfl | rfl | rfl
  · exact x_numberOf_0 hd hN ho
  · exact x_numberOf_1 hd hN ho
  · exact x_numberOf_2 hd hN ho
  · exact x_numberOf_3 hd hN ho
  · exact x_numberOf_4 hd hN ho
  · exact x_numberOf_5 hd hN ho
  · exact x_numberOf_6 hd hN ho
  · exact x_numberOf_7 hd hN hfl ho

theorem xs_set {g : zG} {d : Nat} {S : zS} {μ : zMem} {n w x : Int32} (hd : 2 ≤ d) (hN : isN S.1 n w) (hS : xS S μ) : zM g d F_setNumber [.ref 2, .int n, .int w, .int x] μ (fun r μ' => r = none ∧ xS (wrS S n w x) μ' ∧ onlyX μ μ') := by
  rcases isN_cases hN with rfl | rfl | rfl | rfl | rfl | rfl | rfl | rfl
  · exact xs_set_0 hd hN hS
  · exact xs_set_1 hd hN hS
  · exact xs_set_2 hd hN hS
  · exact xs_set_3 hd hN hS
  · exact xs_set_4 hd hN hS
  · exact xs_set_5 hd hN hS
  · exact xs_set_6 hd hN hS
  · exact xs_set_7 hd hN hS
