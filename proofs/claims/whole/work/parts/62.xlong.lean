/-! the class: longs of small naturals -/
theorem lI_toInt {a : Nat} (h : a < 2 ^ 62) : (Int64.ofNat a).toInt = a := by
  rw [Int64.toInt_ofNat_of_lt (by omega)]
theorem lI_of {a : Nat} (h : a < 2 ^ 31) : (nI a).toInt64 = Int64.ofNat a := by
  apply Int64.toInt.inj
  rw [lI_toInt (by omega), Int32.toInt_toInt64, nI_toInt h]
theorem lI_add {a b : Nat} : Int64.ofNat a + Int64.ofNat b = Int64.ofNat (a + b) := (Int64.ofNat_add ..).symm
theorem lI_mul {a b : Nat} : Int64.ofNat a * Int64.ofNat b = Int64.ofNat (a * b) := (Int64.ofNat_mul ..).symm
theorem lI_int {a : Nat} (h : a < 2 ^ 31) : (Int64.ofNat a).toInt32 = nI a := by
  rw [← lI_of h]
  exact Int32.toInt32_toInt64 _
theorem lI_le {a b : Nat} (ha : a < 2 ^ 62) (hb : b < 2 ^ 62) : Int64.ofNat a ≤ Int64.ofNat b ↔ a ≤ b := by
  rw [Int64.le_iff_toInt_le, lI_toInt ha, lI_toInt hb]
  omega
theorem lI_lt {a b : Nat} (ha : a < 2 ^ 62) (hb : b < 2 ^ 62) : Int64.ofNat a < Int64.ofNat b ↔ a < b := by
  rw [Int64.lt_iff_toInt_lt, lI_toInt ha, lI_toInt hb]
  omega
