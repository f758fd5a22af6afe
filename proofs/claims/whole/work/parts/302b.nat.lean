/-! small numbers -/
theorem on_int {a : Nat} (h : a < 2147483648) : (Int32.ofNat a).toInt = (a : Int) := Int32.toInt_ofNat_of_lt (by omega)
theorem on_lt {a b : Nat} (ha : a < 2147483648) (hb : b < 2147483648) : Int32.ofNat a < Int32.ofNat b ↔ a < b := by
  rw [Int32.lt_iff_toInt_lt, on_int ha, on_int hb]; omega
theorem on_le {a b : Nat} (ha : a < 2147483648) (hb : b < 2147483648) : Int32.ofNat a ≤ Int32.ofNat b ↔ a ≤ b := by
  rw [Int32.le_iff_toInt_le, on_int ha, on_int hb]; omega
theorem on_inj {a b : Nat} (ha : a < 2147483648) (hb : b < 2147483648) : Int32.ofNat a = Int32.ofNat b ↔ a = b := by
  rw [← Int32.toInt_inj, on_int ha, on_int hb]; omega
theorem on_cl {a : Nat} (h : a < 2147483648) : (Int32.ofNat a).toNatClampNeg = a := by
  show (Int32.ofNat a).toInt.toNat = a
  rw [on_int h]; rfl
theorem on_add {a b : Nat} : Int32.ofNat a + Int32.ofNat b = Int32.ofNat (a + b) := (Int32.ofNat_add a b).symm
theorem on_s {a : Nat} : Int32.ofNat a + 1 = Int32.ofNat (a + 1) := on_add (b := 1)
theorem on_mul {a b : Nat} : Int32.ofNat a * Int32.ofNat b = Int32.ofNat (a * b) := (Int32.ofNat_mul a b).symm
theorem on_neg {a : Nat} (h : a < 2147483648) : ¬ Int32.ofNat a < 0 := by
  rw [show (0 : Int32) = Int32.ofNat 0 from rfl, on_lt h (by decide)]; omega
