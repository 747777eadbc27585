/-! Ints of the machine as whole numbers. -/
theorem c2_lt {x y : Int32} : (am_c2 .lt x y = true) = (x.toInt < y.toInt) := propext ⟨fun h => Int32.lt_iff_toInt_lt.mp (of_decide_eq_true h), fun h => decide_eq_true (Int32.lt_iff_toInt_lt.mpr h)⟩
theorem c2_gt {x y : Int32} : (am_c2 .gt x y = true) = (y.toInt < x.toInt) := propext ⟨fun h => Int32.lt_iff_toInt_lt.mp (of_decide_eq_true h), fun h => decide_eq_true (Int32.lt_iff_toInt_lt.mpr h)⟩
theorem c2_le {x y : Int32} : (am_c2 .le x y = true) = (x.toInt ≤ y.toInt) := propext ⟨fun h => Int32.le_iff_toInt_le.mp (of_decide_eq_true h), fun h => decide_eq_true (Int32.le_iff_toInt_le.mpr h)⟩
theorem c2_ge {x y : Int32} : (am_c2 .ge x y = true) = (y.toInt ≤ x.toInt) := propext ⟨fun h => Int32.le_iff_toInt_le.mp (of_decide_eq_true h), fun h => decide_eq_true (Int32.le_iff_toInt_le.mpr h)⟩
theorem c2_eq {x y : Int32} : (am_c2 .eq x y = true) = (x = y) := propext ⟨fun h => of_decide_eq_true h, fun h => decide_eq_true h⟩
theorem c2_ne {x y : Int32} : (am_c2 .ne x y = true) = (¬ x = y) := propext ⟨fun h => of_decide_eq_true h, fun h => decide_eq_true h⟩
theorem nc_eq (i : Int32) : i.toNatClampNeg = i.toInt.toNat := rfl
theorem inr_eq {i : Int32} {n : Nat} : (am_inr i n = true) = (0 ≤ i.toInt ∧ i.toInt < n) := by
  unfold am_inr
  rw [decide_eq_true_eq]
  have h0 : (0 : Int32).toInt = 0 := rfl
  rw [Int32.lt_iff_toInt_lt, h0, nc_eq]
  apply propext
  omega
theorem i32_lo (x : Int32) : -2147483648 ≤ x.toInt := Int32.le_toInt x
theorem i32_hi (x : Int32) : x.toInt < 2147483648 := Int32.toInt_lt x
theorem ad_eq {x y : Int32} (h1 : -2147483648 ≤ x.toInt + y.toInt) (h2 : x.toInt + y.toInt < 2147483648) : (x + y).toInt = x.toInt + y.toInt := by
  rw [Int32.toInt_add]
  simp only [Int.bmod]
  omega
theorem sb_eq {x y : Int32} (h1 : -2147483648 ≤ x.toInt - y.toInt) (h2 : x.toInt - y.toInt < 2147483648) : (x - y).toInt = x.toInt - y.toInt := by
  rw [Int32.toInt_sub]
  simp only [Int.bmod]
  omega
theorem ml_eq {x y : Int32} (h1 : -2147483648 ≤ x.toInt * y.toInt) (h2 : x.toInt * y.toInt < 2147483648) : (x * y).toInt = x.toInt * y.toInt := by
  rw [Int32.toInt_mul]
  simp only [Int.bmod]
  omega
theorem on_eq {n : Nat} (h : n < 2147483648) : (Int32.ofNat n).toInt = n := by
  rw [Int32.toInt_ofNat', show Int32.size = 4294967296 from rfl]
  simp only [Int.bmod]
  omega
/-- a boolean as an int -/
def b2i (b : Bool) : Int32 := if b = true then 1 else 0
theorem b2i_t : b2i true = 1 := rfl
theorem b2i_f : b2i false = 0 := rfl
theorem b2i_ne (b : Bool) : (¬ b2i b = 0) = (b = true) := by cases b <;> simp [b2i]
theorem b2i_eq (b : Bool) : (b2i b = 0) = (b = false) := by cases b <;> simp [b2i]
theorem b2i_01 (b : Bool) : b2i b = 0 ∨ b2i b = 1 := by cases b <;> simp [b2i]
