/-! The model's operand and operandOf. -/
theorem i32_as (x : Int32) : x + 1 - 1 = x := Int32.add_sub_cancel x 1
def Mo (g : a2_G) (r : a2_A) : Bool := decide (g fM_bad = 0) && (Mk g r (g fM_at) 1 || Mk g r (g fM_at) 2 || Mk g r (g fM_at) 3)
theorem Mo_lt {g : a2_G} {r : a2_A} (h : Mo g r = true) : (g fM_at).toInt < (g fM_n).toInt := by
  simp only [Mo, Bool.and_eq_true, Bool.or_eq_true, decide_eq_true_eq] at h
  rcases h.2 with (h | h) | h <;> exact Mk_lt h
/-- the word that is next, as an operand's value -/
def Mov (g : a2_G) (r : a2_A) : Int32 := 100000 * (r fM_kinds).2 (g fM_at).toInt.toNat + (r fM_values).2 (g fM_at).toInt.toNat
theorem M_operand (L : Nat) (xs : Nat → Int32) (m d : Nat) {g : a2_G} {r : a2_A} (ha : 0 ≤ (g fM_at).toInt) (hW : MW g r) (hF : MF g r) (hT : MT g r) (h8 : (g fM_nodes).toInt < 8000) : ev L xs (m + 1) (d + 3) nM_operand [.ref cM] g r = if Mo g r = true then some (.inl (some (.int (g fM_nodes))), MmkG (Mp true g), MmkR (g fM_nodes).toInt.toNat 41 (Mov g r) (g fM_at) r) else some (.inl (some (.int 0)), MfG (g fM_at) g, MfR 1 (g fM_at) g r) := by
  rw [qM_operand, M_isOperand L xs m d ha hW]
  simp only [BM_operand_18, M_fail L xs m d hF, fn_v, c2_ne, b2i_ne, inr_eq, nc_eq, i32_as]
  by_cases hb : g fM_bad = 0
  · have hm : Mo g r = (Mk g r (g fM_at) 1 || Mk g r (g fM_at) 2 || Mk g r (g fM_at) 3) := by simp [Mo, hb]
    rw [if_neg (fun h => h hb)]
    by_cases ho : Mo g r = true
    · have hlt := Mo_lt ho
      have w1 := hW.1
      have w2 := hW.2
      rw [if_pos ho]
      rw [hm] at ho
      rw [if_pos ho, if_pos ⟨ha, by omega⟩, if_pos ⟨ha, by omega⟩]
      rw [M_make L xs m (d + 1) (g := upd g fM_at (g fM_at + 1)) (show 0 ≤ (g fM_nodes).toInt by have := hT.2.1; omega) h8 hT.1]
      rfl
    · rw [if_neg ho]
      rw [hm] at ho
      rw [if_neg ho]
  · have hm : Mo g r = false := by simp [Mo, hb]
    rw [if_pos hb, hm]
    rfl
/-- operandOf: the operand behind the children of a -/
theorem M_operandOf (L : Nat) (xs : Nat → Int32) (m d : Nat) {a : Int32} {g : a2_G} {r : a2_A} (ha : 0 ≤ (g fM_at).toInt) (hW : MW g r) (hF : MF g r) (hT : MT g r) (h8 : (g fM_nodes).toInt < 8000) (hi : Mi g a) : ev L xs (m + 1) (d + 4) nM_operandOf [.ref cM, .int a] g r = if Mo g r = true then some (.inl none, MmkG (Mp true g), MatR a (g fM_nodes) (MmkR (g fM_nodes).toInt.toNat 41 (Mov g r) (g fM_at) r)) else some (.inl none, MfG (g fM_at) g, MfR 1 (g fM_at) g r) := by
  rw [qM_operandOf, M_operand L xs m d ha hW hF hT h8]
  have h0 := hT.2.1
  have z0 : (0 : Int32).toInt = 0 := rfl
  cases ho : Mo g r with
  | false =>
    rw [if_neg (fun h => nomatch h), if_neg (fun h => nomatch h)]
    simp only [fn_v, c2_le, BM_operandOf_15]
    rw [if_pos (Int.le_refl _)]
  | true =>
    rw [if_pos rfl, if_pos rfl]
    simp only [fn_v, c2_le, BM_operandOf_15]
    rw [if_neg (by rw [z0]; omega)]
    have hT' : MT (Mp true g) r := hT
    have hm : MT (MmkG (Mp true g)) (MmkR (g fM_nodes).toInt.toNat 41 (Mov g r) (g fM_at) r) := hT'.mk h8 41 (Mov g r) (g fM_at)
    have e1 : (1 : Int32).toInt = 1 := rfl
    have e2 : (MmkG (Mp true g) fM_nodes).toInt = (g fM_nodes).toInt + 1 := by
      show (g fM_nodes + 1).toInt = _
      rw [ad_eq (by rw [e1]; omega) (by rw [e1]; omega), e1]
    have hi' : Mi (MmkG (Mp true g)) a := ⟨hi.1, by rw [e2]; have := hi.2; omega⟩
    have ht : Mi (MmkG (Mp true g)) (g fM_nodes) := ⟨by omega, by rw [e2]; omega⟩
    rw [M_attachT L xs m (d + 2) hm hi' ht]
    rfl
