/-! The model's leaves: what a call of them does, where its index is no less than 0. -/
/-- is there a word k of this kind; this reserved word; this sign -/
def Mk (g : a2_G) (r : a2_A) (k w : Int32) : Bool := decide (k.toInt < (g fM_n).toInt ∧ (r fM_kinds).2 k.toInt.toNat = w)
def Mw (g : a2_G) (r : a2_A) (k w : Int32) : Bool := Mk g r k 0 && decide ((r fM_values).2 k.toInt.toNat = w)
def Ms (g : a2_G) (r : a2_A) (k w : Int32) : Bool := Mk g r k 5 && decide ((r fM_values).2 k.toInt.toNat = w)
/-- the words' rows hold all words -/
def MW (g : a2_G) (r : a2_A) : Prop := (g fM_n).toInt ≤ (r fM_kinds).1 ∧ (g fM_n).toInt ≤ (r fM_values).1
theorem M_in (L : Nat) (xs : Nat → Int32) (m d : Nat) (v a b : Int32) (g : a2_G) (r : a2_A) : ev L xs (m + 1) (d + 1) nM_in [.int v, .int a, .int b] g r = some (.inl (some (.int (b2i (decide (a.toInt ≤ v.toInt ∧ v.toInt ≤ b.toInt))))), g, r) := by
  rw [qM_in]
  simp only [BM_in_14, BM_in_15, c2_lt, c2_gt]
  by_cases h1 : v.toInt < a.toInt
  · rw [if_pos h1, decide_eq_false (by omega)]
    rfl
  · rw [if_neg h1]
    by_cases h2 : b.toInt < v.toInt
    · rw [if_pos h2, decide_eq_false (by omega)]
      rfl
    · rw [if_neg h2, decide_eq_true (by omega)]
      rfl
theorem M_isKind (L : Nat) (xs : Nat → Int32) (m d : Nat) {k w : Int32} {g : a2_G} {r : a2_A} (hk : 0 ≤ k.toInt) (hn : (g fM_n).toInt ≤ (r fM_kinds).1) : ev L xs (m + 1) (d + 1) nM_isKind [.ref cM, .int k, .int w] g r = some (.inl (some (.int (b2i (Mk g r k w)))), g, r) := by
  rw [qM_isKind]
  simp only [BM_isKind_22, BM_isKind_23, c2_ge, c2_ne, inr_eq, nc_eq, Mk]
  by_cases h1 : (g fM_n).toInt ≤ k.toInt
  · rw [if_pos h1, decide_eq_false (by omega)]
    rfl
  · rw [if_neg h1, if_pos ⟨hk, by omega⟩]
    by_cases h2 : (r fM_kinds).2 k.toInt.toNat = w
    · rw [if_neg (fun h => h h2), decide_eq_true ⟨by omega, h2⟩]
      rfl
    · rw [if_pos h2, decide_eq_false (fun h => h2 h.2)]
      rfl
theorem Mk_lt {g : a2_G} {r : a2_A} {k w : Int32} (h : Mk g r k w = true) : k.toInt < (g fM_n).toInt := (of_decide_eq_true h).1
theorem M_isWord (L : Nat) (xs : Nat → Int32) (m d : Nat) {k w : Int32} {g : a2_G} {r : a2_A} (hk : 0 ≤ k.toInt) (hW : MW g r) : ev L xs (m + 1) (d + 2) nM_isWord [.ref cM, .int k, .int w] g r = some (.inl (some (.int (b2i (Mw g r k w)))), g, r) := by
  rw [qM_isWord, M_isKind L xs m d hk hW.1]
  simp only [fn_v, BM_isWord_23, BM_isWord_24, c2_eq, c2_ne, inr_eq, nc_eq, Mw, b2i_eq]
  cases h1 : Mk g r k 0 with
  | false => rfl
  | true =>
    have h3 := Mk_lt h1
    have h4 := hW.2
    rw [if_neg (fun h => nomatch h), if_pos ⟨hk, by omega⟩]
    by_cases h2 : (r fM_values).2 k.toInt.toNat = w
    · rw [if_neg (fun h => h h2), decide_eq_true h2]
      rfl
    · rw [if_pos h2, decide_eq_false h2]
      rfl
theorem M_isSign (L : Nat) (xs : Nat → Int32) (m d : Nat) {k w : Int32} {g : a2_G} {r : a2_A} (hk : 0 ≤ k.toInt) (hW : MW g r) : ev L xs (m + 1) (d + 2) nM_isSign [.ref cM, .int k, .int w] g r = some (.inl (some (.int (b2i (Ms g r k w)))), g, r) := by
  rw [qM_isSign, M_isKind L xs m d hk hW.1]
  simp only [fn_v, BM_isSign_24, BM_isSign_23, c2_eq, c2_ne, inr_eq, nc_eq, Ms, b2i_eq]
  cases h1 : Mk g r k 5 with
  | false => rfl
  | true =>
    have h3 := Mk_lt h1
    have h4 := hW.2
    rw [if_neg (fun h => nomatch h), if_pos ⟨hk, by omega⟩]
    by_cases h2 : (r fM_values).2 k.toInt.toNat = w
    · rw [if_neg (fun h => h h2), decide_eq_true h2]
      rfl
    · rw [if_pos h2, decide_eq_false h2]
      rfl
theorem M_isOperand (L : Nat) (xs : Nat → Int32) (m d : Nat) {k : Int32} {g : a2_G} {r : a2_A} (hk : 0 ≤ k.toInt) (hW : MW g r) : ev L xs (m + 1) (d + 2) nM_isOperand [.ref cM, .int k] g r = some (.inl (some (.int (b2i (Mk g r k 1 || Mk g r k 2 || Mk g r k 3)))), g, r) := by
  rw [qM_isOperand]
  simp only [M_isKind L xs m d hk hW.1, fn_v, BM_isOperand_27, BM_isOperand_32, c2_ne, c2_eq, b2i_ne, b2i_eq]
  cases Mk g r k 1 <;> cases Mk g r k 2 <;> cases Mk g r k 3 <;> rfl
/-- a fault's note -/
def Mn (n w : Int32) (g : a2_G) (r : a2_A) : a2_A := a2_ua (a2_ua r fM_faultNumber ((r fM_faultNumber).1, upd (r fM_faultNumber).2 (g fM_faults).toInt.toNat n)) fM_faultWord ((r fM_faultWord).1, upd (r fM_faultWord).2 (g fM_faults).toInt.toNat w)
theorem M_note (L : Nat) (xs : Nat → Int32) (m d : Nat) {n w : Int32} {g : a2_G} {r : a2_A} (h0 : 0 ≤ (g fM_faults).toInt) (h1 : (g fM_faults).toInt ≤ 20) (h2 : (r fM_faultNumber).1 = 20) (h3 : (r fM_faultWord).1 = 20) : ev L xs (m + 1) (d + 1) nM_note [.ref cM, .int n, .int w] g r = if g fM_faults = 20 then some (.inl none, g, r) else some (.inl none, upd g fM_faults (g fM_faults + 1), Mn n w g r) := by
  rw [qM_note]
  simp only [c2_ne, inr_eq, nc_eq]
  by_cases h : g fM_faults = 20
  · rw [if_neg (fun h4 => h4 h), if_pos h]
  · have h5 : ¬ (g fM_faults).toInt = 20 := fun e => h (Int32.toInt_inj.mp e)
    rw [if_pos h, if_pos ⟨h0, by omega⟩, if_pos ⟨h0, by omega⟩, if_neg h]
    rfl
