/-! The model's leaves, II: fail, meets, must, mustBe, passed. -/
/-- what fail leaves -/
def MfG (w : Int32) (g : a2_G) : a2_G := if g fM_bad = 0 then upd (upd (if g fM_faults = 20 then g else upd g fM_faults (g fM_faults + 1)) fM_failed w) fM_bad 1 else upd (upd g fM_failed (g fM_failed)) fM_bad 1
def MfR (n w : Int32) (g : a2_G) (r : a2_A) : a2_A := if g fM_bad = 0 then (if g fM_faults = 20 then r else Mn n w g r) else r
/-- the faults' rows have room -/
def MF (g : a2_G) (r : a2_A) : Prop := 0 ≤ (g fM_faults).toInt ∧ (g fM_faults).toInt ≤ 20 ∧ (r fM_faultNumber).1 = 20 ∧ (r fM_faultWord).1 = 20
theorem M_fail (L : Nat) (xs : Nat → Int32) (m d : Nat) {n w : Int32} {g : a2_G} {r : a2_A} (hF : MF g r) : ev L xs (m + 1) (d + 2) nM_fail [.ref cM, .int n, .int w] g r = some (.inl (some (.int 0)), MfG w g, MfR n w g r) := by
  obtain ⟨h0, h1, h2, h3⟩ := hF
  rw [qM_fail, M_note L xs m d h0 h1 h2 h3]
  simp only [c2_ne, c2_eq, BM_fail_13, BM_fail_29, MfG, MfR]
  by_cases hb : g fM_bad = 0
  · rw [if_neg (fun h => h hb), if_pos hb, if_pos hb]
    by_cases hf : g fM_faults = 20
    · rw [if_pos hf, if_pos hf, if_pos hf]
      simp only [fn_n]
      rw [if_pos hb]
    · rw [if_neg hf, if_neg hf, if_neg hf]
      simp only [fn_n]
      rw [if_pos (show upd g fM_faults (g fM_faults + 1) fM_bad = 0 from hb)]
  · rw [if_pos hb, if_neg hb, if_neg hb, if_neg hb]
/-- does the word r come: then it is passed -/
def Mm (g : a2_G) (r : a2_A) (w : Int32) : Bool := decide (g fM_bad = 0) && Mw g r (g fM_at) w
def Mp (b : Bool) (g : a2_G) : a2_G := if b = true then upd g fM_at (g fM_at + 1) else g
theorem M_meets (L : Nat) (xs : Nat → Int32) (m d : Nat) {w : Int32} {g : a2_G} {r : a2_A} (ha : 0 ≤ (g fM_at).toInt) (hW : MW g r) : ev L xs (m + 1) (d + 3) nM_meets [.ref cM, .int w] g r = some (.inl (some (.int (b2i (Mm g r w)))), Mp (Mm g r w) g, r) := by
  rw [qM_meets, M_isWord L xs m d ha hW]
  simp only [c2_ne, BM_meets_19, fn_v, b2i_ne]
  by_cases hb : g fM_bad = 0
  · have hm : Mm g r w = Mw g r (g fM_at) w := by simp [Mm, hb]
    rw [if_neg (fun h => h hb), hm]
    cases Mw g r (g fM_at) w <;> rfl
  · have hm : Mm g r w = false := by simp [Mm, hb]
    rw [if_pos hb, hm]
    rfl
theorem Mm_bad {g : a2_G} {r : a2_A} {w : Int32} (h : Mm g r w = true) : g fM_bad = 0 := by
  simp only [Mm, Bool.and_eq_true, decide_eq_true_eq] at h
  exact h.1
theorem Mm_lt {g : a2_G} {r : a2_A} {w : Int32} (h : Mm g r w = true) : (g fM_at).toInt < (g fM_n).toInt := by
  simp only [Mm, Mw, Bool.and_eq_true, decide_eq_true_eq] at h
  exact Mk_lt h.2.1
theorem M_must (L : Nat) (xs : Nat → Int32) (m d : Nat) {w : Int32} {g : a2_G} {r : a2_A} (ha : 0 ≤ (g fM_at).toInt) (hW : MW g r) (hF : MF g r) : ev L xs (m + 1) (d + 4) nM_must [.ref cM, .int w] g r = if Mm g r w = true then some (.inl (some (.int 1)), Mp true g, r) else some (.inl (some (.int 0)), MfG (g fM_at) g, MfR 1 (g fM_at) g r) := by
  rw [qM_must, M_meets L xs m d ha hW]
  simp only [fn_v, c2_ne, b2i_ne]
  cases h : Mm g r w with
  | true => rfl
  | false =>
    rw [if_neg (fun h => nomatch h), if_neg (fun h => nomatch h)]
    rw [show Mp false g = g from rfl, M_fail L xs m (d + 1) hF]
    rfl
/-- a word of this kind is passed, or it is a fault -/
def Mb (g : a2_G) (r : a2_A) (w : Int32) : Bool := decide (g fM_bad = 0) && Mk g r (g fM_at) w
theorem M_mustBe (L : Nat) (xs : Nat → Int32) (m d : Nat) {w : Int32} {g : a2_G} {r : a2_A} (ha : 0 ≤ (g fM_at).toInt) (hW : MW g r) (hF : MF g r) : ev L xs (m + 1) (d + 3) nM_mustBe [.ref cM, .int w] g r = if Mb g r w = true then some (.inl (some (.int 1)), Mp true g, r) else some (.inl (some (.int 0)), MfG (g fM_at) g, MfR 1 (g fM_at) g r) := by
  rw [qM_mustBe, M_isKind L xs m (d + 1) ha hW.1]
  simp only [BM_mustBe_19, M_fail L xs m d hF, fn_v, c2_ne, b2i_ne]
  by_cases hb : g fM_bad = 0
  · have hm : Mb g r w = Mk g r (g fM_at) w := by simp [Mb, hb]
    rw [if_neg (fun h => h hb), hm]
    cases Mk g r (g fM_at) w <;> rfl
  · have hm : Mb g r w = false := by simp [Mb, hb]
    rw [if_pos hb, hm]
    rfl
theorem M_passed (L : Nat) (xs : Nat → Int32) (m d : Nat) {g : a2_G} {r : a2_A} (h0 : 0 < (g fM_at).toInt) (h1 : (g fM_at).toInt ≤ (r fM_values).1) : ev L xs (m + 1) (d + 1) nM_passed [.ref cM] g r = some (.inl (some (.int ((r fM_values).2 ((g fM_at).toInt - 1).toNat))), g, r) := by
  have e1 : (1 : Int32).toInt = 1 := rfl
  have e0 : (0 : Int32).toInt = 0 := rfl
  have hi := i32_hi (g fM_at)
  have e2 : (g fM_at - 1).toInt = (g fM_at).toInt - 1 := by
    rw [sb_eq (by rw [e1]; omega) (by rw [e1]; omega), e1]
  rw [qM_passed]
  simp only [BM_passed_22, c2_le, inr_eq, nc_eq, e2, e0]
  rw [if_neg (by omega), if_pos ⟨by omega, by omega⟩]
