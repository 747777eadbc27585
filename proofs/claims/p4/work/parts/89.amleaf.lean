/-! The model's tests against the reader's words. -/
def Mrd (w : Ws) (g : a2_G) (r : a2_A) : Prop := (r fM_kinds).2 = w.1 ∧ (r fM_values).2 = w.2.1 ∧ (g fM_n).toInt = w.2.2 ∧ w.2.2 ≤ 1500
section
variable {w : Ws} {p : Nat} {g : a2_G} {r : a2_A}
theorem xM_isKind (L : Nat) (xs : Nat → Int32) {m d : Nat} {a : Int32} (b : Int32) (h : Mrd w g r) (ha : a.toInt = p) : pl (ev L xs (m + 1) d nM_isKind [.ref cM, .int a, .int b] g r) (kE g r (b2i (wk w p b))) kN := by
  cases d with
  | zero => trivial
  | succ d =>
    have en : a.toNatClampNeg = p := by rw [nc_eq, ha]; rfl
    rw [qM_isKind]
    simp only [BM_isKind_22, BM_isKind_23, c2_ge, c2_ne, en, h.1, h.2.2.1, ha]
    refine pl_if (fun hc => ?_) (fun hc => ?_)
    · exact pl_if (fun _ => ⟨kE_no wk_iff (by omega), rfl, rfl⟩) (fun _ => trivial)
    · refine pl_if (fun _ => ?_) (fun _ => trivial)
      refine pl_if (fun hk => ?_) (fun hk => ?_)
      · exact pl_if (fun _ => ⟨kE_no wk_iff (fun e => hk e.2), rfl, rfl⟩) (fun _ => trivial)
      · exact pl_if (fun _ => ⟨kE_is wk_iff ⟨by omega, Decidable.not_not.mp hk⟩, rfl, rfl⟩) (fun _ => trivial)
theorem xM_isWord (L : Nat) (xs : Nat → Int32) {m d : Nat} {a : Int32} (b : Int32) (h : Mrd w g r) (ha : a.toInt = p) : pl (ev L xs (m + 1) d nM_isWord [.ref cM, .int a, .int b] g r) (kE g r (b2i (ww w p b))) kN := by
  cases d with
  | zero => trivial
  | succ d =>
    have en : a.toNatClampNeg = p := by rw [nc_eq, ha]; rfl
    rw [qM_isWord]
    refine pl_u (xM_isKind L xs 0 h ha) (fun e => pl_neg (by decide) ?_) (fun e => pl_pos (by decide) ?_)
    · simp only [BM_isWord_23, BM_isWord_24, c2_ne, en, h.2.1]
      obtain ⟨hp, hk⟩ := wk_iff.mp e
      refine pl_if (fun _ => ?_) (fun _ => trivial)
      refine pl_if (fun hv => ?_) (fun hv => ?_)
      · exact pl_if (fun _ => ⟨kE_no ww_iff (fun e => hv e.2.2), rfl, rfl⟩) (fun _ => trivial)
      · exact pl_if (fun _ => ⟨kE_is ww_iff ⟨hp, hk, Decidable.not_not.mp hv⟩, rfl, rfl⟩) (fun _ => trivial)
    · unfold BM_isWord_23 BM_isWord_24 ww
      rw [e]
      exact pl_pos (by decide) ⟨rfl, rfl, rfl⟩
theorem xM_isSign (L : Nat) (xs : Nat → Int32) {m d : Nat} {a : Int32} (b : Int32) (h : Mrd w g r) (ha : a.toInt = p) : pl (ev L xs (m + 1) d nM_isSign [.ref cM, .int a, .int b] g r) (kE g r (b2i (wg w p b))) kN := by
  cases d with
  | zero => trivial
  | succ d =>
    have en : a.toNatClampNeg = p := by rw [nc_eq, ha]; rfl
    rw [qM_isSign]
    refine pl_u (xM_isKind L xs 5 h ha) (fun e => pl_neg (by decide) ?_) (fun e => pl_pos (by decide) ?_)
    · simp only [BM_isSign_23, BM_isSign_24, c2_ne, en, h.2.1]
      obtain ⟨hp, hk⟩ := wk_iff.mp e
      refine pl_if (fun _ => ?_) (fun _ => trivial)
      refine pl_if (fun hv => ?_) (fun hv => ?_)
      · exact pl_if (fun _ => ⟨kE_no wg_iff (fun e => hv e.2.2), rfl, rfl⟩) (fun _ => trivial)
      · exact pl_if (fun _ => ⟨kE_is wg_iff ⟨hp, hk, Decidable.not_not.mp hv⟩, rfl, rfl⟩) (fun _ => trivial)
    · unfold BM_isSign_23 BM_isSign_24 wg
      rw [e]
      exact pl_pos (by decide) ⟨rfl, rfl, rfl⟩
theorem xM_isOperand (L : Nat) (xs : Nat → Int32) {m d : Nat} {a : Int32} (h : Mrd w g r) (ha : a.toInt = p) : pl (ev L xs (m + 1) d nM_isOperand [.ref cM, .int a] g r) (kE g r (b2i (wo w p))) kN := by
  cases d with
  | zero => trivial
  | succ d =>
    rw [qM_isOperand]
    unfold BM_isOperand_27 BM_isOperand_32 wo
    refine pl_u (xM_isKind L xs 1 h ha) (fun e => pl_pos (by decide) (pl_pos (by decide) ⟨by rw [e]; rfl, rfl, rfl⟩)) (fun e => pl_neg (by decide) ?_)
    refine pl_u (xM_isKind L xs 2 h ha) (fun e2 => pl_pos (by decide) (pl_pos (by decide) ⟨by rw [e, e2]; rfl, rfl, rfl⟩)) (fun e2 => pl_neg (by decide) ?_)
    refine pl_u (xM_isKind L xs 3 h ha) (fun e3 => pl_neg (by decide) (pl_pos (by decide) ⟨by rw [e, e2, e3]; rfl, rfl, rfl⟩)) (fun e3 => pl_pos (by decide) (pl_pos (by decide) ⟨by rw [e, e2, e3]; rfl, rfl, rfl⟩))
end
