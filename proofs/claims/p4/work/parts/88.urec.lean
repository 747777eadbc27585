/-! Behind a bad clause: up to the next period. -/
def rcF (w : Ws) : Nat → Nat → Nat
  | 0, p => p
  | k + 1, p => if p < w.2.2 ∧ ¬ w.1 p = 4 then rcF w k (p + 1) else p
/-- the place behind the first period from p on -/
def rc (w : Ws) (p : Nat) : Nat := if rcF w (w.2.2 - p) p < w.2.2 then rcF w (w.2.2 - p) p + 1 else rcF w (w.2.2 - p) p
theorem rc_on {w : Ws} {p : Nat} (h : p < w.2.2) (h4 : ¬ w.1 p = 4) : rc w p = rc w (p + 1) := by
  have e : w.2.2 - p = (w.2.2 - (p + 1)) + 1 := by omega
  unfold rc
  rw [e]
  show (if (if p < w.2.2 ∧ ¬ w.1 p = 4 then rcF w (w.2.2 - (p + 1)) (p + 1) else p) < w.2.2 then (if p < w.2.2 ∧ ¬ w.1 p = 4 then rcF w (w.2.2 - (p + 1)) (p + 1) else p) + 1 else (if p < w.2.2 ∧ ¬ w.1 p = 4 then rcF w (w.2.2 - (p + 1)) (p + 1) else p)) = _
  rw [if_pos (show p < w.2.2 ∧ ¬ w.1 p = 4 from ⟨h, h4⟩)]
theorem rc_per {w : Ws} {p : Nat} (h : p < w.2.2) (h4 : w.1 p = 4) : rc w p = p + 1 := by
  have e : w.2.2 - p = (w.2.2 - (p + 1)) + 1 := by omega
  unfold rc
  rw [e]
  show (if (if p < w.2.2 ∧ ¬ w.1 p = 4 then rcF w (w.2.2 - (p + 1)) (p + 1) else p) < w.2.2 then (if p < w.2.2 ∧ ¬ w.1 p = 4 then rcF w (w.2.2 - (p + 1)) (p + 1) else p) + 1 else (if p < w.2.2 ∧ ¬ w.1 p = 4 then rcF w (w.2.2 - (p + 1)) (p + 1) else p)) = _
  rw [if_neg (show ¬ (p < w.2.2 ∧ ¬ w.1 p = 4) from fun q => q.2 h4), if_pos h]
theorem rc_out {w : Ws} {p : Nat} (h : ¬ p < w.2.2) : rc w p = p := by
  have e : w.2.2 - p = 0 := by omega
  unfold rc
  rw [e]
  show (if p < w.2.2 then p + 1 else p) = p
  rw [if_neg h]
theorem PS.at {w : Ws} {n : Int32} {p : Nat} {c : CU} {g : a2_G} {r : a2_A} (h : PS w n p c g r) (hp : p < w.2.2) : PS w n (p + 1) c (upd g fR_at (g fR_at + 1)) r := by
  obtain ⟨⟨q1, q2, q3, q4, q5, q6, q7⟩, q8, q9⟩ := h
  refine ⟨⟨q1, q2, q3, ?_, hp, q6, q7⟩, q8, q9⟩
  show (g fR_at + 1).toInt = _
  rw [i32_inc (by omega), q4]
  rfl
theorem xR_adv51 (L : Nat) (xs : Nat → Int32) {m d k : Nat} {w : Ws} {n : Int32} {p : Nat} {c : CU} {g : a2_G} {r : a2_A} (x1 : Int32) (h : PS w n p c g r) : pl (BR_recover_51 L xs (m + 1) d k x1 g r) (fun o g' r' => o = none ∧ PS w n (if p < w.2.2 then p + 1 else p) c g' r') kN := by
  unfold BR_recover_51
  cases d with
  | zero => trivial
  | succ d =>
    rw [qR_advance]
    unfold BR_advance_21
    by_cases hp : p < w.2.2
    · rw [if_pos hp, if_neg (by rw [c2_ge, h.1.2.2.1, h.1.2.2.2.1]; omega)]
      exact ⟨rfl, h.at hp⟩
    · rw [if_neg hp, if_pos (by rw [c2_ge, h.1.2.2.1, h.1.2.2.2.1]; omega)]
      exact ⟨rfl, h⟩
theorem xR_rec17 (L : Nat) (xs : Nat → Int32) {m d : Nat} {w : Ws} {n : Int32} {c : CU} {r : a2_A} : ∀ (k p : Nat) (x1 : Int32) (g : a2_G), x1.toInt = p → PS w n p c g r → pl (BR_recover_17 L xs (m + 1) d k x1 g r) (fun o g' r' => o = none ∧ PS w n (rc w p) c g' r') kN := by
  intro k
  induction k with
  | zero =>
    intro p x1 g hx h
    have q5 := h.1.2.2.2.2.1
    have q6 := h.1.2.2.2.2.2.1
    have ex : x1.toNatClampNeg = p := by rw [nc_eq, hx]; rfl
    unfold BR_recover_17
    refine pl_if (fun e => ?_) (fun e => ?_)
    · rw [c2_ge, h.1.2.2.1, hx] at e
      have hp : ¬ p < w.2.2 := by omega
      have h1 := xR_adv51 L xs (m := m) (d := d) (k := 0) x1 h
      rw [if_neg hp] at h1
      rw [rc_out hp]
      exact h1
    · rw [c2_ge, h.1.2.2.1, hx] at e
      have hp : p < w.2.2 := by omega
      refine pl_if (fun _ => ?_) (fun _ => trivial)
      rw [ex, h.1.1]
      refine pl_if (fun e4 => ?_) (fun e4 => pl_l0)
      rw [c2_eq] at e4
      have h1 := xR_adv51 L xs (m := m) (d := d) (k := 0) x1 h
      rw [if_pos hp] at h1
      rw [rc_per hp e4]
      exact h1
  | succ k ih =>
    intro p x1 g hx h
    have q5 := h.1.2.2.2.2.1
    have q6 := h.1.2.2.2.2.2.1
    have ex : x1.toNatClampNeg = p := by rw [nc_eq, hx]; rfl
    unfold BR_recover_17
    refine pl_if (fun e => ?_) (fun e => ?_)
    · rw [c2_ge, h.1.2.2.1, hx] at e
      have hp : ¬ p < w.2.2 := by omega
      have h1 := xR_adv51 L xs (m := m) (d := d) (k := k + 1) x1 h
      rw [if_neg hp] at h1
      rw [rc_out hp]
      exact h1
    · rw [c2_ge, h.1.2.2.1, hx] at e
      have hp : p < w.2.2 := by omega
      refine pl_if (fun _ => ?_) (fun _ => trivial)
      rw [ex, h.1.1]
      refine pl_if (fun e4 => ?_) (fun e4 => ?_)
      · rw [c2_eq] at e4
        have h1 := xR_adv51 L xs (m := m) (d := d) (k := k + 1) x1 h
        rw [if_pos hp] at h1
        rw [rc_per hp e4]
        exact h1
      · rw [c2_eq] at e4
        rw [lR_recover_17, rc_on hp e4]
        have e5 := i32_inc (x := x1) (by omega)
        generalize x1 + 1 = y at e5 ⊢
        exact ih (p + 1) y _ (by omega) (h.at hp)
theorem xR_recover (L : Nat) (xs : Nat → Int32) {m d : Nat} {w : Ws} {n : Int32} {p : Nat} {c : CU} {g : a2_G} {r : a2_A} (h : PS w n p c g r) (hn : n.toInt < 20) : pl (ev L xs (m + 1) d nR_recover [.ref cR] g r) (fun o g' r' => o = none ∧ PS w (n + 1) (rc w p) c g' r') kN := by
  cases d with
  | zero => trivial
  | succ d =>
    rw [qR_recover]
    refine pl_n (xR_note _ _ h hn) (fun _ _ _ e => e.elim) (fun g1 r1 e => ?_)
    exact xR_rec17 L xs _ p _ g1 e.2.1.2.2.2.1 e.2
