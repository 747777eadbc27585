/-! The class at the end of all words. -/
def nx (n : Int32) : Int32 := if n.toInt < 20 then n + 1 else n
/-- a unit is open that must not be -/
def oE (c : CU) : Bool := decide (1 < oN c) || decide (oN c = 1) && (decide (oT c = 0) || decide (oT c = 9) || decide (oT c = 12))
theorem xR_noteX (L : Nat) (xs : Nat → Int32) {m d : Nat} {w : Ws} {n : Int32} {p : Nat} {c : CU} {g : a2_G} {r : a2_A} (a b : Int32) (h : PS w n p c g r) : pl (ev L xs (m + 1) d nR_note [.ref cR, .int a, .int b] g r) (fun o g' r' => o = none ∧ PS w (nx n) p c g' r') kN := by
  unfold nx
  by_cases hn : n.toInt < 20
  · rw [if_pos hn]
    exact xR_note a b h hn
  · rw [if_neg hn]
    cases d with
    | zero => trivial
    | succ d =>
      rw [qR_note]
      unfold BR_note_39
      refine pl_pos (by rw [c2_ge, h.1.2.2.2.2.2.2]; show (20 : Int) ≤ n.toInt; omega) ?_
      exact ⟨rfl, h⟩
theorem xC_checkEnd (L : Nat) (xs : Nat → Int32) {m d : Nat} {w : Ws} {n : Int32} {p : Nat} {c : CU} {g : a2_G} {r : a2_A} (h : PS w n p c g r) : pl (ev L xs (m + 1) d nC_checkEnd [.ref cC] g r) (fun o g' r' => o = none ∧ PS w (if oE c then nx n else n) p c g' r') kN := by
  cases d with
  | zero => trivial
  | succ d =>
    have hcv := h.2.2
    have h56 : oE c = true → ∀ x1 x2, pl (BC_checkEnd_56 L xs (m + 1) d m x1 x2 g r) (fun o g' r' => o = none ∧ PS w (if oE c then nx n else n) p c g' r') kN := by
      intro e x1 x2
      rw [e, if_pos rfl]
      unfold BC_checkEnd_56 BC_checkEnd_71
      refine pl_e (xR_place L xs) ?_
      exact pl_n (xR_noteX L xs 1 _ h) (fun _ _ _ e => e.elim) (fun g1 r1 e => ⟨rfl, e.2⟩)
    have h71 : oE c = false → ∀ x1 x2, pl (BC_checkEnd_71 L xs (m + 1) d m x1 x2 g r) (fun o g' r' => o = none ∧ PS w (if oE c then nx n else n) p c g' r') kN := by
      intro e x1 x2
      rw [e, if_neg (by decide)]
      exact ⟨rfl, h⟩
    have h29 : ∀ (x1 : Int32) (b : Bool), b = !(decide (oT c = 0) || decide (oT c = 9) || decide (oT c = 12)) → pl (BC_checkEnd_29 L xs (m + 1) d m x1 (b2i b) g r) (fun o g' r' => o = none ∧ PS w (if oE c then nx n else n) p c g' r') kN := by
      intro x1 b hb
      unfold BC_checkEnd_29
      refine pl_e xU_openCount ?_
      refine pl_if (fun e => ?_) (fun e => ?_)
      · rw [c2_gt, hcv.1] at e
        have e' : (1 : Int) < oN c := e
        exact h56 (by unfold oE; rw [decide_eq_true (by omega : 1 < oN c)]; rfl) _ _
      · rw [c2_gt, hcv.1] at e
        have e' : ¬ (1 : Int) < oN c := e
        refine pl_e xU_openCount ?_
        refine pl_if (fun e2 => ?_) (fun e2 => ?_)
        · rw [c2_ne] at e2
          have e3 : ¬ oN c = 1 := fun e3 => e2 (Int32.toInt_inj.mp (by rw [hcv.1, e3]; rfl))
          exact h71 (by unfold oE; rw [decide_eq_false (by omega : ¬ 1 < oN c), decide_eq_false e3]; rfl) _ _
        · rw [c2_ne, Decidable.not_not] at e2
          have e3 : oN c = 1 := by
            have e4 := hcv.1
            rw [e2] at e4
            have e4' : (1 : Int) = oN c := e4
            omega
          have e5 : oE c = !b := by
            unfold oE
            rw [decide_eq_false (by omega : ¬ 1 < oN c), decide_eq_true e3, hb, Bool.not_not]
            rfl
          cases b with
          | true => exact pl_pos (by decide) (h71 e5 _ _)
          | false => exact pl_neg (by decide) (h56 e5 _ _)
    rw [qC_checkEnd]
    unfold BC_checkEnd_28
    refine pl_e (xU_state hcv) ?_
    refine pl_if (fun e => ?_) (fun e => ?_)
    · rw [c2_eq] at e
      exact h29 _ false (by rw [decide_eq_true e]; rfl)
    · rw [c2_eq] at e
      refine pl_if (fun e2 => ?_) (fun e2 => ?_)
      · rw [c2_eq] at e2
        exact h29 _ false (by rw [decide_eq_true e2, Bool.or_true]; rfl)
      · rw [c2_eq] at e2
        refine pl_if (fun e3 => ?_) (fun e3 => ?_)
        · rw [c2_eq] at e3
          exact h29 _ false (by rw [decide_eq_true e3, Bool.or_true]; rfl)
        · rw [c2_eq] at e3
          exact h29 _ true (by rw [decide_eq_false e, decide_eq_false e2, decide_eq_false e3]; rfl)
