/-! The class's clauses: END, and what chooses among data clauses. -/
def oY (c : CU) : Bool := decide (1 ≤ (oT c).toInt) && !decide (oT c = 9)
def zE (w : Ws) (c : CU) (p : Nat) : Option RR × (CU × Bool) :=
  if ww w (p + 1) 32 then ((if oB c 9 9 then (if ww w (p + 1) 32 then (if wk w (p + 2) 4 then ok (p + 3) else no (p + 2)) else no (p + 1)) else no p), (sS (sC c false) 10, false))
  else if ww w (p + 1) 34 || ww w (p + 1) 35 then ((if oY c then (if ww w (p + 1) (oW c) then (if wk w (p + 2) 1 then (if wk w (p + 3) 4 then ok (p + 4) else no (p + 3)) else no (p + 2)) else no (p + 1)) else no p), (sX c, decide (¬ w.2.1 (p + 2) = (if oN c = 0 then -1 else oM c (oN c - 1)))))
  else ((if decide (1 ≤ (oT c).toInt) then no (p + 1) else no p), (c, false))
theorem xC_endSomething (L : Nat) (xs : Nat → Int32) {m d : Nat} {w : Ws} {f : Gh} {c : CU} {p : Nat} {g : a2_G} {r : a2_A} (h : Ru w f p g r) (hp : p < w.2.2) (hc : Cv c f.2.1 f.2.2) (hn : f.1.toInt < 20) : pl (ev L xs (m + 1) d nC_endSomething [.ref cC] g r) (kQ w f (zE w c p).2 (zE w c p).1) (kRx w f (zE w c p).1) := by
  cases d with
  | zero => trivial
  | succ d =>
    have hcv := h.cv hc
    rw [qC_endSomething]
    unfold BC_endSomething_104
    have h54 : (ww w (p + 1) 34 || ww w (p + 1) 35) = true → ww w (p + 1) 32 = false → pl (BC_endSomething_54 L xs (m + 1) d m g r) (kQ w f (zE w c p).2 (zE w c p).1) (kRx w f (zE w c p).1) := by
      intro e1 e2
      unfold zE
      rw [e1, e2, if_neg (by decide), if_pos rfl]
      unfold BC_endSomething_54 BC_endSomething_104
      refine pl_e (xC_mayEndOrContain hcv) ?_
      refine pl_rT (oY c) rfl h (fun _ => ?_)
      exact pl_n (xC_endUnit h hp hc hn) (fun _ _ _ q => q) (fun _ _ q => q)
    refine pl_u (xR_isReserved L xs 32 1 (j := 1) rfl (by decide) h.1) (fun e => pl_neg (by decide) ?_) (fun e => pl_pos (by decide) ?_)
    · unfold zE
      rw [e, if_pos rfl]
      refine pl_rS (a := 9) (b := 9) h hc (fun _ => ?_)
      have hq := xC_endDeclaratives (L := L) (xs := xs) (m := m) (d := d) h hp hc
      rw [e] at hq
      exact pl_n hq (fun _ _ _ q => q) (fun _ _ q => q)
    · refine pl_u (xR_isReserved L xs 34 1 (j := 1) rfl (by decide) h.1) (fun e2 => pl_pos (by decide) (h54 (by rw [e2]; rfl) e)) (fun e2 => pl_neg (by decide) ?_)
      refine pl_u (xR_isReserved L xs 35 1 (j := 1) rfl (by decide) h.1) (fun e3 => pl_neg (by decide) (h54 (by rw [e3, Bool.or_true]) e)) (fun e3 => pl_pos (by decide) ?_)
      refine pl_e (xU_state hcv) ?_
      have h86 : ∀ b : Bool, b = decide (1 ≤ (oT c).toInt) → pl (BC_endSomething_86 L xs (m + 1) d m (b2i b) g r) (kQ w f (zE w c p).2 (zE w c p).1) (kRx w f (zE w c p).1) := by
        intro b hb
        unfold zE
        rw [e, e2, e3, if_neg (by decide), Bool.or_self, if_neg (by decide), ← hb]
        unfold BC_endSomething_86 BC_endSomething_104
        refine pl_rT b rfl h (fun _ => ?_)
        refine pl_adv h hp (fun g1 h1 _ => ?_)
        exact pl_rf h1
      refine pl_if (fun e4 => ?_) (fun e4 => ?_)
      · rw [c2_lt] at e4
        have e4' : (oT c).toInt < 1 := e4
        exact h86 false (by rw [decide_eq_false (by omega : ¬ 1 ≤ (oT c).toInt)])
      · rw [c2_lt] at e4
        have e4' : ¬ (oT c).toInt < 1 := e4
        exact h86 true (by rw [decide_eq_true (by omega : 1 ≤ (oT c).toInt)])
def zD (w : Ws) (c : CU) (p : Nat) : Option RR × (CU × Bool) :=
  if (w.2.1 p).toInt = 12 then ((if oB c 1 2 then zH w p 1 else no p), (sS c 3, false))
  else if (w.2.1 p).toInt = 13 then ((if oB c 3 3 then zH w p 16 else no p), (sZ (sS (sC c true) 4), false))
  else if (w.2.1 p).toInt = 14 then ((if oB c 3 5 then zH w p 16 else no p), (sZ (sS (sC c true) 6), false))
  else if (w.2.1 p).toInt = 15 then ((if oB c 3 6 then zH w p 16 else no p), (sZ (sS (sC c true) 7), false))
  else if (w.2.1 p).toInt = 17 then ((if oB c 4 5 then (if wk w (p + 1) 1 then (if wk w (p + 2) 4 then ok (p + 3) else no (p + 2)) else no (p + 1)) else no p), (sZ (sS c 5), false))
  else (no p, (c, false))
theorem xC_dataClause (L : Nat) (xs : Nat → Int32) {m d : Nat} {w : Ws} {f : Gh} {c : CU} {p : Nat} {g : a2_G} {r : a2_A} (h : Ru w f p g r) (hp : p < w.2.2) (hc : Cv c f.2.1 f.2.2) : pl (ev L xs (m + 1) d nC_dataClause [.ref cC] g r) (kQ w f (zD w c p).2 (zD w c p).1) (kRx w f (zD w c p).1) := by
  cases d with
  | zero => trivial
  | succ d =>
    rw [qC_dataClause]
    refine pl_e (xR_value L xs h.1) ?_
    rw [if_pos hp]
    unfold BC_dataClause_151 BC_dataClause_143 zD
    by_cases e12 : (w.2.1 p).toInt = 12
    · simp only [if_pos e12]
      refine pl_rS (a := 1) (b := 2) h hc (fun _ => ?_)
      refine pl_hd (fun v => ?_)
      refine pl_hg h hp (fun v q g1 r1 _ _ h1 => ?_)
      exact ps_ss ((h1.ps hc).cl v (Or.inl rfl)) (fun g2 r2 h2 => ⟨rfl, q, rfl, h2⟩)
    by_cases e13 : (w.2.1 p).toInt = 13
    · simp only [if_neg e12, if_pos e13]
      refine pl_rS (a := 3) (b := 3) h hc (fun _ => ?_)
      exact pl_n (xC_dataSection 8 4 h hp hc) (fun _ _ _ q => q) (fun _ _ q => q)
    by_cases e14 : (w.2.1 p).toInt = 14
    · simp only [if_neg e12, if_neg e13, if_pos e14]
      refine pl_rS (a := 3) (b := 5) h hc (fun _ => ?_)
      exact pl_n (xC_dataSection 9 6 h hp hc) (fun _ _ _ q => q) (fun _ _ q => q)
    by_cases e15 : (w.2.1 p).toInt = 15
    · simp only [if_neg e12, if_neg e13, if_neg e14, if_pos e15]
      refine pl_rS (a := 3) (b := 6) h hc (fun _ => ?_)
      exact pl_n (xC_dataSection 10 7 h hp hc) (fun _ _ _ q => q) (fun _ _ q => q)
    by_cases e17 : (w.2.1 p).toInt = 17
    · have e16 : ¬ (w.2.1 p).toInt = 16 := by omega
      simp only [if_neg e12, if_neg e13, if_neg e14, if_neg e15, if_neg e16, if_pos e17]
      refine pl_rS (a := 4) (b := 5) h hc (fun _ => ?_)
      exact pl_n (xC_fileDescription h hp hc) (fun _ _ _ q => q) (fun _ _ q => q)
    simp only [if_neg e12, if_neg e13, if_neg e14, if_neg e15, if_neg e17]
    repeat' refine pl_if (fun _ => ?_) (fun _ => ?_)
    all_goals exact pl_rf h
