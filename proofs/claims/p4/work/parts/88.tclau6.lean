/-! One clause of the class. -/
noncomputable def zR (w : Ws) (c : CU) (p : Nat) : Option RR × (CU × Bool) :=
  if (w.2.1 p).toInt = 0 then ((if oG c then (if 10 ≤ oN c then no p else zH w p 1) else no p), (sO (sS c 12), false))
  else if (w.2.1 p).toInt = 2 then ((if oB c 0 0 then (if wk w (p + 1) 1 then (if wk w (p + 2) 4 then ok (p + 3) else no (p + 2)) else no (p + 1)) else no p), (sS (sI c 1 (w.2.1 (p + 1))) 1, false))
  else if (w.2.1 p).toInt = 3 then ((if oB c 0 0 then (if decide (oN c = 1) then (if wk w (p + 1) 1 then (if wk w (p + 2) 4 then ok (p + 3) else no (p + 2)) else no (p + 1)) else no p) else no p), (sS (sI c 2 (w.2.1 (p + 1))) 1, false))
  else if (w.2.1 p).toInt = 4 then ((if oB c 1 1 then zH w p 1 else no p), (sS c 2, false))
  else if (w.2.1 p).toInt = 5 then ((if oB c 2 2 then rv w 28 p 0 false else no p), (c, false))
  else if (w.2.1 p).toInt = 30 then ((if oB c 1 7 then rv w 32 p 0 false else no p), (sS (sC c false) 8, false))
  else if (w.2.1 p).toInt = 32 then ((if oB c 8 8 then (if wk w (p + 1) 4 then ok (p + 2) else no (p + 1)) else no p), (sS c 9, false))
  else if (w.2.1 p).toInt = 33 then zE w c p
  else zD w c p
theorem xC_reservedClause (L : Nat) (xs : Nat → Int32) {m d : Nat} {w : Ws} {f : Gh} {c : CU} {p : Nat} {g : a2_G} {r : a2_A} (h : Ru w f p g r) (hp : p < w.2.2) (hc : Cv c f.2.1 f.2.2) (hn : f.1.toInt < 20) : pl (ev L xs (m + 1) d nC_reservedClause [.ref cC] g r) (kQ w f (zR w c p).2 (zR w c p).1) (kRx w f (zR w c p).1) := by
  cases d with
  | zero => trivial
  | succ d =>
    have hcv := h.cv hc
    rw [qC_reservedClause]
    refine pl_e (xR_value L xs h.1) ?_
    rw [if_pos hp]
    unfold BC_reservedClause_222 zR
    by_cases e0 : (w.2.1 p).toInt = 0
    · simp only [if_pos e0]
      exact pl_n (xC_identification h hp hc) (fun _ _ _ q => q) (fun _ _ q => q)
    by_cases e2 : (w.2.1 p).toInt = 2
    · simp only [if_neg e0, if_pos e2]
      refine pl_rS (a := 0) (b := 0) h hc (fun _ => ?_)
      exact pl_n (xC_unitName 1 h hp hc) (fun _ _ _ q => q) (fun _ _ q => q)
    by_cases e3 : (w.2.1 p).toInt = 3
    · simp only [if_neg e0, if_neg e2, if_pos e3]
      refine pl_rS (a := 0) (b := 0) h hc (fun _ => ?_)
      refine pl_e xU_openCount ?_
      have h124 : ∀ b : Bool, b = decide (oN c = 1) → pl (BC_reservedClause_124 L xs (m + 1) d m (b2i b) g r) (kQ w f (sS (sI c 2 (w.2.1 (p + 1))) 1, false) (if decide (oN c = 1) then (if wk w (p + 1) 1 then (if wk w (p + 2) 4 then ok (p + 3) else no (p + 2)) else no (p + 1)) else no p)) (kRx w f (if decide (oN c = 1) then (if wk w (p + 1) 1 then (if wk w (p + 2) 4 then ok (p + 3) else no (p + 2)) else no (p + 1)) else no p)) := by
        intro b hb
        rw [← hb]
        unfold BC_reservedClause_124 BC_reservedClause_222
        refine pl_rT b rfl h (fun _ => ?_)
        exact pl_n (xC_unitName 2 h hp hc) (fun _ _ _ q => q) (fun _ _ q => q)
      refine pl_if (fun e => ?_) (fun e => ?_)
      · rw [c2_ne] at e
        exact h124 false (by rw [decide_eq_false (fun e1 => e (Int32.toInt_inj.mp (by rw [hcv.1, e1]; rfl)))])
      · rw [c2_ne, Decidable.not_not] at e
        refine h124 true ?_
        have e1 := hcv.1
        rw [e] at e1
        have e1' : (1 : Int) = oN c := e1
        rw [decide_eq_true (by omega : oN c = 1)]
    by_cases e4 : (w.2.1 p).toInt = 4
    · simp only [if_neg e0, if_neg e2, if_neg e3, if_pos e4]
      refine pl_rS (a := 1) (b := 1) h hc (fun _ => ?_)
      refine pl_hd (fun v => ?_)
      refine pl_hg h hp (fun v q g1 r1 _ _ h1 => ?_)
      exact ps_ss ((h1.ps hc).cl v (Or.inl rfl)) (fun g2 r2 h2 => ⟨rfl, q, rfl, h2⟩)
    by_cases e5 : (w.2.1 p).toInt = 5
    · simp only [if_neg e0, if_neg e2, if_neg e3, if_neg e4, if_pos e5]
      refine pl_rS (a := 2) (b := 2) h hc (fun _ => ?_)
      refine pl_n (xC_select L xs (l := 0) h hp) (fun _ _ _ q => q) (fun g1 r1 q => ?_)
      obtain ⟨-, q1, e1, h1⟩ := q
      exact ⟨rfl, q1, e1, h1.ps hc⟩
    by_cases e30 : (w.2.1 p).toInt = 30
    · simp only [if_neg e0, if_neg e2, if_neg e3, if_neg e4, if_neg e5, if_pos e30]
      refine pl_rS (a := 1) (b := 7) h hc (fun _ => ?_)
      exact pl_n (xC_procedure 0 h hp hc) (fun _ _ _ q => q) (fun _ _ q => q)
    by_cases e32 : (w.2.1 p).toInt = 32
    · simp only [if_neg e0, if_neg e2, if_neg e3, if_neg e4, if_neg e5, if_neg e30, if_pos e32]
      refine pl_rS (a := 8) (b := 8) h hc (fun _ => ?_)
      exact pl_n (xC_beginDeclaratives h hp hc) (fun _ _ _ q => q) (fun _ _ q => q)
    by_cases e33 : (w.2.1 p).toInt = 33
    · simp only [if_neg e0, if_neg e2, if_neg e3, if_neg e4, if_neg e5, if_neg e30, if_neg e32, if_pos e33]
      exact pl_n (xC_endSomething L xs h hp hc hn) (fun _ _ _ q => q) (fun _ _ q => q)
    simp only [if_neg e0, if_neg e2, if_neg e3, if_neg e4, if_neg e5, if_neg e30, if_neg e32, if_neg e33]
    exact pl_n (xC_dataClause L xs h hp hc) (fun _ _ _ q => q) (fun _ _ q => q)
/-- ONE CLAUSE: how it is read, and what it leaves -/
noncomputable def zC (w : Ws) (c : CU) (p : Nat) : Option RR × (CU × Bool) :=
  if wk w p 1 then ((if oB c 8 11 then (if ww w (p + 1) 16 || (!decide (oT c = 9) || oC c) then (if wk w (sk (ww w (p + 1) 16) (p + 1)) 4 then ok (sk (ww w (p + 1) 16) (p + 1) + 1) else no (sk (ww w (p + 1) 16) (p + 1))) else no p) else no p), (eB (if ww w (p + 1) 16 then sC c true else c), false))
  else if wk w p 2 then ((if oB c 5 7 then (zIt w c p).1 else no p), (zIt w c p).2)
  else if wb w p then ((if oB c 8 11 then (if !decide (oT c = 9) || oC c then bd (rv w 10 p 0 false) (fun q _ => if wk w q 4 then ok (q + 1) else no q) else no p) else no p), (eB c, false))
  else if wk w p 0 then zR w c p
  else (no p, (c, false))
theorem xC_readClause (L : Nat) (xs : Nat → Int32) {m d : Nat} {w : Ws} {f : Gh} {c : CU} {p : Nat} {g : a2_G} {r : a2_A} (h : Ru w f p g r) (hp : p < w.2.2) (hc : Cv c f.2.1 f.2.2) (hn : f.1.toInt < 20) : pl (ev L xs (m + 1) d nC_readClause [.ref cC] g r) (kQ w f (zC w c p).2 (zC w c p).1) (kRx w f (zC w c p).1) := by
  cases d with
  | zero => trivial
  | succ d =>
    rw [qC_readClause]
    unfold BC_readClause_89 zC
    refine pl_u (xR_isKind L xs 1 h.1) (fun e => pl_neg (by decide) ?_) (fun e => pl_pos (by decide) ?_)
    · rw [e, if_pos rfl]
      exact pl_n (xC_sectionOrParagraph h e hc) (fun _ _ _ q => q) (fun _ _ q => q)
    rw [e, if_neg (by decide)]
    refine pl_u (xR_isKind L xs 2 h.1) (fun e2 => pl_neg (by decide) ?_) (fun e2 => pl_pos (by decide) ?_)
    · rw [e2, if_pos rfl]
      refine pl_rS (a := 5) (b := 7) h hc (fun _ => ?_)
      exact pl_n (xI_readItem L xs h hp hc) (fun _ _ _ q => q) (fun _ _ q => q)
    rw [e2, if_neg (by decide)]
    refine pl_u (xS_isNext L xs h.1) (fun e3 => pl_neg (by decide) ?_) (fun e3 => pl_pos (by decide) ?_)
    · rw [e3, if_pos rfl]
      exact pl_n (xC_sentence h hc) (fun _ _ _ q => q) (fun _ _ q => q)
    rw [e3, if_neg (by decide)]
    refine pl_u (xR_isKind L xs 0 h.1) (fun e4 => pl_neg (by decide) ?_) (fun e4 => pl_pos (by decide) ?_)
    · rw [e4, if_pos rfl]
      exact pl_n (xC_reservedClause L xs h hp hc hn) (fun _ _ _ q => q) (fun _ _ q => q)
    rw [e4, if_neg (by decide)]
    exact pl_rf h
