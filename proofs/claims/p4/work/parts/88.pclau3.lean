/-! The class's clauses: divisions, data sections, FD, ID, END. -/
def kRp (w : Ws) (f : Gh) (z : Option RR) : Option Value → a2_G → a2_A → Prop := fun o g r => (∃ v : Int32, o = some (.int v) ∧ 0 ≤ v.toInt) ∧ ∃ q, z = ok q ∧ Ru w f q g r
/-- a heading's two words and period -/
def zH (w : Ws) (p : Nat) (b : Int32) : Option RR := if ww w (p + 1) b then (if wk w (p + 2) 4 then ok (p + 3) else no (p + 2)) else no (p + 1)
section
variable {L : Nat} {xs : Nat → Int32} {m d : Nat} {w : Ws} {f : Gh} {n : Int32} {p : Nat} {c : CU} {g : a2_G} {r : a2_A} {z : Option fn_Z} {k : Int32 → a2_G → a2_A → Option fn_Z} {kn : a2_G → a2_A → Option fn_Z} {Q : Option Value → a2_G → a2_A → Prop} {X : Nat → a2_G → a2_A → Prop} {PQ : Option RR → Option Value → a2_G → a2_A → Prop}
theorem xC_headingP (a b e : Int32) (h : Ru w f p g r) (hp : p < w.2.2) : pl (ev L xs (m + 1) d nC_heading [.ref cC, .int a, .int b, .int e] g r) (kRp w f (zH w p b)) (kRx w f (zH w p b)) := by
  cases d with
  | zero => trivial
  | succ d =>
    rw [qC_heading]
    unfold zH
    refine pl_e (xR_place L xs) ?_
    refine pl_mk h (fun g1 r1 h1 _ => ?_)
    refine pl_adv h1 hp (fun g2 h2 _ => ?_)
    refine pl_rq h2 (fun _ g3 h3 _ => ?_)
    refine pl_rk h3 (fun _ g4 h4 _ => ?_)
    exact pl_ap h4 (fun g5 r5 h5 _ => ⟨⟨_, rfl, h.2.1⟩, _, rfl, h5⟩)
/-- a heading, and what comes behind it -/
theorem pl_hg {C : CU × Bool} {a b e : Int32} (h : Ru w f p g r) (hp : p < w.2.2) (hk : ∀ v q g' r', 0 ≤ v.toInt → zH w p b = ok q → Ru w f q g' r' → pl (k v g' r') (kQ w f C (ok q)) (kRx w f (ok q))) : pl (fn_v (ev L xs (m + 1) d nC_heading [.ref cC, .int a, .int b, .int e] g r) k) (kQ w f C (zH w p b)) (kRx w f (zH w p b)) := pl_v (xC_headingP a b e h hp) (fun _ _ _ q => q) (fun v g' r' q => by
    obtain ⟨⟨v', e1, e2⟩, q1, e3, e4⟩ := q
    cases e1
    have := hk v q1 g' r' e2 e3 e4
    rw [e3]
    exact this)
theorem xC_dataSection (a b : Int32) (h : Ru w f p g r) (hp : p < w.2.2) (hc : Cv c f.2.1 f.2.2) : pl (ev L xs (m + 1) d nC_dataSection [.ref cC, .int a, .int b] g r) (kQ w f (sZ (sS (sC c true) b), false) (zH w p 16)) (kRx w f (zH w p 16)) := by
  cases d with
  | zero => trivial
  | succ d =>
    rw [qC_dataSection]
    refine pl_hg h hp (fun v q g1 r1 hv _ h1 => ?_)
    refine ps_ss ((h1.ps hc).sc v (b := true) (fun e => ?_)) (fun g2 r2 h2 => ?_)
    · rw [e] at hv
      exact absurd hv (by decide)
    · refine pl_n (xI_startIn _ h2) (fun _ _ _ e => e.elim) (fun g3 r3 e => ?_)
      exact ⟨rfl, q, rfl, e.2⟩
theorem xC_fileDescription (h : Ru w f p g r) (hp : p < w.2.2) (hc : Cv c f.2.1 f.2.2) : pl (ev L xs (m + 1) d nC_fileDescription [.ref cC] g r) (kQ w f (sZ (sS c 5), false) (if wk w (p + 1) 1 then (if wk w (p + 2) 4 then ok (p + 3) else no (p + 2)) else no (p + 1))) (kRx w f (if wk w (p + 1) 1 then (if wk w (p + 2) 4 then ok (p + 3) else no (p + 2)) else no (p + 1))) := by
  cases d with
  | zero => trivial
  | succ d =>
    rw [qC_fileDescription]
    refine pl_e (xR_place L xs) ?_
    refine pl_adv h hp (fun g1 h1 _ => ?_)
    refine pl_rk h1 (fun _ g2 h2 _ => ?_)
    refine pl_mk h2 (fun g3 r3 h3 _ => ?_)
    refine pl_rk h3 (fun _ g4 h4 _ => ?_)
    refine ps_ap (h4.ps hc) (fun g5 r5 h5 _ => ?_)
    refine ps_ss h5 (fun g6 r6 h6 => ?_)
    refine pl_n (xI_startIn _ h6) (fun _ _ _ e => e.elim) (fun g7 r7 e => ?_)
    exact ⟨rfl, _, rfl, e.2⟩
/-- may a unit begin here -/
def oG (c : CU) : Bool := decide (oN c = 0) || decide (oK c (oN c - 1) = 1) && (decide (1 ≤ (oT c).toInt) && !decide (oT c = 9))
theorem xC_identification (h : Ru w f p g r) (hp : p < w.2.2) (hc : Cv c f.2.1 f.2.2) : pl (ev L xs (m + 1) d nC_identification [.ref cC] g r) (kQ w f (sO (sS c 12), false) (if oG c then (if 10 ≤ oN c then no p else zH w p 1) else no p)) (kRx w f (if oG c then (if 10 ≤ oN c then no p else zH w p 1) else no p)) := by
  cases d with
  | zero => trivial
  | succ d =>
    have hcv := h.cv hc
    have h34 : ∀ b : Bool, b = oG c → pl (BC_identification_34 L xs (m + 1) d m (b2i b) g r) (kQ w f (sO (sS c 12), false) (if oG c then (if 10 ≤ oN c then no p else zH w p 1) else no p)) (kRx w f (if oG c then (if 10 ≤ oN c then no p else zH w p 1) else no p)) := by
      intro b hb
      rw [← hb]
      unfold BC_identification_34
      refine pl_rT b rfl h (fun _ => ?_)
      refine pl_u (xU_isFull hcv) (fun e => pl_neg (by decide) ?_) (fun e => pl_pos (by decide) ?_)
      · rw [if_pos (of_decide_eq_true e)]
        exact pl_rf h
      · have e' := of_decide_eq_false e
        rw [if_neg e']
        unfold BC_identification_55
        refine pl_hd (fun v => ?_)
        refine pl_hg h hp (fun v q g1 r1 hv _ h1 => ?_)
        refine ps_ss (h1.ps hc) (fun g2 r2 h2 => ?_)
        have e9 : oN (sS c 12) = oN c := by
          unfold sS
          split <;> rfl
        refine pl_n (xU_open v h2 (by rw [e9]; omega)) (fun _ _ _ e => e.elim) (fun g3 r3 e => ?_)
        exact ⟨rfl, q, rfl, e.2⟩
    rw [qC_identification]
    unfold BC_identification_29 BC_identification_33
    refine pl_e xU_openCount ?_
    refine pl_if (fun e => ?_) (fun e => ?_)
    · rw [c2_eq] at e
      have e0 : oN c = 0 := by
        have := hcv.1
        rw [e] at this
        have : (0 : Int) = oN c := this
        omega
      exact h34 true (by unfold oG; rw [decide_eq_true e0]; rfl)
    · rw [c2_eq] at e
      have e0 : ¬ oN c = 0 := fun e0 => e (Int32.toInt_inj.mp (by rw [hcv.1, e0]; rfl))
      refine pl_e (xU_kind hcv) ?_
      rw [if_neg e0]
      refine pl_if (fun e2 => ?_) (fun e2 => ?_)
      · rw [c2_ne] at e2
        exact h34 false (by unfold oG; rw [decide_eq_false e0, decide_eq_false e2]; rfl)
      · rw [c2_ne, Decidable.not_not] at e2
        refine pl_u (xC_mayEndOrContain hcv) (fun e3 => pl_neg (by decide) ?_) (fun e3 => pl_pos (by decide) ?_)
        · exact h34 true (by unfold oG; rw [decide_eq_false e0, decide_eq_true e2, e3]; rfl)
        · exact h34 false (by unfold oG; rw [decide_eq_false e0, decide_eq_true e2, e3]; rfl)
theorem xR_note (a b : Int32) (h : PS w n p c g r) (hn : n.toInt < 20) : pl (ev L xs (m + 1) d nR_note [.ref cR, .int a, .int b] g r) (fun o g' r' => o = none ∧ PS w (n + 1) p c g' r') kN := by
  cases d with
  | zero => trivial
  | succ d =>
    rw [qR_note]
    unfold BR_note_39
    obtain ⟨⟨q1, q2, q3, q4, q5, q6, q7⟩, q8, q9⟩ := h
    refine pl_neg (by rw [c2_ge, q7]; show ¬ (20 : Int) ≤ n.toInt; omega) ?_
    refine pl_if (fun _ => pl_if (fun _ => ?_) (fun _ => trivial)) (fun _ => trivial)
    exact ⟨rfl, ⟨q1, q2, q3, q4, q5, q6, by show g fR_faultSize + 1 = n + 1; rw [q7]⟩, q8, q9⟩
/-- END PROGRAM, END FUNCTION: which word must come -/
def oW (c : CU) : Int32 := if (if oN c = 0 then -1 else oK c (oN c - 1)) = 2 then 35 else 34
theorem xC_endUnit (h : Ru w f p g r) (hp : p < w.2.2) (hc : Cv c f.2.1 f.2.2) (hn : f.1.toInt < 20) : pl (ev L xs (m + 1) d nC_endUnit [.ref cC] g r) (kQ w f (sX c, decide (¬ w.2.1 (p + 2) = (if oN c = 0 then -1 else oM c (oN c - 1)))) (if ww w (p + 1) (oW c) then (if wk w (p + 2) 1 then (if wk w (p + 3) 4 then ok (p + 4) else no (p + 3)) else no (p + 2)) else no (p + 1))) (kRx w f (if ww w (p + 1) (oW c) then (if wk w (p + 2) 1 then (if wk w (p + 3) 4 then ok (p + 4) else no (p + 3)) else no (p + 2)) else no (p + 1))) := by
  cases d with
  | zero => trivial
  | succ d =>
    have h29 : ∀ x g r, x = oW c → Ru w f (p + 1) g r → pl (BC_endUnit_29 L xs (m + 1) d m x g r) (kQ w f (sX c, decide (¬ w.2.1 (p + 2) = (if oN c = 0 then -1 else oM c (oN c - 1)))) (if ww w (p + 1) (oW c) then (if wk w (p + 2) 1 then (if wk w (p + 3) 4 then ok (p + 4) else no (p + 3)) else no (p + 2)) else no (p + 1))) (kRx w f (if ww w (p + 1) (oW c) then (if wk w (p + 2) 1 then (if wk w (p + 3) 4 then ok (p + 4) else no (p + 3)) else no (p + 2)) else no (p + 1))) := by
      intro x g r hx h
      rw [← hx]
      unfold BC_endUnit_29 BC_endUnit_78
      refine pl_rq h (fun _ g1 h1 _ => ?_)
      refine pl_e (xR_place L xs) ?_
      refine pl_rk h1 (fun _ g2 h2 _ => ?_)
      refine pl_rk h2 (fun _ g3 h3 _ => ?_)
      have hp3 := h3.ps hc
      refine pl_e (xU_name hp3.2.2) ?_
      refine pl_if (fun e => ?_) (fun e => ?_)
      · rw [c2_eq] at e
        rw [decide_eq_false (Decidable.not_not.mpr e)]
        exact pl_n (xU_close hp3) (fun _ _ _ q => q.elim) (fun g4 r4 q => ⟨rfl, _, rfl, q.2⟩)
      · rw [c2_eq] at e
        rw [decide_eq_true e]
        refine pl_n (xR_note 2 _ hp3 hn) (fun _ _ _ q => q.elim) (fun g4 r4 q => ?_)
        exact pl_n (xU_close q.2) (fun _ _ _ q => q.elim) (fun g5 r5 q => ⟨rfl, _, rfl, q.2⟩)
    rw [qC_endUnit]
    refine pl_adv h hp (fun g1 h1 _ => ?_)
    refine pl_e (xU_kind (h1.cv hc)) ?_
    refine pl_if (fun e => ?_) (fun e => ?_)
    · rw [c2_ne] at e
      exact h29 34 g1 r (by unfold oW; rw [if_neg e]) h1
    · rw [c2_ne, Decidable.not_not] at e
      exact h29 35 g1 r (by unfold oW; rw [if_pos e]) h1
end
