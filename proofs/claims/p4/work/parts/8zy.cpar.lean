/-! The class's loop over clauses, with its tree. -/
section
variable {L : Nat} {xs : Nat → Int32} {m d k : Nat} {w : Ws} {nf : Int32} {p : Nat} {c : CU} {x : Xs} {g : a2_G} {r : a2_A}
/-- nothing is numbered -/
def kz0 (g : a2_G) : Prop := g fT_numbered = 0 ∧ g fT_units = 0 ∧ g fT_greatestLevel = 0
theorem kz0.kp {g g' : a2_G} (h : kz0 g) (a : kpS g g') : kz0 g' := ⟨a.1.trans h.1, a.2.1.trans h.2.1, a.2.2.trans h.2.2⟩
def CY (w : Ws) (nf : Int32) (p : Nat) (c : CU) (x : Xs) (g : a2_G) (r : a2_A) : Prop := PS w nf p c g r ∧ kz0 g ∧ 0 ≤ nf.toInt ∧ (nf = 0 → TS c x g r)
theorem TS.len (h : TS c x g r) : oN c < x.1.length := by
  obtain ⟨n, D, K, ids, h1, h2, h3, -⟩ := h
  rw [← Zc.len h2]
  by_cases e : oN c = 0
  · rw [e]
    exact h3.1.lt
  · have := (h3.2.1 (oN c - 1) (by omega)).lt
    omega
theorem nb_0 {n : Int32} {b : Bool} (h0 : 0 ≤ n.toInt) (h20 : n.toInt < 20) (h : nb n b = 0) : n = 0 := by
  unfold nb at h
  split at h
  · have h1 : (n + 1).toInt = n.toInt + 1 := i32_inc (by omega)
    rw [h] at h1
    have h00 : (0 : Int32).toInt = 0 := rfl
    omega
  · exact h
theorem nb_ge {n : Int32} {b : Bool} (h0 : 0 ≤ n.toInt) (h20 : n.toInt < 20) : 0 ≤ (nb n b).toInt := by
  unfold nb
  split
  · rw [i32_inc (by omega)]
    omega
  · exact h0
/-- one clause, as the loop sees it -/
theorem yC_turn (h : CY w nf p c x g r) (hp : p < w.2.2 ∧ nf.toInt < 20) : pl (ev L xs (m + 1) d nC_readClause [.ref cC] g r) (fun _ g' r' => ∃ q x', (zC w c p).1 = some (.inl (q, false)) ∧ CY w (nb nf (zC w c p).2.2) q (zC w c p).2.1 x' g' r' ∧ (nb nf (zC w c p).2.2 = 0 → nf = 0 ∧ yC w c x p = some (q, x') ∧ q ≤ w.2.2 ∧ oN c < x.1.length ∧ ∀ i, i + 1 < oN c → oS c i = 12)) (fun _ g' r' => ∃ b, (zC w c p).1 = some (.inr b) ∧ PS w nf b c g' r' ∧ kz0 g') := by
  obtain ⟨hP, hk, hn0, hT⟩ := h
  have hz : pl (ev L xs (m + 1) d nC_readClause [.ref cC] g r) (fun o g' r' => nf = 0 → kTC (yC w c x p) (zC w c p).2.1 o g' r') (fun _ _ _ => True) := by
    by_cases e0 : nf = 0
    · obtain ⟨n1, D1, K1, is1, hR, hZ, hH, h12, h53⟩ := hT e0
      exact pl_mono (yC_readClause (f := (nf, g, r)) ⟨hP.ru.1, hR⟩ hp.1 hP.2.2 hZ hH h12 h53) (fun o g' r' q _ => q) (fun _ _ _ _ => trivial)
    · exact pl_mono pl_true (fun o g' r' _ e => absurd e e0) (fun _ _ _ _ => trivial)
  refine pl_mono (pl_and (xC_turn hP hp) (pl_and hz (pl_kp (by decide)))) (fun o g' r' q => ?_) (fun y g' r' q => ?_)
  · obtain ⟨⟨q1, e1, hP1⟩, q2, q3⟩ := q
    by_cases hz0 : nb nf (zC w c p).2.2 = 0
    · have e0 := nb_0 hn0 hp.2 hz0
      obtain ⟨q', x', e2, e3, e4⟩ := q2 e0
      have hqq : q' = q1 := by
        have := hP1.1.2.2.2.1
        omega
      subst hqq
      obtain ⟨n1, D1, K1, is1, hR, hZ, hH, h12, h53⟩ := hT e0
      exact ⟨q', x', e1, ⟨hP1, hk.kp q3, nb_ge hn0 hp.2, fun _ => e4⟩, fun _ => ⟨e0, e2, hP1.1.2.2.2.2.1, (hT e0).len, h12⟩⟩
    · exact ⟨q1, x, e1, ⟨hP1, hk.kp q3, nb_ge hn0 hp.2, fun e => absurd e hz0⟩, fun e => absurd e hz0⟩
  · obtain ⟨⟨b, e1, hP1⟩, -, q3⟩ := q
    exact ⟨b, e1, hP1, hk.kp q3⟩
theorem yR_recover (h : PS w nf p c g r) (hk : kz0 g) (h0 : 0 ≤ nf.toInt) (hn : nf.toInt < 20) : pl (ev L xs (m + 1) d nR_recover [.ref cR] g r) (fun o g' r' => o = none ∧ CY w (nf + 1) (rc w p) c x g' r') kN := by
  have hn1 : (nf + 1).toInt = nf.toInt + 1 := i32_inc (by omega)
  refine pl_mono (pl_and (xR_recover L xs h hn) (pl_kp (by decide))) (fun o g' r' q => ⟨q.1.1, q.1.2, hk.kp q.2, by omega, fun e => ?_⟩) (fun _ _ _ q => q.1)
  rw [e] at hn1
  have h00 : (0 : Int32).toInt = 0 := rfl
  omega
theorem yC_checkEnd (h : PS w nf p c g r) (hE : oE c = false) : pl (ev L xs (m + 1) d nC_checkEnd [.ref cC] g r) (fun o g' r' => g' = g ∧ r' = r) kN := by
  cases d with
  | zero => trivial
  | succ d =>
    have hcv := h.2.2
    have h56 : oE c = true → ∀ x1 x2, pl (BC_checkEnd_56 L xs (m + 1) d m x1 x2 g r) (fun o g' r' => g' = g ∧ r' = r) kN := by
      intro e x1 x2
      rw [hE] at e
      cases e
    have h71 : oE c = false → ∀ x1 x2, pl (BC_checkEnd_71 L xs (m + 1) d m x1 x2 g r) (fun o g' r' => g' = g ∧ r' = r) kN := by
      intro e x1 x2
      exact ⟨rfl, rfl⟩
    have h29 : ∀ (x1 : Int32) (b : Bool), b = !(decide (oT c = 0) || decide (oT c = 9) || decide (oT c = 12)) → pl (BC_checkEnd_29 L xs (m + 1) d m x1 (b2i b) g r) (fun o g' r' => g' = g ∧ r' = r) kN := by
      intro x1 b hb
      unfold BC_checkEnd_29
      refine pl_e xU_openCount ?_
      refine pl_if (fun e => ?_) (fun e => ?_)
      · rw [c2_gt, hcv.1] at e
        have e' : (1 : Int) < oN c := e
        exact h56 (by unfold oE; rw [decide_eq_true (by omega : 1 < oN c)]; rfl) _ _
      · rw [c2_gt, hcv.1] at e
        have e' : ¬ (1 : Int) < oN c := e
        refine pl_e xU_openCount ?_
        refine pl_if (fun e2 => ?_) (fun e2 => ?_)
        · exact h71 hE _ _
        · rw [c2_ne, Decidable.not_not] at e2
          have e3 : oN c = 1 := by
            have e4 := hcv.1
            rw [e2] at e4
            have e4' : (1 : Int) = oN c := e4
            omega
          have e5 : oE c = !b := by
            unfold oE
            rw [decide_eq_false (by omega : ¬ 1 < oN c), decide_eq_true e3, hb, Bool.not_not]
            rfl
          cases b with
          | true => exact pl_pos (by decide) (h71 e5 _ _)
          | false => exact pl_neg (by decide) (h56 e5 _ _)
    rw [qC_checkEnd]
    unfold BC_checkEnd_28
    refine pl_e (xU_state hcv) ?_
    refine pl_if (fun e => ?_) (fun e => ?_)
    · rw [c2_eq] at e
      exact h29 _ false (by rw [decide_eq_true e]; rfl)
    · rw [c2_eq] at e
      refine pl_if (fun e2 => ?_) (fun e2 => ?_)
      · rw [c2_eq] at e2
        exact h29 _ false (by rw [decide_eq_true e2, Bool.or_true]; rfl)
      · rw [c2_eq] at e2
        refine pl_if (fun e3 => ?_) (fun e3 => ?_)
        · rw [c2_eq] at e3
          exact h29 _ false (by rw [decide_eq_true e3, Bool.or_true]; rfl)
        · rw [c2_eq] at e3
          exact h29 _ true (by rw [decide_eq_false e, decide_eq_false e2, decide_eq_false e3]; rfl)
/-- behind checkEnd: faults, or all is in order and the tree stands -/
def CE (w : Ws) (nf : Int32) (p : Nat) (c : CU) (x : Xs) (g : a2_G) (r : a2_A) : Prop := kz0 g ∧ (g fR_faultSize ≠ 0 ∧ 0 ≤ (g fR_faultSize).toInt ∨ g fR_faultSize = 0 ∧ nf = 0 ∧ oE c = false ∧ TS c x g r)
theorem yC_end (h : CY w nf p c x g r) : pl (ev L xs (m + 1) d nC_checkEnd [.ref cC] g r) (fun o g' r' => o = none ∧ PS w (if oE c then nx nf else nf) p c g' r' ∧ CE w nf p c x g' r') kN := by
  obtain ⟨hP, hk, hn0, hT⟩ := h
  have hz : pl (ev L xs (m + 1) d nC_checkEnd [.ref cC] g r) (fun o g' r' => oE c = false → g' = g ∧ r' = r) kN := by
    cases hE : oE c with
    | true => exact pl_mono (xC_checkEnd L xs hP) (fun o g' r' q e => by cases e) (fun _ _ _ e => e)
    | false => exact pl_mono (yC_checkEnd hP hE) (fun o g' r' q e => q) (fun _ _ _ e => e)
  refine pl_mono (pl_and (xC_checkEnd L xs hP) (pl_and hz (pl_kp (by decide)))) (fun o g' r' q => ?_) (fun _ _ _ q => q.1)
  obtain ⟨⟨q1, q2⟩, q3, q4⟩ := q
  refine ⟨q1, q2, hk.kp q4, ?_⟩
  have hfs := q2.1.2.2.2.2.2.2
  have h00 : (0 : Int32).toInt = 0 := rfl
  cases hE : oE c with
  | true =>
    rw [hE, if_pos rfl] at hfs
    left
    have hnx : 0 < (nx nf).toInt := by
      unfold nx
      split
      · rw [i32_inc (by omega)]
        omega
      · omega
    rw [hfs]
    refine ⟨fun e => ?_, by omega⟩
    rw [e] at hnx
    omega
  | false =>
    rw [hE] at hfs
    have hfs' : g' fR_faultSize = nf := hfs
    by_cases e0 : nf = 0
    · right
      obtain ⟨rfl, rfl⟩ := q3 hE
      exact ⟨hfs'.trans e0, e0, rfl, hT e0⟩
    · left
      rw [hfs']
      exact ⟨e0, hn0⟩
/-- the class's tree at the end, numbered -/
def TCF (y : CU × Xs × Nat) (g : a2_G) (r : a2_A) : Prop := ∃ n D K F, Rc n D K g r ∧ NZ n F ∧ Dn K 0 ((0, 0) :: F) ∧ tr D ((0, 0) :: F) = clp y.2.1.1 ∧ NC D F g r
theorem yP_finish (h : CE w nf p c x g r) (un : Nat) : pl (ev L xs (m + 1) d nP_finish [.ref cP] g r) (fun o g' r' => g' fR_faultSize = 0 ∧ o = some (.int (g' fT_units)) ∧ nf = 0 ∧ oE c = false ∧ TCF (c, x, un) g' r') (fun _ g' r' => g' fR_faultSize ≠ 0 ∧ kz0 g') := by
  obtain ⟨hk, hF⟩ := h
  have h00 : (0 : Int32).toInt = 0 := rfl
  cases d with
  | zero => trivial
  | succ d =>
    rw [qP_finish]
    cases d with
    | zero => trivial
    | succ d =>
      refine pl_n (Q1 := fun _ g1 r1 => g1 = upd (upd g fR_size 0) fR_at 0 ∧ r1 = r) (X1 := kN) (by rw [qR_clear]; exact ⟨rfl, rfl⟩) (fun _ _ _ e => e.elim) (fun g1 r1 e => ?_)
      obtain ⟨rfl, rfl⟩ := e
      refine pl_v (Q1 := fun o g2 r2 => o = some (.int (g fR_faultSize)) ∧ g2 = upd (upd g fR_size 0) fR_at 0 ∧ r2 = r1) (X1 := kN) (by rw [qR_faultCount]; exact ⟨rfl, rfl, rfl⟩) (fun _ _ _ e => e.elim) (fun v g2 r2 e => ?_)
      obtain ⟨e1, rfl, rfl⟩ := e
      cases e1
      rcases hF with ⟨f1, f2⟩ | ⟨f1, f2, f3, f4⟩
      · refine pl_neg ?_ ⟨f1, hk⟩
        rw [c2_le, h00]
        intro e
        exact f1 (i32e (by rw [h00]; omega))
      · refine pl_pos (by rw [f1]; decide) ?_
        obtain ⟨n1, D1, K1, is1, hR, hZ, hH, h12, h53⟩ := f4
        have hlt := hR.lt
        obtain ⟨F', hD, hT2, hl, hnd⟩ := Zc.root hZ hH.1 (by omega)
        obtain ⟨kk, hkk⟩ := hD
        obtain ⟨G, rfl⟩ := po_hd hkk
        have hz : NZ n1 (up1 G) := ⟨hnd, fun y hy => (hl y hy).2⟩
        have hR' : Rc n1 D1 K1 (upd (upd g fR_size 0) fR_at 0) r2 := hR
        have hcp : pl (ev L xs (m + 1) (d + 1) nT_number [.ref cT] (upd (upd g fR_size 0) fR_at 0) r2) (fun o g' r' => True ∧ cpF cpTT (upd (upd g fR_size 0) fR_at 0) r2 g' r') (fun o g' r' => True ∧ cpF cpTT (upd (upd g fR_size 0) fR_at 0) r2 g' r') := pl_cp cp_T (cpS.int (by decide) rfl ai0) pl_true
        refine pl_n (pl_and (yT_number hz hR' ⟨kk, hkk⟩ hk.1 hk.2.1 hk.2.2) hcp) (fun _ _ _ e => e.1.elim) (fun g3 r3 e => ?_)
        obtain ⟨⟨-, hR3, hN⟩, -, hc⟩ := e
        rw [qT_unitCount]
        have ef : g3 fR_faultSize = g fR_faultSize := hc.1 fR_faultSize (by unfold cpTT; decide)
        exact ⟨ef.trans f1, rfl, f2, f3, n1, D1, K1, up1 G, hR3, hz, ⟨kk, hkk⟩, hT2.symm, hN⟩
/-- a tree begun -/
theorem yT_start (hC : 12 ≤ (r fT_cells).1) (hC2 : (r fT_cells).1 ≤ 60000000) : pl (ev L xs (m + 1) d nT_start [.ref cT] g r) (fun o g' r' => kz0 g' ∧ Rc 1 (fD (fun _ => (0, 0, 0, 0)) 0 (-1, 0, -1, -1)) (fK (fun _ => []) 0 []) g' r') kN := by
  cases d with
  | zero => trivial
  | succ d =>
    rw [qT_start]
    have hmk : pl (ev L xs (m + 1) d nT_make [.ref cT, .int (-1), .int 0, .int (-1)] (upd (upd (upd (upd g fT_made 0) fT_numbered 0) fT_units 0) fT_greatestLevel 0) r) (fun o g' r' => Rc 1 (fD (fun _ => (0, 0, 0, 0)) 0 (-1, 0, -1, -1)) (fK (fun _ => []) 0 []) g' r') kN := by
      cases d with
      | zero => trivial
      | succ d =>
        have c1 : ((upd (upd (upd (upd g fT_made 0) fT_numbered 0) fT_units 0) fT_greatestLevel 0) fT_made).toInt = (0 : Nat) := rfl
        have c0 : (upd (upd (upd (upd g fT_made 0) fT_numbered 0) fT_units 0) fT_greatestLevel 0) fT_made = 0 := rfl
        rw [qT_make]
        unfold BT_make_40
        rw [c0]
        have e1 : ((0 : Int32) * 12).toInt = 12 * (0 : Nat) := rfl
        have c5 : Cz 0 (fun _ => ((0, 0, 0, 0) : TD)) (fun _ => []) (r fT_cells).2 := ⟨fun i hi => absurd hi (by omega), fun i hi => absurd hi (by omega), fun i hi => absurd hi (by omega), ⟨fun i hi => absurd hi (by omega), fun i hi => absurd hi (by omega)⟩, fun i hi => absurd hi (by omega), fun hi => absurd hi (by omega)⟩
        refine pl_pos ?_ ?_
        · rw [c2_le, on_eq (by omega)]
          show (12 : Int) ≤ _
          omega
        · refine pl_mono (xT_make43c L xs (-1) 0 (-1) _ c1 (by omega) e1 _ 0 0 r rfl (by omega) (by omega) hC2 (fun _ _ => rfl) (fun t ht => by omega)) (fun o g' r' q => ?_) (fun _ _ _ e => e)
          obtain ⟨q1, q2, q3, q4, q5, q6, q7, q8, q9, q10, q11⟩ := q
          exact ⟨q2, by omega, by omega, q4, c5.mk q5 q6 q7 q8 (q11 3 (by omega) (by omega)) (q11 4 (by omega) (by omega)) (q11 5 (by omega) (by omega)) (q11 6 (by omega) (by omega)) (q11 7 (by omega) (by omega)) q9 q10 (q11 10 (by omega) (by omega)) (Or.inr rfl)⟩
    refine pl_v (pl_and hmk (pl_kp (by decide))) (fun _ _ _ e => e.1) (fun v g1 r1 q => ⟨?_, q.1⟩)
    have hz : kz0 (upd (upd (upd (upd g fT_made 0) fT_numbered 0) fT_units 0) fT_greatestLevel 0) := ⟨rfl, rfl, rfl⟩
    exact hz.kp q.2
theorem TS.start (hc : oN c = 0) (h : Rc 1 (fD (fun _ => (0, 0, 0, 0)) 0 (-1, 0, -1, -1)) (fK (fun _ => []) 0 []) g r) : TS c x0 g r := by
  have eT : (oT c).toInt = -1 := by
    rw [oT_0 hc]
    rfl
  refine ⟨1, _, _, [0], h, ⟨rfl, Nat.lt_succ_self 0, ⟨[], rfl, TrL.nil⟩, trivial⟩, ?_, fun i hi => absurd hi (by omega), fun e he => ?_⟩
  · rw [eT, hc]
    exact ⟨⟨0, rfl, rfl⟩, fun i hi => absurd hi (by omega), fun _ _ => by omega, fun _ _ => by omega, fun _ _ => by omega, fun _ => by omega, fun _ _ => by omega⟩
  · rw [List.mem_singleton.mp he]
    decide
end
