/-! The class's clauses: what only reads. -/
section
variable {L : Nat} {xs : Nat → Int32} {m d : Nat} {w : Ws} {f : Gh} {p : Nat} {c : CU} {g : a2_G} {r : a2_A} {k : Int32 → a2_G → a2_A → Option fn_Z} {kn : a2_G → a2_A → Option fn_Z} {Q : Option Value → a2_G → a2_A → Prop} {X : Nat → a2_G → a2_A → Prop} {PQ : Option RR → Option Value → a2_G → a2_A → Prop} {A : Option RR}
theorem xC_requireThat (b : Bool) (h : Ru w f p g r) : pl (ev L xs (m + 1) d nC_requireThat [.ref cC, .int (b2i b)] g r) (fun o g' r' => o = none ∧ b = true ∧ g' = g ∧ r' = r) (fun x g' r' => x = 10 ∧ b = false ∧ Ru w f p g' r') := by
  cases d with
  | zero => trivial
  | succ d =>
    rw [qC_requireThat]
    unfold BC_requireThat_12
    cases b with
    | true => exact pl_pos (by decide) ⟨rfl, rfl, rfl, rfl⟩
    | false => exact pl_neg (by decide) (pl_n (xR_refuse 1 h) (fun x g' r' q => ⟨q.1, rfl, q.2.1⟩) (fun _ _ q => q.elim))
theorem pl_rt (b : Bool) {a : Int32} (ha : a = b2i b) (h : Ru w f p g r) (hk : b = true → pl (kn g r) Q (kRx w f A)) (hA : b = false → A = no p) : pl (fn_n (ev L xs (m + 1) d nC_requireThat [.ref cC, .int a] g r) kn) Q (kRx w f A) := by
  subst ha
  refine pl_n (xC_requireThat b h) (fun x g' r' e => ?_) (fun g' r' e => ?_)
  · obtain ⟨rfl, e2, e3⟩ := e
    rw [hA e2]
    exact ⟨rfl, p, rfl, e3⟩
  · obtain ⟨-, e2, rfl, rfl⟩ := e
    exact hk e2
/-- the state is between -/
def oB (c : CU) (lo hi : Int) : Bool := decide (lo ≤ (oT c).toInt) && decide ((oT c).toInt ≤ hi)
theorem xC_requireState (a b : Int32) (h : Ru w f p g r) (hc : Cv c g r) : pl (ev L xs (m + 1) d nC_requireState [.ref cC, .int a, .int b] g r) (fun o g' r' => o = none ∧ oB c a.toInt b.toInt = true ∧ g' = g ∧ r' = r) (fun x g' r' => x = 10 ∧ oB c a.toInt b.toInt = false ∧ Ru w f p g' r') := by
  cases d with
  | zero => trivial
  | succ d =>
    rw [qC_requireState]
    have hn : oB c a.toInt b.toInt = false → pl (BC_requireState_27 L xs (m + 1) d m a b g r) (fun o g' r' => o = none ∧ oB c a.toInt b.toInt = true ∧ g' = g ∧ r' = r) (fun x g' r' => x = 10 ∧ oB c a.toInt b.toInt = false ∧ Ru w f p g' r') := by
      intro e
      unfold BC_requireState_27 BC_requireState_28
      exact pl_n (xC_requireThat false h) (fun x g' r' q => ⟨q.1, e, q.2.2⟩) (fun g' r' q => by cases q.2.1)
    refine pl_e (xU_state hc) ?_
    refine pl_if (fun h1 => ?_) (fun h1 => ?_)
    · rw [c2_lt] at h1
      exact hn (by unfold oB; rw [decide_eq_false (by omega : ¬ a.toInt ≤ (oT c).toInt)]; rfl)
    · rw [c2_lt] at h1
      refine pl_e (xU_state hc) ?_
      refine pl_if (fun h2 => ?_) (fun h2 => ?_)
      · rw [c2_gt] at h2
        exact hn (by unfold oB; rw [decide_eq_false (by omega : ¬ (oT c).toInt ≤ b.toInt), Bool.and_false])
      · rw [c2_gt] at h2
        unfold BC_requireState_28
        refine pl_n (xC_requireThat true h) (fun x g' r' q => by cases q.2.1) (fun g' r' q => ?_)
        obtain ⟨-, -, rfl, rfl⟩ := q
        exact ⟨rfl, by unfold oB; rw [decide_eq_true (by omega : a.toInt ≤ (oT c).toInt), decide_eq_true (by omega : (oT c).toInt ≤ b.toInt)]; rfl, rfl, rfl⟩
theorem xC_mayEndOrContain (hc : Cv c g r) : pl (ev L xs (m + 1) d nC_mayEndOrContain [.ref cC] g r) (kE g r (b2i (decide (1 ≤ (oT c).toInt) && !decide (oT c = 9)))) kN := by
  cases d with
  | zero => trivial
  | succ d =>
    rw [qC_mayEndOrContain]
    simp only [BC_mayEndOrContain_27, BC_mayEndOrContain_28]
    refine pl_e (xU_state hc) ?_
    refine pl_if (fun h1 => ?_) (fun h1 => ?_)
    · rw [c2_lt] at h1
      have h1' : (oT c).toInt < 1 := h1
      rw [decide_eq_false (by omega : ¬ 1 ≤ (oT c).toInt)]
      exact pl_pos (by decide) ⟨rfl, rfl, rfl⟩
    · rw [c2_lt] at h1
      have h1' : ¬ (oT c).toInt < 1 := h1
      rw [decide_eq_true (by omega : 1 ≤ (oT c).toInt)]
      refine pl_e (xU_state hc) ?_
      refine pl_if (fun h2 => ?_) (fun h2 => ?_)
      · rw [c2_eq] at h2
        rw [decide_eq_true h2]
        exact pl_pos (by decide) ⟨rfl, rfl, rfl⟩
      · rw [c2_eq] at h2
        rw [decide_eq_false h2]
        exact pl_pos (by decide) ⟨rfl, rfl, rfl⟩
theorem xC_mayHoldSentences (hc : Cv c g r) : pl (ev L xs (m + 1) d nC_mayHoldSentences [.ref cC] g r) (kE g r (b2i (!decide (oT c = 9) || oC c))) kN := by
  cases d with
  | zero => trivial
  | succ d =>
    rw [qC_mayHoldSentences]
    simp only [BC_mayHoldSentences_20, BC_mayHoldSentences_25]
    refine pl_e (xU_state hc) ?_
    have hs := hc.2.2.2.2.2.1
    refine pl_if (fun h1 => ?_) (fun h1 => ?_)
    · rw [c2_ne] at h1
      rw [decide_eq_false h1]
      exact pl_pos (by decide) ⟨rfl, rfl, rfl⟩
    · rw [c2_ne, Decidable.not_not] at h1
      rw [decide_eq_true h1]
      cases e : oC c with
      | true =>
        rw [e, if_pos rfl] at hs
        refine pl_neg (by rw [c2_eq]; exact hs) ?_
        exact pl_pos (by decide) ⟨rfl, rfl, rfl⟩
      | false =>
        rw [e, if_neg (by decide)] at hs
        refine pl_pos (by rw [c2_eq]; exact hs) ?_
        exact pl_pos (by decide) ⟨rfl, rfl, rfl⟩
theorem xC_heading (a b e : Int32) (h : Ru w f p g r) (hp : p < w.2.2) : pl (ev L xs (m + 1) d nC_heading [.ref cC, .int a, .int b, .int e] g r) (kRv w f (if ww w (p + 1) b then (if wk w (p + 2) 4 then ok (p + 3) else no (p + 2)) else no (p + 1))) (kRx w f (if ww w (p + 1) b then (if wk w (p + 2) 4 then ok (p + 3) else no (p + 2)) else no (p + 1))) := by
  cases d with
  | zero => trivial
  | succ d =>
    rw [qC_heading]
    refine pl_e (xR_place L xs) ?_
    refine pl_mk h (fun g1 r1 h1 _ => ?_)
    refine pl_adv h1 hp (fun g2 h2 _ => ?_)
    refine pl_rq h2 (fun _ g3 h3 _ => ?_)
    refine pl_rk h3 (fun _ g4 h4 _ => ?_)
    exact pl_ap h4 (fun g5 r5 h5 _ => ⟨⟨_, rfl⟩, _, rfl, h5⟩)
theorem xC_key (a : Int32) (h : Ru w f p g r) (hp : p < w.2.2) : pl (ev L xs (m + 1) d nC_key [.ref cC, .int a] g r) (kRn w f (if wk w (sk (ww w (p + 1) 67) (p + 1)) 1 then ok (sk (ww w (p + 1) 67) (p + 1) + 1) else no (sk (ww w (p + 1) 67) (p + 1)))) (kRx w f (if wk w (sk (ww w (p + 1) 67) (p + 1)) 1 then ok (sk (ww w (p + 1) 67) (p + 1) + 1) else no (sk (ww w (p + 1) 67) (p + 1)))) := by
  cases d with
  | zero => trivial
  | succ d =>
    rw [qC_key]
    refine pl_e (xR_place L xs) ?_
    refine pl_adv h hp (fun g2 h2 _ => ?_)
    refine pl_mb h2 (fun v g3 h3 _ => ?_)
    refine pl_rk h3 (fun _ g4 h4 _ => ?_)
    refine pl_mk h4 (fun g5 r5 h5 _ => ?_)
    exact pl_ap h5 (fun g6 r6 h6 _ => ⟨rfl, _, rfl, h6⟩)
/-- how a file is organized: one of three words -/
def wr (w : Ws) (p : Nat) : Bool := wk w p 0 && (decide (8 ≤ (w.2.1 p).toInt) && decide ((w.2.1 p).toInt ≤ 10))
theorem xC_organization (a : Int32) (h : Ru w f p g r) (hp : p < w.2.2) : pl (ev L xs (m + 1) d nC_organization [.ref cC, .int a] g r) (kRn w f (if wr w (sk (ww w (p + 1) 67) (p + 1)) then ok (sk (ww w (p + 1) 67) (p + 1) + 1) else no (sk (ww w (p + 1) 67) (p + 1)))) (kRx w f (if wr w (sk (ww w (p + 1) 67) (p + 1)) then ok (sk (ww w (p + 1) 67) (p + 1) + 1) else no (sk (ww w (p + 1) 67) (p + 1)))) := by
  cases d with
  | zero => trivial
  | succ d =>
    rw [qC_organization]
    refine pl_e (xR_place L xs) ?_
    refine pl_adv h hp (fun g2 h2 _ => ?_)
    refine pl_mb h2 (fun v g3 h3 _ => ?_)
    generalize sk (ww w (p + 1) 67) (p + 1) = q at h3 ⊢
    have hno : wr w q = false → ∀ x3, pl (BC_organization_61 L xs (m + 1) d m a (g fR_at) x3 g3 r) (kRn w f (if wr w q then ok (q + 1) else no q)) (kRx w f (if wr w q then ok (q + 1) else no q)) := by
      intro e x3
      rw [e, if_neg (by decide)]
      unfold BC_organization_61 BC_organization_62
      exact pl_rt false rfl h3 (fun e => by cases e) (fun _ => rfl)
    refine pl_e (xR_value L xs h3.1) ?_
    refine pl_u (xR_isKind L xs 0 h3.1) (fun e => pl_neg (by decide) ?_) (fun e => pl_pos (by decide) (hno (by unfold wr; rw [e]; rfl) _))
    obtain ⟨hq, hk⟩ := wk_iff.mp e
    rw [if_pos hq]
    have back : ∀ y : Int32, 0 ≤ (y - 8).toInt → (y - 8).toInt ≤ 2 → 8 ≤ y.toInt ∧ y.toInt ≤ 10 := by
      intro y h1 h2
      have e8 : (8 : Int32).toInt = 8 := rfl
      have e1 : (y - 8 + 8).toInt = (y - 8).toInt + 8 := ad_eq (by rw [e8]; omega) (by rw [e8]; omega)
      rw [Int32.sub_add_cancel] at e1
      omega
    have forth : ∀ y : Int32, 8 ≤ y.toInt → y.toInt ≤ 10 → 0 ≤ (y - 8).toInt ∧ (y - 8).toInt ≤ 2 := by
      intro y h1 h2
      have e8 : (8 : Int32).toInt = 8 := rfl
      have e1 : (y - 8).toInt = y.toInt - 8 := sb_eq (by rw [e8]; omega) (by rw [e8]; omega)
      omega
    have hw : wr w q = (decide (8 ≤ (w.2.1 q).toInt) && decide ((w.2.1 q).toInt ≤ 10)) := by unfold wr; rw [e]; rfl
    refine pl_if (fun h1 => ?_) (fun h1 => ?_)
    · rw [c2_lt] at h1
      have h1' : (w.2.1 q - 8).toInt < 0 := h1
      refine hno ?_ _
      rw [hw, ← Bool.not_eq_true, Bool.and_eq_true, decide_eq_true_eq, decide_eq_true_eq]
      intro e2
      have := forth _ e2.1 e2.2
      omega
    · rw [c2_lt] at h1
      have h1' : ¬ (w.2.1 q - 8).toInt < 0 := h1
      refine pl_if (fun h2 => ?_) (fun h2 => ?_)
      · rw [c2_gt] at h2
        have h2' : 2 < (w.2.1 q - 8).toInt := h2
        refine hno ?_ _
        rw [hw, ← Bool.not_eq_true, Bool.and_eq_true, decide_eq_true_eq, decide_eq_true_eq]
        intro e2
        have := forth _ e2.1 e2.2
        omega
      · rw [c2_gt] at h2
        have h2' : ¬ 2 < (w.2.1 q - 8).toInt := h2
        have h3' := back (w.2.1 q) (by omega) (by omega)
        rw [hw, decide_eq_true h3'.1, decide_eq_true h3'.2, Bool.and_self, if_pos rfl]
        unfold BC_organization_62
        refine pl_rt true rfl h3 (fun _ => ?_) (fun e => by cases e)
        refine pl_adv h3 hq (fun g4 h4 _ => ?_)
        refine pl_mk h4 (fun g5 r5 h5 _ => ?_)
        exact pl_ap h5 (fun g6 r6 h6 _ => ⟨rfl, _, rfl, h6⟩)
end
theorem xC_select (L : Nat) (xs : Nat → Int32) {m d : Nat} {w : Ws} {f : Gh} {p l : Nat} {g : a2_G} {r : a2_A} (h : Ru w f p g r) (hp : p < w.2.2) : pl (ev L xs (m + 1) d nC_select [.ref cC] g r) (kRn w f (rv w 28 p l false)) (kRx w f (rv w 28 p l false)) := by
  cases d with
  | zero => trivial
  | succ d =>
    have h124 : ∀ x1 q g r, Ru w f q g r → pl (BC_select_124 L xs (m + 1) d m x1 g r) (kRn w f (rv w 31 q l false)) (kRx w f (rv w 31 q l false)) := by
      intro x1 q g r h
      rw [rv_t31]
      unfold BC_select_124
      refine pl_rk h (fun _ g1 h1 _ => ?_)
      exact pl_ap h1 (fun g2 r2 h2 _ => ⟨rfl, _, rfl, h2⟩)
    have h106 : ∀ x1 q g r, Ru w f q g r → pl (BC_select_106 L xs (m + 1) d m x1 g r) (kRn w f (rv w 30 q l false)) (kRx w f (rv w 30 q l false)) := by
      intro x1 q g r h
      rw [rv_t30]
      unfold BC_select_106
      refine pl_t (xR_isReserved L xs 11 0 (j := 0) rfl (by decide) h.1) (fun e => pl_neg (by decide) ?_) (fun e => pl_pos (by decide) (h124 _ _ _ _ h))
      rw [rv_t37, show (if wk w (sk (ww w (q + 1) 67) (q + 1)) 1 then rv w 31 (sk (ww w (q + 1) 67) (q + 1) + 1) l false else no (sk (ww w (q + 1) 67) (q + 1))) = bd (if wk w (sk (ww w (q + 1) 67) (q + 1)) 1 then ok (sk (ww w (q + 1) 67) (q + 1) + 1) else no (sk (ww w (q + 1) 67) (q + 1))) (fun q _ => rv w 31 q l false) by rw [bd_ite, bd_ok, bd_no]]
      exact pl_nR (K := fun q => rv w 31 q l false) (xC_key x1 h (ww_iff.mp e).1) (fun q1 g1 r1 _ h1 => h124 _ _ _ _ h1)
    rw [qC_select, rv_t28]
    refine pl_e (xR_place L xs) ?_
    refine pl_mk h (fun g1 r1 h1 _ => ?_)
    refine pl_adv h1 hp (fun g2 h2 _ => ?_)
    refine pl_rk h2 (fun _ g3 h3 _ => ?_)
    refine pl_st h3 (fun g4 r4 h4 _ => ?_)
    refine pl_rq h4 (fun _ g5 h5 _ => ?_)
    refine pl_mb h5 (fun v6 g6 h6 _ => ?_)
    generalize sk (ww w (p + 3) 48) (p + 3) = q at h6 ⊢
    rw [rv_t35]
    refine pl_u (xR_isKind L xs 2 h6.1) (fun e => pl_pos (by decide) ?_) (fun e => pl_neg (by decide) ?_)
    · unfold BC_select_77
      refine pl_rt false rfl h6 (fun e => by cases e) (fun _ => ?_)
      rw [show (wk w q 1 || wk w q 3) = false by
        rw [Bool.or_eq_false_iff]
        have h3 := (wk_iff.mp e).2
        exact ⟨wk_f (fun e => absurd (h3.symm.trans e.2) (by decide)), wk_f (fun e => absurd (h3.symm.trans e.2) (by decide))⟩, if_neg (by decide)]
    · rw [show (wk w q 1 || wk w q 3) = wo w q by unfold wo; rw [e, Bool.or_false]]
      unfold BC_select_77
      refine pl_rt true rfl h6 (fun _ => ?_) (fun e => by cases e)
      refine pl_oi h6 (fun _ g7 r7 h7 => ?_)
      rw [rv_t29]
      refine pl_t (xR_isReserved L xs 7 0 (j := 0) rfl (by decide) h7.1) (fun e => pl_neg (by decide) ?_) (fun e => pl_pos (by decide) (h106 _ _ _ _ h7))
      rw [rv_t36]
      show pl _ (kRn w f (if wr w (sk (ww w (q + 1 + 1) 67) (q + 1 + 1)) then rv w 30 (sk (ww w (q + 1 + 1) 67) (q + 1 + 1) + 1) l false else no (sk (ww w (q + 1 + 1) 67) (q + 1 + 1)))) (kRx w f (if wr w (sk (ww w (q + 1 + 1) 67) (q + 1 + 1)) then rv w 30 (sk (ww w (q + 1 + 1) 67) (q + 1 + 1) + 1) l false else no (sk (ww w (q + 1 + 1) 67) (q + 1 + 1))))
      rw [show (if wr w (sk (ww w (q + 1 + 1) 67) (q + 1 + 1)) then rv w 30 (sk (ww w (q + 1 + 1) 67) (q + 1 + 1) + 1) l false else no (sk (ww w (q + 1 + 1) 67) (q + 1 + 1))) = bd (if wr w (sk (ww w (q + 1 + 1) 67) (q + 1 + 1)) then ok (sk (ww w (q + 1 + 1) 67) (q + 1 + 1) + 1) else no (sk (ww w (q + 1 + 1) 67) (q + 1 + 1))) (fun q _ => rv w 30 q l false) by rw [bd_ite, bd_ok, bd_no]]
      exact pl_nR (K := fun q => rv w 30 q l false) (xC_organization _ h7 (ww_iff.mp e).1) (fun q1 g1 r1 _ h1 => h106 _ _ _ _ h1)
