/-! The class's clauses: sections, sentences, headings, ends. -/
def eB (c : CU) : CU := if oT c = 9 then c else sS c 11
section
variable {L : Nat} {xs : Nat → Int32} {m d : Nat} {w : Ws} {f : Gh} {n : Int32} {p : Nat} {c : CU} {g : a2_G} {r : a2_A} {z : Option fn_Z} {k : Int32 → a2_G → a2_A → Option fn_Z} {kn : a2_G → a2_A → Option fn_Z} {Q : Option Value → a2_G → a2_A → Prop} {X : Nat → a2_G → a2_A → Prop} {PQ : Option RR → Option Value → a2_G → a2_A → Prop} {K : Nat → Option RR} {A : Option RR}
theorem xC_enterBody (h : PS w n p c g r) : pl (ev L xs (m + 1) d nC_enterBody [.ref cC] g r) (fun o g' r' => o = none ∧ PS w n p (eB c) g' r') kN := by
  cases d with
  | zero => trivial
  | succ d =>
    rw [qC_enterBody]
    unfold BC_enterBody_21 eB
    refine pl_e (xU_state h.2.2) ?_
    refine pl_if (fun hc => ?_) (fun hc => ?_)
    · rw [c2_eq] at hc
      rw [if_pos hc]
      exact ⟨rfl, h⟩
    · rw [c2_eq] at hc
      rw [if_neg hc]
      exact ps_ss h (fun g1 r1 h1 => ⟨rfl, h1⟩)
theorem ps_eb (h : PS w n p c g r) (hk : ∀ g' r', PS w n p (eB c) g' r' → pl (kn g' r') Q X) : pl (fn_n (ev L xs (m + 1) d nC_enterBody [.ref cC] g r) kn) Q X := pl_n (xC_enterBody h) (fun _ _ _ e => e.elim) (fun g' r' e => hk g' r' e.2)
/-- the state must be between -/
theorem pl_rS {a b : Int32} (h : Ru w f p g r) (hc : Cv c f.2.1 f.2.2) (hk : oB c a.toInt b.toInt = true → pl (kn g r) (PQ A) (kRx w f A)) : pl (fn_n (ev L xs (m + 1) d nC_requireState [.ref cC, .int a, .int b] g r) kn) (PQ (if oB c a.toInt b.toInt then A else no p)) (kRx w f (if oB c a.toInt b.toInt then A else no p)) := pl_n (xC_requireState a b h (h.cv hc)) (fun x g' r' e => by
    obtain ⟨rfl, e2, e3⟩ := e
    rw [e2]
    exact ⟨rfl, p, rfl, e3⟩) (fun g' r' e => by
    obtain ⟨-, e2, rfl, rfl⟩ := e
    rw [e2, if_pos rfl]
    exact hk e2)
theorem pl_rT (b : Bool) {a : Int32} (ha : a = b2i b) (h : Ru w f p g r) (hk : b = true → pl (kn g r) (PQ A) (kRx w f A)) : pl (fn_n (ev L xs (m + 1) d nC_requireThat [.ref cC, .int a] g r) kn) (PQ (if b then A else no p)) (kRx w f (if b then A else no p)) := by
  subst ha
  exact pl_n (xC_requireThat b h) (fun x g' r' e => by
    obtain ⟨rfl, e2, e3⟩ := e
    rw [e2]
    exact ⟨rfl, p, rfl, e3⟩) (fun g' r' e => by
    obtain ⟨-, e2, rfl, rfl⟩ := e
    rw [e2, if_pos rfl]
    exact hk e2)
theorem xC_sentence (h : Ru w f p g r) (hc : Cv c f.2.1 f.2.2) : pl (ev L xs (m + 1) d nC_sentence [.ref cC] g r) (kQ w f (eB c, false) (if oB c 8 11 then (if !decide (oT c = 9) || oC c then bd (rv w 10 p 0 false) (fun q _ => if wk w q 4 then ok (q + 1) else no q) else no p) else no p)) (kRx w f (if oB c 8 11 then (if !decide (oT c = 9) || oC c then bd (rv w 10 p 0 false) (fun q _ => if wk w q 4 then ok (q + 1) else no q) else no p) else no p)) := by
  cases d with
  | zero => trivial
  | succ d =>
    have h76 : ∀ x1 x2 x3 q g r, PS w f.1 q c g r → pl (BC_sentence_76 L xs (m + 1) d m x1 x2 x3 g r) (kQ w f (eB c, false) (ok q)) (kRx w f (ok q)) := by
      intro x1 x2 x3 q g r h
      unfold BC_sentence_76
      refine ps_ap h (fun g1 r1 h1 _ => ?_)
      exact ps_eb h1 (fun g2 r2 h2 => ⟨rfl, q, rfl, h2⟩)
    rw [qC_sentence]
    refine pl_rS (a := 8) (b := 11) h hc (fun _ => ?_)
    refine pl_e (xC_mayHoldSentences (h.cv hc)) ?_
    refine pl_rT _ rfl h (fun _ => ?_)
    refine pl_vR (K := fun q => if wk w q 4 then ok (q + 1) else no q) (xS_list L xs w f d 0 p 25 0 g r rfl (by decide) h) (fun v q g1 r1 _ h1 => ?_)
    refine pl_rk h1 (fun _ g2 h2 _ => ?_)
    unfold BC_sentence_55
    have hp2 := h2.ps hc
    repeat' refine pl_if (fun _ => ?_) (fun _ => ?_)
    all_goals exact h76 _ _ _ _ _ _ hp2
theorem xC_sectionOrParagraph (h : Ru w f p g r) (hn : wk w p 1 = true) (hc : Cv c f.2.1 f.2.2) : pl (ev L xs (m + 1) d nC_sectionOrParagraph [.ref cC] g r) (kQ w f (eB (if ww w (p + 1) 16 then sC c true else c), false) (if oB c 8 11 then (if ww w (p + 1) 16 || (!decide (oT c = 9) || oC c) then (if wk w (sk (ww w (p + 1) 16) (p + 1)) 4 then ok (sk (ww w (p + 1) 16) (p + 1) + 1) else no (sk (ww w (p + 1) 16) (p + 1))) else no p) else no p)) (kRx w f (if oB c 8 11 then (if ww w (p + 1) 16 || (!decide (oT c = 9) || oC c) then (if wk w (sk (ww w (p + 1) 16) (p + 1)) 4 then ok (sk (ww w (p + 1) 16) (p + 1) + 1) else no (sk (ww w (p + 1) 16) (p + 1))) else no p) else no p)) := by
  cases d with
  | zero => trivial
  | succ d =>
    have h62 : ∀ x2 x3, pl (BC_sectionOrParagraph_62 L xs (m + 1) d m (b2i (ww w (p + 1) 16)) x2 x3 g r) (kQ w f (eB (if ww w (p + 1) 16 then sC c true else c), false) (if wk w (sk (ww w (p + 1) 16) (p + 1)) 4 then ok (sk (ww w (p + 1) 16) (p + 1) + 1) else no (sk (ww w (p + 1) 16) (p + 1)))) (kRx w f (if wk w (sk (ww w (p + 1) 16) (p + 1)) 4 then ok (sk (ww w (p + 1) 16) (p + 1) + 1) else no (sk (ww w (p + 1) 16) (p + 1)))) := by
      intro x2 x3
      unfold BC_sectionOrParagraph_62
      refine pl_v (xR_requireKind 1 h) (fun x g' r' q => by rw [hn] at q; cases q.2.1) (fun v g1 r1 q => ?_)
      obtain ⟨-, -, h1, -, -⟩ := q
      refine pl_mk h1 (fun g2 r2 h2 _ => ?_)
      refine pl_mb h2 (fun v3 g3 h3 _ => ?_)
      refine pl_rk h3 (fun _ g4 h4 _ => ?_)
      have hp4 := h4.ps hc
      cases e : ww w (p + 1) 16 with
      | true =>
        rw [e] at hp4
        refine pl_neg (by decide) ?_
        refine pl_e (xU_state hp4.2.2) ?_
        have h125 : ∀ x1 x2 x4, pl (BC_sectionOrParagraph_125 L xs (m + 1) d m x1 x2 (g1 fT_made) x4 g4 r2) (kQ w f (eB (sC c true), false) (ok (sk true (p + 1) + 1))) (kRx w f (ok (sk true (p + 1) + 1))) := by
          intro x1 x2 x4
          unfold BC_sectionOrParagraph_125 BC_sectionOrParagraph_174
          refine ps_ap hp4 (fun g5 r5 h5 _ => ?_)
          refine ps_eb ((h5.sc (g1 fT_made) (b := true) ?_).cl (-1) (Or.inr (Or.inr rfl))) (fun g6 r6 h6 => ⟨rfl, _, rfl, h6⟩)
          show g1 fT_made ≠ -1
          intro e9
          have := h1.2.1
          rw [e9] at this
          exact absurd this (by decide)
        exact pl_if (fun _ => h125 _ _ _) (fun _ => h125 _ _ _)
      | false =>
        rw [e] at hp4
        refine pl_pos (by decide) ?_
        have h165 : ∀ x1 x2 x4, pl (BC_sectionOrParagraph_165 L xs (m + 1) d m x1 x2 (g1 fT_made) x4 g4 r2) (kQ w f (eB c, false) (ok (sk false (p + 1) + 1))) (kRx w f (ok (sk false (p + 1) + 1))) := by
          intro x1 x2 x4
          unfold BC_sectionOrParagraph_165 BC_sectionOrParagraph_174
          refine ps_ap hp4 (fun g5 r5 h5 _ => ?_)
          exact ps_eb (h5.cl _ (Or.inr (Or.inr rfl))) (fun g6 r6 h6 => ⟨rfl, _, rfl, h6⟩)
        exact pl_if (fun _ => h165 _ _ _) (fun _ => h165 _ _ _)
    have h36 : ∀ b : Bool, b = (ww w (p + 1) 16 || (!decide (oT c = 9) || oC c)) → pl (BC_sectionOrParagraph_36 L xs (m + 1) d m (b2i (ww w (p + 1) 16)) (b2i b) g r) (kQ w f (eB (if ww w (p + 1) 16 then sC c true else c), false) (if ww w (p + 1) 16 || (!decide (oT c = 9) || oC c) then (if wk w (sk (ww w (p + 1) 16) (p + 1)) 4 then ok (sk (ww w (p + 1) 16) (p + 1) + 1) else no (sk (ww w (p + 1) 16) (p + 1))) else no p)) (kRx w f (if ww w (p + 1) 16 || (!decide (oT c = 9) || oC c) then (if wk w (sk (ww w (p + 1) 16) (p + 1)) 4 then ok (sk (ww w (p + 1) 16) (p + 1) + 1) else no (sk (ww w (p + 1) 16) (p + 1))) else no p)) := by
      intro b hb
      rw [← hb]
      unfold BC_sectionOrParagraph_36
      refine pl_rT b rfl h (fun _ => ?_)
      refine pl_e (xR_place L xs) ?_
      exact pl_if (fun _ => h62 _ _) (fun _ => h62 _ _)
    rw [qC_sectionOrParagraph]
    refine pl_e (xR_isReserved L xs 16 1 (j := 1) rfl (by decide) h.1) ?_
    refine pl_rS (a := 8) (b := 11) h hc (fun _ => ?_)
    unfold BC_sectionOrParagraph_31
    refine pl_if (fun e => ?_) (fun e => ?_)
    · rw [c2_ne, b2i_ne] at e
      exact h36 true (by rw [e]; rfl)
    · rw [c2_ne, b2i_ne, Bool.not_eq_true] at e
      refine pl_u (xC_mayHoldSentences (h.cv hc)) (fun e2 => pl_neg (by decide) ?_) (fun e2 => pl_pos (by decide) ?_)
      · exact h36 true (by rw [e, e2]; rfl)
      · exact h36 false (by rw [e, e2]; rfl)
end
