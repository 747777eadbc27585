/-! The class's conditions. -/
theorem xX_isComparing (L : Nat) (xs : Nat → Int32) {m d : Nat} {w : Ws} {f : Gh} {p : Nat} {g : a2_G} {r : a2_A} (a : Int32) {j : Nat} (ha : a.toInt = j) (hj : j ≤ 5) (h : Ro w f p g r) : pl (ev L xs (m + 1) d nX_isComparing [.ref cX, .int a] g r) (kE g r (b2i (wm w (p + j)))) kN := by
  cases d with
  | zero => trivial
  | succ d =>
    have e1 : (a + 1).toInt = ((j + 1 : Nat) : Int) := by
      rw [i32_inc (by omega), ha]
      rfl
    have hw : wm w (p + j) = (ww w (p + j) 67 || wc w (p + j) || ww w (p + j) 64 && wc w (p + (j + 1))) := rfl
    rw [qX_isComparing]
    simp only [BX_isComparing_50, BX_isComparing_54, BX_isComparing_55]
    refine pl_u (xR_isReserved L xs 67 a ha (by omega) h) (fun e => pl_pos (by decide) (pl_pos (by decide) ⟨?_, rfl, rfl⟩)) (fun e => pl_neg (by decide) ?_)
    · rw [hw, e]
      rfl
    refine pl_u (xR_isComparingWord L xs a ha (by omega) h) (fun e2 => pl_pos (by decide) (pl_pos (by decide) ⟨?_, rfl, rfl⟩)) (fun e2 => pl_neg (by decide) ?_)
    · rw [hw, e, e2]
      rfl
    refine pl_u (xR_isReserved L xs 64 a ha (by omega) h) (fun e3 => pl_neg (by decide) ?_) (fun e3 => pl_pos (by decide) (pl_pos (by decide) ⟨?_, rfl, rfl⟩))
    · refine pl_u (xR_isComparingWord L xs (a + 1) e1 (by omega) h) (fun e4 => pl_neg (by decide) (pl_pos (by decide) ⟨?_, rfl, rfl⟩)) (fun e4 => pl_pos (by decide) (pl_pos (by decide) ⟨?_, rfl, rfl⟩))
      · rw [hw, e, e2, e3, e4]
        rfl
      · rw [hw, e, e2, e3, e4]
        rfl
    · rw [hw, e, e2, e3]
      rfl
def kCo (w : Ws) (f : Gh) (g : a2_G) (z : RR) : Option Value → a2_G → a2_A → Prop := fun o g' r' => (∃ v : Int32, o = some (.int v)) ∧ ∃ q, z = ropd w q ∧ Ru w f q g' r' ∧ g' fX_subject = g fX_subject
def kCx (w : Ws) (f : Gh) (z : RR) : Nat → a2_G → a2_A → Prop := fun x g' r' => x = 10 ∧ ∃ q, z = .inr q ∧ Ru w f q g' r'
/-- a word that may stand there: with what is known of both ways -/
theorem pl_ss {L : Nat} {xs : Nat → Int32} {m d : Nat} {w : Ws} {f : Gh} {p : Nat} {g : a2_G} {r : a2_A} {k : Int32 → a2_G → a2_A → Option fn_Z} {Q : Option Value → a2_G → a2_A → Prop} {X : Nat → a2_G → a2_A → Prop} {a : Int32} (h : Ru w f p g r) (h1 : ww w p a = true → ∀ g', Ru w f (p + 1) g' r → g' fX_subject = g fX_subject → pl (k 1 g' r) Q X) (h0 : ww w p a = false → pl (k 0 g r) Q X) : pl (fn_v (ev L xs (m + 1) d nR_skip [.ref cR, .int a] g r) k) Q X := pl_v (xR_skip L xs a h.1) (fun _ _ _ e => e.elim) (fun v g' r' e => by
  obtain ⟨rfl, ⟨e, e2, rfl⟩ | ⟨e, e2, rfl⟩⟩ := e
  · cases e2
    exact h1 e _ (h.up (ww_iff.mp e).1) rfl
  · cases e2
    exact h0 e)
theorem xX_comparing27 (L : Nat) (xs : Nat → Int32) {m d k : Nat} {w : Ws} {f : Gh} {p : Nat} {g g0 : a2_G} {r : a2_A} (x1 : Int32) (h : Ru w f p g r) (hs : g fX_subject = g0 fX_subject) : pl (BX_comparing_27 L xs (m + 1) d k x1 g r) (kCo w f g0 (rcmp2 w p)) (kCx w f (rcmp2 w p)) := by
  unfold BX_comparing_27 rcmp2
  refine pl_ss h (fun e g1 h1 q1 => pl_neg (by decide) ?_) (fun e => pl_pos (by decide) ?_)
  · rw [e, if_pos rfl]
    exact pl_mb h1 (fun v g2 h2 q2 => ⟨⟨_, rfl⟩, _, rfl, h2, q2.trans (q1.trans hs)⟩)
  rw [e, if_neg (by decide)]
  refine pl_ss h (fun e g1 h1 q1 => pl_neg (by decide) ?_) (fun e => pl_pos (by decide) ?_)
  · rw [e, if_pos rfl]
    exact pl_mb h1 (fun v g2 h2 q2 => ⟨⟨_, rfl⟩, _, rfl, h2, q2.trans (q1.trans hs)⟩)
  rw [e, if_neg (by decide)]
  refine pl_ss h (fun e g1 h1 q1 => pl_neg (by decide) ?_) (fun e => pl_pos (by decide) ?_)
  · rw [e, if_pos rfl]
    exact pl_mb h1 (fun v g2 h2 q2 => ⟨⟨_, rfl⟩, _, rfl, h2, q2.trans (q1.trans hs)⟩)
  rw [e, if_neg (by decide)]
  have hno : (wk w p 5 && (decide (2 ≤ (w.2.1 p).toInt) && decide ((w.2.1 p).toInt ≤ 4))) = false → pl (BX_comparing_139 L xs (m + 1) d k x1 g r) (kCo w f g0 (if (wk w p 5 && (decide (2 ≤ (w.2.1 p).toInt) && decide ((w.2.1 p).toInt ≤ 4))) = true then ropd w (p + 1) else .inr p)) (kCx w f (if (wk w p 5 && (decide (2 ≤ (w.2.1 p).toInt) && decide ((w.2.1 p).toInt ≤ 4))) = true then ropd w (p + 1) else .inr p)) := by
    intro e
    rw [e, if_neg (by decide)]
    unfold BX_comparing_139
    exact pl_n (xR_refuse 1 h) (fun x g' r' q => ⟨q.1, p, rfl, q.2.1⟩) (fun _ _ q => q.elim)
  refine pl_u (xR_isKind L xs 5 h.1) (fun e5 => pl_neg (by decide) ?_) (fun e5 => pl_pos (by decide) (hno (by rw [e5]; rfl)))
  have hp := (wk_iff.mp e5).1
  refine pl_e (xR_value L xs h.1) ?_
  rw [if_pos hp]
  refine pl_if (fun hc => ?_) (fun hc => ?_)
  · rw [c2_lt] at hc
    have hc' : (w.2.1 p).toInt < 2 := hc
    exact hno (by rw [e5, decide_eq_false (by omega : ¬ 2 ≤ (w.2.1 p).toInt)]; rfl)
  · rw [c2_lt] at hc
    have hc' : ¬ (w.2.1 p).toInt < 2 := hc
    refine pl_e (xR_value L xs h.1) ?_
    rw [if_pos hp]
    refine pl_if (fun hd => ?_) (fun hd => ?_)
    · rw [c2_le] at hd
      have hd' : (w.2.1 p).toInt ≤ 4 := hd
      rw [show (wk w p 5 && (decide (2 ≤ (w.2.1 p).toInt) && decide ((w.2.1 p).toInt ≤ 4))) = true by rw [e5, decide_eq_true hd', decide_eq_true (by omega : 2 ≤ (w.2.1 p).toInt)]; rfl, if_pos rfl]
      unfold BX_comparing_147
      refine pl_e (xR_value L xs h.1) ?_
      exact pl_adv h hp (fun g2 h2 q2 => ⟨⟨_, rfl⟩, _, rfl, h2, q2.trans hs⟩)
    · rw [c2_le] at hd
      have hd' : ¬ (w.2.1 p).toInt ≤ 4 := hd
      exact hno (by rw [e5, decide_eq_false hd', Bool.and_false]; rfl)
theorem xX_comparing (L : Nat) (xs : Nat → Int32) {m d : Nat} {w : Ws} {f : Gh} {p : Nat} {g : a2_G} {r : a2_A} (h : Ru w f p g r) : pl (ev L xs (m + 1) d nX_comparing [.ref cX] g r) (kCo w f g (rcmp w p)) (kCx w f (rcmp w p)) := by
  cases d with
  | zero => trivial
  | succ d =>
    rw [qX_comparing]
    unfold rcmp rcmp1
    refine pl_mb h (fun v g1 h1 q1 => ?_)
    refine pl_ss h1 (fun e g2 h2 q2 => pl_neg (by decide) ?_) (fun e => pl_pos (by decide) ?_)
    · rw [e]
      exact xX_comparing27 L xs 3 h2 (q2.trans q1)
    · rw [e]
      exact xX_comparing27 L xs 0 h1 q1
theorem xX_conditionName (L : Nat) (xs : Nat → Int32) {m d : Nat} {w : Ws} {f : Gh} {p : Nat} {g : a2_G} {r : a2_A} (a : Int32) (h : Ru w f p g r) : pl (ev L xs (m + 1) d nX_conditionName [.ref cX, .int a] g r) (fun o g' r' => (∃ v : Int32, o = some (.int v)) ∧ wk w p 1 = true ∧ Ru w f (p + 1) g' r' ∧ g' fX_subject = g fX_subject) (fun x g' r' => x = 10 ∧ wk w p 1 = false ∧ Ru w f (if wo w p then p + 1 else p) g' r') := by
  cases d with
  | zero => trivial
  | succ d =>
    rw [qX_conditionName]
    refine pl_u (xR_isKind L xs 1 h.1) (fun e => pl_pos (by decide) ?_) (fun e => pl_neg (by decide) ?_)
    · unfold BX_conditionName_36
      refine pl_e (xR_value L xs h.1) ?_
      refine pl_mk h (fun g1 r1 h1 q1 => ?_)
      exact pl_adv h1 (wk_iff.mp e).1 (fun g2 h2 q2 => ⟨⟨_, rfl⟩, e, h2, q2.trans q1⟩)
    · refine pl_u (xR_isOperand L xs h.1) (fun e2 => pl_neg (by decide) ?_) (fun e2 => pl_pos (by decide) ?_)
      · rw [e2, if_pos rfl]
        refine pl_adv h (wo_iff.mp e2).1 (fun g1 h1 _ => ?_)
        unfold BX_conditionName_28
        exact pl_n (xR_refuse 1 h1) (fun x g' r' q => ⟨q.1, e, q.2.1⟩) (fun _ _ q => q.elim)
      · rw [e2, if_neg (by decide)]
        unfold BX_conditionName_28
        exact pl_n (xR_refuse 1 h) (fun x g' r' q => ⟨q.1, e, q.2.1⟩) (fun _ _ q => q.elim)
/-- is there a subject -/
def Sb (s : Bool) (g : a2_G) : Prop := if s then g fX_subject ≠ -1 else g fX_subject = -1
def kC (w : Ws) (f : Gh) (z : Option RR) : Option Value → a2_G → a2_A → Prop := fun o g r => (∃ v : Int32, o = some (.int v)) ∧ ∃ q s, z = some (.inl (q, s)) ∧ Ru w f q g r ∧ Sb s g
theorem pl_vC {z : Option fn_Z} {k : Int32 → a2_G → a2_A → Option fn_Z} {w : Ws} {f : Gh} {PQ : Option RR → Option Value → a2_G → a2_A → Prop} {K : Nat → Bool → Option RR} {zA : Option RR} (h : pl z (kC w f zA) (kRx w f zA)) (hk : ∀ v q s g' r', zA = some (.inl (q, s)) → Ru w f q g' r' → Sb s g' → pl (k v g' r') (PQ (K q s)) (kRx w f (K q s))) : pl (fn_v z k) (PQ (bd zA K)) (kRx w f (bd zA K)) := by
  match z, h with
  | none, _ => exact trivial
  | some (.inl none, g, r), h => obtain ⟨⟨v, e⟩, -⟩ := h; cases e
  | some (.inl (some v0), g, r), h =>
    obtain ⟨⟨v, e⟩, q, s, e2, e3, e4⟩ := h
    cases e
    have h1 := hk v q s g r e2 e3 e4
    rw [e2]
    exact h1
  | some (.inr x, g, r), h =>
    obtain ⟨e, q, e2, e3⟩ := h
    rw [e2]
    exact ⟨e, q, rfl, e3⟩
theorem Sb.of {s : Bool} {g g' : a2_G} (h : Sb s g) (e : g' fX_subject = g fX_subject) : Sb s g' := by
  unfold Sb at h ⊢
  rw [e]
  exact h
theorem xX_rel87 (L : Nat) (xs : Nat → Int32) {m d k : Nat} {w : Ws} {f : Gh} {q : Nat} {g : a2_G} {r : a2_A} (x1 x2 x3 : Int32) (h : Ru w f q g r) (hs : Sb true g) : pl (BX_relation_87 L xs (m + 1) d k x1 x2 x3 g r) (kC w f (some (ropd w q))) (kRx w f (some (ropd w q))) := by
  have h134 : ∀ x4 g r, Ru w f q g r → Sb true g → pl (BX_relation_134 L xs (m + 1) d k x1 x2 x3 x4 g r) (kC w f (some (ropd w q))) (kRx w f (some (ropd w q))) := by
    intro x4 g r h hs
    unfold BX_relation_134 ropd
    refine pl_v (xL_operand h) (fun x g' r' e => ?_) (fun v g' r' e => ?_)
    · rw [e.2.1]
      exact ⟨e.1, q, rfl, e.2.2⟩
    · rw [e.2.1, if_pos rfl]
      exact pl_ap e.2.2.1 (fun g2 r2 h2 q2 => ⟨⟨_, rfl⟩, _, _, rfl, h2, hs.of (q2.trans e.2.2.2)⟩)
  unfold BX_relation_87
  refine pl_mk h (fun g1 r1 h1 q1 => ?_)
  refine pl_st h1 (fun g2 r2 h2 q2 => ?_)
  refine pl_if (fun _ => h134 _ _ _ h2 (hs.of (q2.trans q1))) (fun _ => ?_)
  exact pl_ap h2 (fun g3 r3 h3 q3 => h134 _ _ _ h3 (hs.of (q3.trans (q2.trans q1))))
theorem xX_rel79 (L : Nat) (xs : Nat → Int32) {m d k : Nat} {w : Ws} {f : Gh} {q : Nat} {g : a2_G} {r : a2_A} (x1 x2 x3 : Int32) (h : Ru w f q g r) (hs : Sb true g) : pl (BX_relation_79 L xs (m + 1) d k x1 x2 x3 g r) (kC w f (some (rcmp w q))) (kRx w f (some (rcmp w q))) := by
  unfold BX_relation_79
  refine pl_v (xX_comparing L xs h) (fun x g' r' e => ?_) (fun v g' r' e => ?_)
  · obtain ⟨e1, q1, e2, e3⟩ := e
    rw [e2]
    exact ⟨e1, q1, rfl, e3⟩
  · obtain ⟨-, q1, e2, e3, e4⟩ := e
    rw [e2]
    exact xX_rel87 L xs x1 x2 x3 (e3.x v rfl) (hs.of e4)
theorem xX_relation (L : Nat) (xs : Nat → Int32) {m d : Nat} {w : Ws} {f : Gh} {p : Nat} {s : Bool} {g : a2_G} {r : a2_A} (h : Ru w f p g r) (hs : Sb s g) : pl (ev L xs (m + 1) d nX_relation [.ref cX] g r) (kC w f (some (rel w p s))) (kRx w f (some (rel w p s))) := by
  cases d with
  | zero => trivial
  | succ d =>
    rw [qX_relation]
    refine pl_e (xR_place L xs) ?_
    have h30 : (wo w p && wm w (p + 1)) = false → pl (BX_relation_30 L xs (m + 1) d m (g fR_at) g r) (kC w f (some (rel w p s))) (kRx w f (some (rel w p s))) := by
      intro e
      unfold BX_relation_30 BX_relation_31 rel
      rw [e, if_neg (by decide)]
      refine pl_e (xX_isComparing L xs 0 (j := 0) rfl (by decide) h.1) ?_
      refine pl_neg (by decide) ?_
      cases s with
      | true =>
        refine pl_pos (by rw [c2_ne]; exact hs) ?_
        rw [if_pos rfl]
        unfold BX_relation_56
        refine pl_pos (by decide) ?_
        unfold BX_relation_71
        refine pl_neg (by decide) ?_
        cases e2 : wm w (p + 0) with
        | true =>
          exact pl_neg (by decide) (xX_rel79 L xs _ _ _ h hs)
        | false =>
          exact pl_pos (by decide) (xX_rel87 L xs _ _ _ h hs)
      | false =>
        refine pl_neg (by rw [c2_ne]; exact fun e => e hs) ?_
        rw [if_neg (by decide)]
        refine pl_v (xX_conditionName L xs (g fR_at) h) (fun x g' r' e => ?_) (fun v g' r' e => ?_)
        · obtain ⟨e1, e2, e3⟩ := e
          rw [e2, if_neg (by decide)]
          cases e4 : wo w p with
          | true =>
            rw [e4] at e3
            exact ⟨e1, p + 1, rfl, e3⟩
          | false =>
            rw [e4] at e3
            exact ⟨e1, p, rfl, e3⟩
        · obtain ⟨-, e2, e3, e4⟩ := e
          rw [e2, if_pos rfl]
          exact ⟨⟨_, rfl⟩, _, _, rfl, e3, Sb.of (s := false) hs e4⟩
    refine pl_u (xR_isOperand L xs h.1) (fun e => pl_neg (by decide) ?_) (fun e => pl_pos (by decide) (h30 (by rw [e]; rfl)))
    refine pl_u (xX_isComparing L xs 1 (j := 1) rfl (by decide) h.1) (fun e2 => pl_neg (by decide) ?_) (fun e2 => pl_pos (by decide) (h30 (by rw [e2, Bool.and_false])))
    unfold BX_relation_31 rel
    rw [e, e2, Bool.and_self, if_pos rfl]
    refine pl_e (xX_isComparing L xs 0 (j := 0) rfl (by decide) h.1) ?_
    refine pl_pos (by decide) ?_
    unfold BX_relation_56
    refine pl_neg (by decide) ?_
    refine pl_v (xL_operand h) (fun x g' r' q => ?_) (fun v g' r' q => ?_)
    · rw [e] at q
      cases q.2.1
    · obtain ⟨⟨v', q1, q0⟩, -, q3, -⟩ := q
      cases q1
      unfold BX_relation_71
      refine pl_pos (by decide) ?_
      refine xX_rel79 L xs _ _ _ (g := upd g' fX_subject v) (q3.x v rfl) ?_
      show upd g' fX_subject v fX_subject ≠ -1
      intro e9
      have e8 : v = -1 := e9
      rw [e8] at q0
      exact absurd q0 (by decide)
