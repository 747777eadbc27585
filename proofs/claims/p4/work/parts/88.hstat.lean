/-! The class's statements. -/
theorem bd_ite {c : Prop} [Decidable c] {a b : Option RR} {K : Nat → Bool → Option RR} : bd (if c then a else b) K = if c then bd a K else bd b K := by
  by_cases h : c
  · rw [if_pos h, if_pos h]
  · rw [if_neg h, if_neg h]
theorem bd_ok {p : Nat} {K : Nat → Bool → Option RR} : bd (ok p) K = K p false := rfl
theorem bd_no {p : Nat} {K : Nat → Bool → Option RR} : bd (no p) K = no p := rfl
theorem bd_as {x : Option RR} {K K' : Nat → Bool → Option RR} : bd (bd x K) K' = bd x (fun q s => bd (K q s) K') := by
  match x with
  | none => rfl
  | some (.inl q) => rfl
  | some (.inr b) => rfl
section
variable {L : Nat} {xs : Nat → Int32} {m d : Nat} {w : Ws} {f : Gh} {p : Nat} {g : a2_G} {r : a2_A} {k : Int32 → a2_G → a2_A → Option fn_Z} {kn : a2_G → a2_A → Option fn_Z} {Q : Option Value → a2_G → a2_A → Prop} {X : Nat → a2_G → a2_A → Prop}
theorem xS_begin (a : Int32) (h : Ru w f p g r) (hp : p < w.2.2) : pl (ev L xs (m + 1) d nS_begin [.ref cS, .int a] g r) (fun o g' r' => (∃ v : Int32, o = some (.int v)) ∧ Ru w f (p + 1) g' r') kN := by
  cases d with
  | zero => trivial
  | succ d =>
    rw [qS_begin]
    refine pl_e (xR_place L xs) ?_
    refine pl_mk h (fun g1 r1 h1 _ => ?_)
    refine pl_st h1 (fun g2 r2 h2 _ => ?_)
    exact pl_adv h2 hp (fun g3 h3 _ => ⟨⟨_, rfl⟩, h3⟩)
theorem pl_bg {a : Int32} (h : Ru w f p g r) (hp : p < w.2.2) (hk : ∀ v g' r', Ru w f (p + 1) g' r' → pl (k v g' r') Q X) : pl (fn_v (ev L xs (m + 1) d nS_begin [.ref cS, .int a] g r) k) Q X := pl_v (xS_begin a h hp) (fun _ _ _ e => e.elim) (fun v g' r' e => hk v g' r' e.2)
theorem xS_scopeEnd (a b : Int32) (h : Ru w f p g r) : pl (ev L xs (m + 1) d nS_scopeEnd [.ref cS, .int a, .int b] g r) (fun o g' r' => o = none ∧ Ru w f (sk (ww w p b) p) g' r') kN := by
  cases d with
  | zero => trivial
  | succ d =>
    rw [qS_scopeEnd]
    refine pl_ss h (fun e g1 h1 _ => pl_neg (by decide) ?_) (fun e => pl_pos (by decide) ?_)
    · rw [e]
      exact pl_st h1 (fun g2 r2 h2 _ => ⟨rfl, h2⟩)
    · rw [e]
      exact ⟨rfl, h⟩
theorem pl_se {a b : Int32} (h : Ru w f p g r) (hk : ∀ g' r', Ru w f (sk (ww w p b) p) g' r' → pl (kn g' r') Q X) : pl (fn_n (ev L xs (m + 1) d nS_scopeEnd [.ref cS, .int a, .int b] g r) kn) Q X := pl_n (xS_scopeEnd a b h) (fun _ _ _ e => e.elim) (fun g' r' e => hk g' r' e.2)
theorem xS_phraseIn (a b : Int32) (h : Ru w f p g r) : pl (ev L xs (m + 1) d nS_phraseIn [.ref cS, .int a, .int b] g r) (fun o g' r' => (∃ v : Int32, o = some (.int v)) ∧ Ru w f p g' r') kN := by
  cases d with
  | zero => trivial
  | succ d =>
    rw [qS_phraseIn]
    refine pl_e (xR_place L xs) ?_
    refine pl_mk h (fun g1 r1 h1 _ => ?_)
    exact pl_ap h1 (fun g2 r2 h2 _ => ⟨⟨_, rfl⟩, h2⟩)
theorem pl_ph {a b : Int32} (h : Ru w f p g r) (hk : ∀ v g' r', Ru w f p g' r' → pl (k v g' r') Q X) : pl (fn_v (ev L xs (m + 1) d nS_phraseIn [.ref cS, .int a, .int b] g r) k) Q X := pl_v (xS_phraseIn a b h) (fun _ _ _ e => e.elim) (fun v g' r' e => hk v g' r' e.2)
end
theorem xS_operands_t (L : Nat) (xs : Nat → Int32) {m d k : Nat} {w : Ws} {f : Gh} (l : Nat) (a : Int32) (H : ∀ (x2 : Int32) (p : Nat) (g : a2_G) (r : a2_A), Ru w f p g r → 0 ≤ x2.toInt → x2.toInt ≤ p → pl (lp L xs nS_operandsIn nm_m93 (m + 1) d k 17 [some (.ref cS), some (.int a), some (.int x2)] g r) (kRn w f (rv w 19 p l false)) (kRx w f (rv w 19 p l false))) (x2 : Int32) {p : Nat} {g : a2_G} {r : a2_A} (h : Ru w f p g r) (h0 : 0 ≤ x2.toInt) (hx : x2.toInt ≤ p) : pl (BS_operandsIn_17 L xs (m + 1) d k a x2 g r) (kRn w f (rv w 19 p l false)) (kRx w f (rv w 19 p l false)) := by
  have hle := h.le
  rw [rv_eq]
  show pl _ (kRn w f (if wo w p then rv w 19 (p + 1) l false else ok p)) (kRx w f (if wo w p then rv w 19 (p + 1) l false else ok p))
  unfold BS_operandsIn_17
  refine pl_if (fun hc => ?_) (fun hc => ?_)
  · rw [c2_ge] at hc
    have hc' : (1500 : Int) ≤ x2.toInt := hc
    rw [wo_out (by omega : ¬ p < w.2.2)]
    exact ⟨rfl, p, rfl, h⟩
  · have h15 : x2.toInt < 1500 := by
      rw [c2_ge] at hc
      have hc' : ¬ (1500 : Int) ≤ x2.toInt := hc
      omega
    refine pl_t (xR_isOperand L xs h.1) (fun e => pl_neg (by decide) ?_) (fun e => pl_pos (by decide) ⟨rfl, p, rfl, h⟩)
    refine pl_v (xL_operand h) (fun x g' r' q => by rw [e] at q; cases q.2.1) (fun v g' r' q => ?_)
    refine pl_ap q.2.2.1 (fun g2 r2 h2 _ => ?_)
    have e5 := i32_inc (x := x2) (by omega)
    exact H (x2 + 1) (p + 1) g2 r2 h2 (by omega) (by omega)
theorem xS_operands_l (L : Nat) (xs : Nat → Int32) {m d : Nat} {w : Ws} {f : Gh} (l : Nat) (a : Int32) : ∀ (k : Nat) (x2 : Int32) (p : Nat) (g : a2_G) (r : a2_A), Ru w f p g r → 0 ≤ x2.toInt → x2.toInt ≤ p → pl (lp L xs nS_operandsIn nm_m93 (m + 1) d k 17 [some (.ref cS), some (.int a), some (.int x2)] g r) (kRn w f (rv w 19 p l false)) (kRx w f (rv w 19 p l false)) := by
  intro k
  induction k with
  | zero => exact fun _ _ _ _ _ _ _ => pl_l0
  | succ k ih =>
    intro x2 p g r h h0 hx
    rw [lS_operandsIn_17]
    exact xS_operands_t L xs l a ih x2 h h0 hx
theorem xS_operandsIn (L : Nat) (xs : Nat → Int32) {m d : Nat} {w : Ws} {f : Gh} {p : Nat} {g : a2_G} {r : a2_A} (l : Nat) (a : Int32) (h : Ru w f p g r) : pl (ev L xs (m + 1) d nS_operandsIn [.ref cS, .int a] g r) (kRn w f (if wo w p then rv w 19 (p + 1) l false else no p)) (kRx w f (if wo w p then rv w 19 (p + 1) l false else no p)) := by
  cases d with
  | zero => trivial
  | succ d =>
    rw [qS_operandsIn]
    refine pl_op h (fun e v g1 r1 _ h1 _ => ?_)
    refine pl_ap h1 (fun g2 r2 h2 _ => ?_)
    exact xS_operands_t L xs l a (xS_operands_l L xs l a _) 0 h2 (by decide) (by show (0 : Int) ≤ _; omega)
theorem xS_isNext (L : Nat) (xs : Nat → Int32) {m d : Nat} {w : Ws} {f : Gh} {p : Nat} {g : a2_G} {r : a2_A} (h : Ro w f p g r) : pl (ev L xs (m + 1) d nS_isNext [.ref cS] g r) (kE g r (b2i (wb w p))) kN := by
  cases d with
  | zero => trivial
  | succ d =>
    rw [qS_isNext]
    refine pl_e (xR_value L xs h) ?_
    have hx : ∀ (x1 x2 : Int32) (b : Bool), x2 = b2i b → wb w p = (wk w p 0 && b) → pl (BS_isNext_31 L xs (m + 1) d m x1 x2 g r) (kE g r (b2i (wb w p))) kN := by
      intro x1 x2 b e1 e2
      subst e1
      unfold BS_isNext_31 BS_isNext_51 BS_isNext_52
      refine pl_u (xR_isKind L xs 0 h) (fun e => pl_neg (by decide) ?_) (fun e => pl_pos (by decide) (pl_pos (by decide) ⟨by rw [e2, e]; rfl, rfl, rfl⟩))
      cases b with
      | true => exact pl_neg (by decide) (pl_pos (by decide) ⟨by rw [e2, e]; rfl, rfl, rfl⟩)
      | false => exact pl_pos (by decide) (pl_pos (by decide) ⟨by rw [e2, e]; rfl, rfl, rfl⟩)
    by_cases hp : p < w.2.2
    · rw [if_pos hp]
      have h20 : ¬ (36 ≤ (w.2.1 p).toInt ∧ (w.2.1 p).toInt ≤ 47) → pl (BS_isNext_20 L xs (m + 1) d m (w.2.1 p) g r) (kE g r (b2i (wb w p))) kN := by
        intro hn
        have hd : (decide (36 ≤ (w.2.1 p).toInt) && decide ((w.2.1 p).toInt ≤ 47)) = false := by
          rw [← Bool.not_eq_true, Bool.and_eq_true, decide_eq_true_eq, decide_eq_true_eq]
          exact hn
        unfold BS_isNext_20 BS_isNext_26
        refine pl_if (fun hc => ?_) (fun hc => ?_)
        · rw [c2_ne] at hc
          exact hx _ 0 false rfl (by unfold wb; rw [hd, decide_eq_false hc]; rfl)
        · rw [c2_ne, Decidable.not_not] at hc
          exact hx _ 1 true rfl (by unfold wb; rw [hd, decide_eq_true hc]; rfl)
      refine pl_if (fun hc => ?_) (fun hc => ?_)
      · rw [c2_lt] at hc
        have hc' : (w.2.1 p).toInt < 36 := hc
        exact h20 (by omega)
      · rw [c2_lt] at hc
        have hc' : ¬ (w.2.1 p).toInt < 36 := hc
        refine pl_if (fun hd => ?_) (fun hd => ?_)
        · rw [c2_le] at hd
          have hd' : (w.2.1 p).toInt ≤ 47 := hd
          unfold BS_isNext_26
          exact hx _ 1 true rfl (by unfold wb; rw [decide_eq_true hd', decide_eq_true (by omega : 36 ≤ (w.2.1 p).toInt)]; rfl)
        · rw [c2_le] at hd
          have hd' : ¬ (w.2.1 p).toInt ≤ 47 := hd
          exact h20 (by omega)
    · have hz : ∀ x1 x2, (x2 = 0 ∨ x2 = 1) → pl (BS_isNext_31 L xs (m + 1) d m x1 x2 g r) (kE g r (b2i (wb w p))) kN := by
        intro x1 x2 e
        have e3 : wk w p 0 = false := wk_f (fun e => hp e.1)
        have e4 : ∀ b, wb w p = (wk w p 0 && b) := fun b => by rw [wb_out hp, e3]; rfl
        rcases e with e | e
        · exact hx x1 x2 false e (e4 _)
        · exact hx x1 x2 true e (e4 _)
      simp only [BS_isNext_20, BS_isNext_26]
      repeat' refine pl_if (fun _ => ?_) (fun _ => ?_)
      all_goals first
        | exact hz _ 0 (Or.inl rfl)
        | exact hz _ 1 (Or.inr rfl)
/-- the contract of lists at depth d -/
def SL (L : Nat) (xs : Nat → Int32) (m d : Nat) (w : Ws) (f : Gh) : Prop := ∀ (l p : Nat) (b a : Int32) (g : a2_G) (r : a2_A), a.toInt = l → l ≤ 41 → Ru w f p g r → pl (ev L xs (m + 1) d nS_list [.ref cS, .int b, .int a] g r) (kRv w f (rv w 10 p l false)) (kRx w f (rv w 10 p l false))
/-- .. and of what has a nesting -/
def SG (L : Nat) (xs : Nat → Int32) (m d : Nat) (w : Ws) (f : Gh) (j t : Nat) : Prop := ∀ (l p : Nat) (a : Int32) (g : a2_G) (r : a2_A), a.toInt = l → l ≤ 40 → Ru w f p g r → p < w.2.2 → pl (ev L xs (m + 1) d j [.ref cS, .int a] g r) (kRv w f (rv w t p l false)) (kRx w f (rv w t p l false))
def SP (L : Nat) (xs : Nat → Int32) (m d : Nat) (w : Ws) (f : Gh) (j t : Nat) : Prop := ∀ (l p : Nat) (g : a2_G) (r : a2_A), Ru w f p g r → p < w.2.2 → pl (ev L xs (m + 1) d j [.ref cS] g r) (kRv w f (rv w t p l false)) (kRx w f (rv w t p l false))
theorem xS_move (L : Nat) (xs : Nat → Int32) {m d : Nat} {w : Ws} {f : Gh} : SP L xs m d w f nS_move 136 := by
  intro l p g r h hp
  cases d with
  | zero => trivial
  | succ d =>
    rw [qS_move, rv_t136]
    refine pl_bg h hp (fun v g1 r1 h1 => ?_)
    refine pl_oi h1 (fun _ g2 r2 h2 => ?_)
    refine pl_rq h2 (fun _ g3 h3 _ => ?_)
    exact pl_n (xL_namesIn L xs l v 41 h3) (fun _ _ _ q => q) (fun g4 r4 q => ⟨⟨_, rfl⟩, q.2⟩)
theorem xS_display (L : Nat) (xs : Nat → Int32) {m d : Nat} {w : Ws} {f : Gh} : SP L xs m d w f nS_display 129 := by
  intro l p g r h hp
  cases d with
  | zero => trivial
  | succ d =>
    rw [qS_display, rv_t129]
    refine pl_bg h hp (fun v g1 r1 h1 => ?_)
    exact pl_n (xS_operandsIn L xs l v h1) (fun _ _ _ q => q) (fun g4 r4 q => ⟨⟨_, rfl⟩, q.2⟩)
theorem xS_goTo (L : Nat) (xs : Nat → Int32) {m d : Nat} {w : Ws} {f : Gh} : SP L xs m d w f nS_goTo 143 := by
  intro l p g r h hp
  cases d with
  | zero => trivial
  | succ d =>
    rw [qS_goTo, rv_t143]
    refine pl_bg h hp (fun v g1 r1 h1 => ?_)
    refine pl_mb h1 (fun v2 g2 h2 _ => ?_)
    refine pl_rk h2 (fun _ g3 h3 _ => ?_)
    exact pl_st h3 (fun g4 r4 h4 _ => ⟨⟨_, rfl⟩, _, rfl, h4⟩)
theorem xS_stop (L : Nat) (xs : Nat → Int32) {m d : Nat} {w : Ws} {f : Gh} : SP L xs m d w f nS_stop 144 := by
  intro l p g r h hp
  cases d with
  | zero => trivial
  | succ d =>
    rw [qS_stop, rv_t144]
    refine pl_bg h hp (fun v g1 r1 h1 => ?_)
    exact pl_rq h1 (fun _ g2 h2 _ => ⟨⟨_, rfl⟩, _, rfl, h2⟩)
theorem xS_compute (L : Nat) (xs : Nat → Int32) {m d : Nat} {w : Ws} {f : Gh} : SG L xs m d w f nS_compute 147 := by
  intro l p a g r ha hl h hp
  cases d with
  | zero => trivial
  | succ d =>
    rw [qS_compute, rv_t147]
    refine pl_bg h hp (fun v g1 r1 h1 => ?_)
    refine pl_rk h1 (fun _ g2 h2 _ => ?_)
    refine pl_st h2 (fun g3 r3 h3 _ => ?_)
    refine pl_rs h3 (fun _ g4 h4 _ => ?_)
    refine pl_vR (xX_sums L xs w f d l (p + 3) a g4 r3 ha (by omega) h4).1 (fun v q g5 r5 _ h5 => ?_)
    refine pl_ap h5 (fun g6 r6 h6 _ => ?_)
    exact pl_se h6 (fun g7 r7 h7 => ⟨⟨_, rfl⟩, _, rfl, h7⟩)
theorem xS_add (L : Nat) (xs : Nat → Int32) {m d : Nat} {w : Ws} {f : Gh} (hL0 : ∀ e, e < d → SL L xs m e w f) : SG L xs m d w f nS_add 137 := by
  intro l p a g r ha hl h hp
  cases d with
  | zero => trivial
  | succ d =>
    have hL := hL0 d (by omega)
    have ea : (a + 1).toInt = ((l + 1 : Nat) : Int) := by rw [i32_inc (by omega), ha]; rfl
    have h66 : ∀ x2 q g r, Ru w f q g r → pl (BS_add_66 L xs (m + 1) d m a x2 g r) (kRv w f (rv w 21 q l false)) (kRx w f (rv w 21 q l false)) := by
      intro x2 q g r h
      rw [rv_t21]
      unfold BS_add_66 BS_add_104
      refine pl_sk h (fun _ g1 h1 _ => pl_neg (by decide) ?_) (fun _ => pl_pos (by decide) ?_)
      · refine pl_rq h1 (fun _ g2 h2 _ => ?_)
        refine pl_vR (hL (l + 1) (q + 2) 40 (a + 1) g2 r ea (by omega) h2) (fun v q2 g3 r3 _ h3 => ?_)
        refine pl_ap h3 (fun g4 r4 h4 _ => ?_)
        exact pl_se h4 (fun g7 r7 h7 => ⟨⟨_, rfl⟩, _, rfl, h7⟩)
      · exact pl_se h (fun g7 r7 h7 => ⟨⟨_, rfl⟩, _, rfl, h7⟩)
    rw [qS_add, rv_t137]
    show pl _ (kRv w f (if wo w (p + 1) then bd (rv w 19 (p + 2) l false) (fun q _ => if ww w q 49 then (if wk w (q + 1) 1 then rv w 21 (q + 2) l false else no (q + 1)) else if ww w q 48 then bd (rv w 17 (q + 1) l false) (fun q _ => rv w 21 q l false) else no q) else bd (no (p + 1)) (fun q _ => if ww w q 49 then (if wk w (q + 1) 1 then rv w 21 (q + 2) l false else no (q + 1)) else if ww w q 48 then bd (rv w 17 (q + 1) l false) (fun q _ => rv w 21 q l false) else no q))) (kRx w f (if wo w (p + 1) then bd (rv w 19 (p + 2) l false) (fun q _ => if ww w q 49 then (if wk w (q + 1) 1 then rv w 21 (q + 2) l false else no (q + 1)) else if ww w q 48 then bd (rv w 17 (q + 1) l false) (fun q _ => rv w 21 q l false) else no q) else bd (no (p + 1)) (fun q _ => if ww w q 49 then (if wk w (q + 1) 1 then rv w 21 (q + 2) l false else no (q + 1)) else if ww w q 48 then bd (rv w 17 (q + 1) l false) (fun q _ => rv w 21 q l false) else no q)))
    rw [← bd_ite]
    refine pl_bg h hp (fun v g1 r1 h1 => ?_)
    refine pl_nR (xS_operandsIn L xs l v h1) (fun q g2 r2 _ h2 => ?_)
    refine pl_sk h2 (fun _ g3 h3 _ => pl_neg (by decide) ?_) (fun _ => pl_pos (by decide) ?_)
    · refine pl_st h3 (fun g4 r4 h4 _ => ?_)
      exact pl_ni h4 (fun _ g5 r5 h5 => h66 _ _ _ _ h5)
    · refine pl_rq h2 (fun _ g3 h3 _ => ?_)
      exact pl_nR (xL_namesIn L xs l v 41 h3) (fun q2 g4 r4 _ h4 => h66 _ _ _ _ h4)
theorem xS_branch (L : Nat) (xs : Nat → Int32) {m d : Nat} {w : Ws} {f : Gh} (hL : ∀ e, e < d → SL L xs m e w f) {l p : Nat} {a : Int32} {g : a2_G} {r : a2_A} (ha : a.toInt = l) (hl : l ≤ 40) (h : Ru w f p g r) : pl (ev L xs (m + 1) d nS_branch [.ref cS, .int a] g r) (kRv w f (rv w 13 p l false)) (kRx w f (rv w 13 p l false)) := by
  cases d with
  | zero => trivial
  | succ d =>
    have ea : (a + 1).toInt = ((l + 1 : Nat) : Int) := by rw [i32_inc (by omega), ha]; rfl
    rw [qS_branch, rv_t13]
    refine pl_t (xR_isReserved L xs 54 0 (j := 0) rfl (by decide) h.1) (fun e => pl_pos (by decide) ?_) (fun e => pl_neg (by decide) ?_)
    · refine pl_e (xR_place L xs) ?_
      refine pl_mk h (fun g1 r1 h1 _ => ?_)
      refine pl_adv h1 (ww_iff.mp e).1 (fun g2 h2 _ => ?_)
      exact pl_rq h2 (fun _ g3 h3 _ => ⟨⟨_, rfl⟩, _, rfl, h3⟩)
    · exact pl_v (hL d (by omega) (l + 1) p 40 (a + 1) g r ea (by omega) h) (fun _ _ _ q => q) (fun v g1 r1 q => q)
theorem xS_read (L : Nat) (xs : Nat → Int32) {m d : Nat} {w : Ws} {f : Gh} (hL0 : ∀ e, e < d → SL L xs m e w f) : SG L xs m d w f nS_read 141 := by
  intro l p a g r ha hl h hp
  cases d with
  | zero => trivial
  | succ d =>
    have hL := hL0 d (by omega)
    have ea : (a + 1).toInt = ((l + 1 : Nat) : Int) := by rw [i32_inc (by omega), ha]; rfl
    rw [qS_read, rv_t141]
    refine pl_bg h hp (fun v g1 r1 h1 => ?_)
    refine pl_rk h1 (fun _ g2 h2 _ => ?_)
    refine pl_st h2 (fun g3 r3 h3 _ => ?_)
    unfold BS_read_62
    refine pl_sk h3 (fun _ g4 h4 _ => pl_neg (by decide) ?_) (fun _ => pl_pos (by decide) ?_)
    · refine pl_rq h4 (fun _ g5 h5 _ => ?_)
      refine pl_vR (hL (l + 1) (p + 4) 40 (a + 1) g5 r3 ea (by omega) h5) (fun v q2 g6 r6 _ h6 => ?_)
      refine pl_ap h6 (fun g7 r7 h7 _ => ?_)
      exact pl_se h7 (fun g8 r8 h8 => ⟨⟨_, rfl⟩, _, rfl, h8⟩)
    · exact pl_se h3 (fun g7 r7 h7 => ⟨⟨_, rfl⟩, _, rfl, h7⟩)
theorem xS_call (L : Nat) (xs : Nat → Int32) {m d : Nat} {w : Ws} {f : Gh} (hL0 : ∀ e, e < d → SL L xs m e w f) : SG L xs m d w f nS_call 142 := by
  intro l p a g r ha hl h hp
  cases d with
  | zero => trivial
  | succ d =>
    have hL := hL0 d (by omega)
    have ea : (a + 1).toInt = ((l + 1 : Nat) : Int) := by rw [i32_inc (by omega), ha]; rfl
    have h56 : ∀ x2 q g r, Ru w f q g r → pl (BS_call_56 L xs (m + 1) d m a x2 g r) (kRv w f (rv w 23 q l false)) (kRx w f (rv w 23 q l false)) := by
      intro x2 q g r h
      rw [rv_t23]
      unfold BS_call_56 BS_call_85
      refine pl_sk h (fun _ g1 h1 _ => pl_neg (by decide) ?_) (fun _ => pl_pos (by decide) ?_)
      · refine pl_vR (hL (l + 1) (q + 1) 40 (a + 1) g1 r ea (by omega) h1) (fun v q2 g3 r3 _ h3 => ?_)
        refine pl_ap h3 (fun g4 r4 h4 _ => ?_)
        exact pl_se h4 (fun g7 r7 h7 => ⟨⟨_, rfl⟩, _, rfl, h7⟩)
      · exact pl_se h (fun g7 r7 h7 => ⟨⟨_, rfl⟩, _, rfl, h7⟩)
    rw [qS_call, rv_t142]
    show pl _ (kRv w f (if (wk w (p + 1) 1 || wk w (p + 1) 3) = true then (if ww w (p + 2) 31 then bd (rv w 17 (p + 3) l false) (fun q _ => rv w 23 q l false) else rv w 23 (p + 2) l false) else no (p + 1))) (kRx w f (if (wk w (p + 1) 1 || wk w (p + 1) 3) = true then (if ww w (p + 2) 31 then bd (rv w 17 (p + 3) l false) (fun q _ => rv w 23 q l false) else rv w 23 (p + 2) l false) else no (p + 1)))
    refine pl_bg h hp (fun v g1 r1 h1 => ?_)
    refine pl_u (xR_isKind L xs 2 h1.1) (fun e => pl_neg (by decide) ?_) (fun e => pl_pos (by decide) ?_)
    · rw [show (wk w (p + 1) 1 || wk w (p + 1) 3) = false by
        rw [Bool.or_eq_false_iff]
        have h3 := (wk_iff.mp e).2
        exact ⟨wk_f (fun e => absurd (h3.symm.trans e.2) (by decide)), wk_f (fun e => absurd (h3.symm.trans e.2) (by decide))⟩]
      exact pl_rf h1
    · rw [show (wk w (p + 1) 1 || wk w (p + 1) 3) = wo w (p + 1) by unfold wo; rw [e, Bool.or_false]]
      unfold BS_call_26
      refine pl_oi h1 (fun _ g2 r2 h2 => ?_)
      refine pl_sk h2 (fun _ g3 h3 _ => pl_neg (by decide) ?_) (fun _ => pl_pos (by decide) (h56 _ _ _ _ h2))
      exact pl_nR (xL_namesIn L xs l v 21 h3) (fun q2 g4 r4 _ h4 => h56 _ _ _ _ h4)
theorem xS_ifElse (L : Nat) (xs : Nat → Int32) {m d : Nat} {w : Ws} {f : Gh} (hL : ∀ e, e < d → SL L xs m e w f) : SG L xs m d w f nS_ifElse 138 := by
  intro l p a g r ha hl h hp
  cases d with
  | zero => trivial
  | succ d =>
    rw [qS_ifElse, rv_t138]
    refine pl_bg h hp (fun v g1 r1 h1 => ?_)
    refine pl_vC (K := fun q _ => bd (rv w 13 (sk (ww w q 52) q) l false) fun q _ => if ww w q 53 then bd (rv w 13 (q + 1) l false) (fun q _ => ok (sk (ww w q 73) q)) else ok (sk (ww w q 73) q)) (xX_conds L xs w f d l (p + 1) a g1 r1 ha (by omega) h1).1 (fun v2 q s g2 r2 _ h2 _ => ?_)
    refine pl_ap h2 (fun g3 r3 h3 _ => ?_)
    refine pl_mb h3 (fun v4 g4 h4 _ => ?_)
    refine pl_vR (xS_branch L xs (fun e he => hL e (by omega)) ha hl h4) (fun v5 q5 g5 r5 _ h5 => ?_)
    refine pl_ap h5 (fun g6 r6 h6 _ => ?_)
    unfold BS_ifElse_71
    refine pl_sk h6 (fun _ g7 h7 _ => pl_neg (by decide) ?_) (fun _ => pl_pos (by decide) ?_)
    · refine pl_vR (xS_branch L xs (fun e he => hL e (by omega)) ha hl h7) (fun v8 q8 g8 r8 _ h8 => ?_)
      refine pl_ap h8 (fun g9 r9 h9 _ => ?_)
      exact pl_se h9 (fun g7 r7 h7 => ⟨⟨_, rfl⟩, _, rfl, h7⟩)
    · exact pl_se h6 (fun g7 r7 h7 => ⟨⟨_, rfl⟩, _, rfl, h7⟩)
