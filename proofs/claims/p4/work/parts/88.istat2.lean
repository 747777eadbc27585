/-! The class's statements: WHEN, EVALUATE, PERFORM, and what chooses. -/
theorem rv_16lt {w : Ws} {p l q : Nat} {s : Bool} (h : rv w 16 p l false = some (.inl (q, s))) (e : ww w p 59 = true) : p + 1 ≤ q := by
  rw [rv_eq] at h
  have h' : (if ww w p 59 then (if ww w (p + 1) 60 then rv w 16 (p + 2) l false else if wo w (p + 1) then rv w 16 (p + 2) l false else no (p + 1)) else ok p) = some (.inl (q, s)) := h
  rw [e, if_pos rfl] at h'
  have hm : mp (p + 1) (if ww w (p + 1) 60 then rv w 16 (p + 2) l false else if wo w (p + 1) then rv w 16 (p + 2) l false else no (p + 1)) := mp_ite ((rv_mo w).at _ _ _ (by omega)) (mp_ite ((rv_mo w).at _ _ _ (by omega)) mp_no)
  exact hm q s h'
theorem rv_15lt {w : Ws} {p l q : Nat} {s : Bool} (h : rv w 15 p l false = some (.inl (q, s))) (e : ww w p 59 = true) : p + 1 ≤ q := by
  rw [rv_eq] at h
  have h' : bd (rv w 16 p l false) (fun q _ => rv w 10 q (l + 1) false) = some (.inl (q, s)) := h
  have hm : mp (p + 1) (bd (rv w 16 p l false) (fun q _ => rv w 10 q (l + 1) false)) := mp_bd (fun q s e2 => rv_16lt e2 e) (fun _ _ hq => (rv_mo w).at _ _ _ hq)
  exact hm q s h'
theorem xS_when_t (L : Nat) (xs : Nat → Int32) {m d k : Nat} {w : Ws} {f : Gh} (hL : SL L xs m d w f) {l : Nat} {a : Int32} (ha : a.toInt = l) (hl : l ≤ 40) (H : ∀ (x2 x3 : Int32) (p : Nat) (g : a2_G) (r : a2_A), Ru w f p g r → 0 ≤ x3.toInt → x3.toInt ≤ p → pl (lp L xs nS_when nm_m114 (m + 1) d k 20 [some (.ref cS), some (.int a), some (.int x2), some (.int x3)] g r) (kRv w f (bd (rv w 16 p l false) fun q _ => rv w 10 q (l + 1) false)) (kRx w f (bd (rv w 16 p l false) fun q _ => rv w 10 q (l + 1) false))) (x2 x3 : Int32) {p : Nat} {g : a2_G} {r : a2_A} (h : Ru w f p g r) (h0 : 0 ≤ x3.toInt) (hx : x3.toInt ≤ p) : pl (BS_when_20 L xs (m + 1) d k a x2 x3 g r) (kRv w f (bd (rv w 16 p l false) fun q _ => rv w 10 q (l + 1) false)) (kRx w f (bd (rv w 16 p l false) fun q _ => rv w 10 q (l + 1) false)) := by
  have hle := h.le
  have ea : (a + 1).toInt = ((l + 1 : Nat) : Int) := by rw [i32_inc (by omega), ha]; rfl
  have h101 : ww w p 59 = false → pl (BS_when_101 L xs (m + 1) d k a x2 x3 g r) (kRv w f (bd (rv w 16 p l false) fun q _ => rv w 10 q (l + 1) false)) (kRx w f (bd (rv w 16 p l false) fun q _ => rv w 10 q (l + 1) false)) := by
    intro e
    rw [rv_eq w 16]
    show pl _ (kRv w f (bd (if ww w p 59 then (if ww w (p + 1) 60 then rv w 16 (p + 2) l false else if wo w (p + 1) then rv w 16 (p + 2) l false else no (p + 1)) else ok p) fun q _ => rv w 10 q (l + 1) false)) (kRx w f (bd (if ww w p 59 then (if ww w (p + 1) 60 then rv w 16 (p + 2) l false else if wo w (p + 1) then rv w 16 (p + 2) l false else no (p + 1)) else ok p) fun q _ => rv w 10 q (l + 1) false))
    rw [e, if_neg (by decide)]
    unfold BS_when_101
    refine pl_v (hL (l + 1) p 40 (a + 1) g r ea (by omega) h) (fun _ _ _ q => q) (fun v g1 r1 q => ?_)
    obtain ⟨-, q1, e1, h1⟩ := q
    exact pl_ap h1 (fun g2 r2 h2 _ => ⟨⟨_, rfl⟩, q1, e1, h2⟩)
  unfold BS_when_20
  refine pl_if (fun hc => ?_) (fun hc => ?_)
  · rw [c2_ge] at hc
    have hc' : (1500 : Int) ≤ x3.toInt := hc
    exact h101 (ww_out (by omega))
  · have h15 : x3.toInt < 1500 := by
      rw [c2_ge] at hc
      have hc' : ¬ (1500 : Int) ≤ x3.toInt := hc
      omega
    have e5 := i32_inc (x := x3) (by omega)
    refine pl_ss h (fun e g1 h1 _ => pl_neg (by decide) ?_) (fun e => pl_pos (by decide) (h101 e))
    rw [rv_eq w 16]
    show pl _ (kRv w f (bd (if ww w p 59 then (if ww w (p + 1) 60 then rv w 16 (p + 2) l false else if wo w (p + 1) then rv w 16 (p + 2) l false else no (p + 1)) else ok p) fun q _ => rv w 10 q (l + 1) false)) (kRx w f (bd (if ww w p 59 then (if ww w (p + 1) 60 then rv w 16 (p + 2) l false else if wo w (p + 1) then rv w 16 (p + 2) l false else no (p + 1)) else ok p) fun q _ => rv w 10 q (l + 1) false))
    rw [e, if_pos rfl, bd_ite, bd_ite, bd_no]
    unfold BS_when_95
    refine pl_t (xR_isReserved L xs 60 0 (j := 0) rfl (by decide) h1.1) (fun e2 => pl_neg (by decide) ?_) (fun e2 => pl_pos (by decide) ?_)
    · refine pl_e (xR_place L xs) ?_
      refine pl_mk h1 (fun g2 r2 h2 _ => ?_)
      refine pl_ap h2 (fun g3 r3 h3 _ => ?_)
      refine pl_adv h3 (ww_iff.mp e2).1 (fun g4 h4 _ => ?_)
      exact H _ _ (p + 2) _ _ h4 (by omega) (by omega)
    · exact pl_oi h1 (fun _ g2 r2 h2 => H _ _ (p + 2) _ _ h2 (by omega) (by omega))
theorem xS_when_l (L : Nat) (xs : Nat → Int32) {m d : Nat} {w : Ws} {f : Gh} (hL : SL L xs m d w f) {l : Nat} {a : Int32} (ha : a.toInt = l) (hl : l ≤ 40) : ∀ (k : Nat) (x2 x3 : Int32) (p : Nat) (g : a2_G) (r : a2_A), Ru w f p g r → 0 ≤ x3.toInt → x3.toInt ≤ p → pl (lp L xs nS_when nm_m114 (m + 1) d k 20 [some (.ref cS), some (.int a), some (.int x2), some (.int x3)] g r) (kRv w f (bd (rv w 16 p l false) fun q _ => rv w 10 q (l + 1) false)) (kRx w f (bd (rv w 16 p l false) fun q _ => rv w 10 q (l + 1) false)) := by
  intro k
  induction k with
  | zero => exact fun _ _ _ _ _ _ _ _ => pl_l0
  | succ k ih =>
    intro x2 x3 p g r h h0 hx
    rw [lS_when_20]
    exact xS_when_t L xs hL ha hl ih x2 x3 h h0 hx
theorem xS_when (L : Nat) (xs : Nat → Int32) {m d : Nat} {w : Ws} {f : Gh} (hL : ∀ e, e < d → SL L xs m e w f) {l p : Nat} {a : Int32} {g : a2_G} {r : a2_A} (ha : a.toInt = l) (hl : l ≤ 40) (h : Ru w f p g r) : pl (ev L xs (m + 1) d nS_when [.ref cS, .int a] g r) (kRv w f (rv w 15 p l false)) (kRx w f (rv w 15 p l false)) := by
  cases d with
  | zero => trivial
  | succ d =>
    rw [qS_when, rv_t15]
    refine pl_e (xR_place L xs) ?_
    refine pl_mk h (fun g1 r1 h1 _ => ?_)
    exact xS_when_t L xs (hL d (by omega)) ha hl (xS_when_l L xs (hL d (by omega)) ha hl _) _ 0 h1 (by decide) (by show (0 : Int) ≤ _; omega)
theorem xS_evaluate_t (L : Nat) (xs : Nat → Int32) {m d k : Nat} {w : Ws} {f : Gh} (hL : ∀ e, e < d → SL L xs m e w f) {l : Nat} {a : Int32} (ha : a.toInt = l) (hl : l ≤ 40) (H : ∀ (x2 x3 : Int32) (p : Nat) (g : a2_G) (r : a2_A), Ru w f p g r → 0 ≤ x3.toInt → x3.toInt ≤ p → pl (lp L xs nS_evaluate nm_m113 (m + 1) d k 38 [some (.ref cS), some (.int a), some (.int x2), some (.int x3)] g r) (kRv w f (bd (rv w 14 p l false) fun q _ => ok (sk (ww w q 75) q))) (kRx w f (bd (rv w 14 p l false) fun q _ => ok (sk (ww w q 75) q)))) (x2 x3 : Int32) {p : Nat} {g : a2_G} {r : a2_A} (h : Ru w f p g r) (h0 : 0 ≤ x3.toInt) (hx : x3.toInt ≤ p) : pl (BS_evaluate_38 L xs (m + 1) d k a x2 x3 g r) (kRv w f (bd (rv w 14 p l false) fun q _ => ok (sk (ww w q 75) q))) (kRx w f (bd (rv w 14 p l false) fun q _ => ok (sk (ww w q 75) q))) := by
  have hle := h.le
  rw [rv_eq w 14]
  show pl _ (kRv w f (bd (if ww w p 59 then bd (rv w 15 p l false) (fun q _ => rv w 14 q l false) else ok p) fun q _ => ok (sk (ww w q 75) q))) (kRx w f (bd (if ww w p 59 then bd (rv w 15 p l false) (fun q _ => rv w 14 q l false) else ok p) fun q _ => ok (sk (ww w q 75) q)))
  rw [bd_ite, bd_as, bd_ok]
  have h77 : pl (BS_evaluate_77 L xs (m + 1) d k a x2 x3 g r) (kRv w f (ok (sk (ww w p 75) p))) (kRx w f (ok (sk (ww w p 75) p))) := by
    unfold BS_evaluate_77
    exact pl_se h (fun g7 r7 h7 => ⟨⟨_, rfl⟩, _, rfl, h7⟩)
  unfold BS_evaluate_38
  refine pl_if (fun hc => ?_) (fun hc => ?_)
  · rw [c2_ge] at hc
    have hc' : (1500 : Int) ≤ x3.toInt := hc
    rw [ww_out (by omega : ¬ p < w.2.2)]
    exact h77
  · have h15 : x3.toInt < 1500 := by
      rw [c2_ge] at hc
      have hc' : ¬ (1500 : Int) ≤ x3.toInt := hc
      omega
    have e5 := i32_inc (x := x3) (by omega)
    refine pl_t (xR_isReserved L xs 59 0 (j := 0) rfl (by decide) h.1) (fun e => pl_neg (by decide) ?_) (fun e => pl_pos (by decide) h77)
    refine pl_vR (K := fun q => bd (rv w 14 q l false) fun q _ => ok (sk (ww w q 75) q)) (xS_when L xs hL ha hl h) (fun v q g1 r1 e1 h1 => ?_)
    refine pl_ap h1 (fun g2 r2 h2 _ => ?_)
    have e6 := rv_15lt e1 e
    exact H _ _ q _ _ h2 (by omega) (by omega)
theorem xS_evaluate_l (L : Nat) (xs : Nat → Int32) {m d : Nat} {w : Ws} {f : Gh} (hL : ∀ e, e < d → SL L xs m e w f) {l : Nat} {a : Int32} (ha : a.toInt = l) (hl : l ≤ 40) : ∀ (k : Nat) (x2 x3 : Int32) (p : Nat) (g : a2_G) (r : a2_A), Ru w f p g r → 0 ≤ x3.toInt → x3.toInt ≤ p → pl (lp L xs nS_evaluate nm_m113 (m + 1) d k 38 [some (.ref cS), some (.int a), some (.int x2), some (.int x3)] g r) (kRv w f (bd (rv w 14 p l false) fun q _ => ok (sk (ww w q 75) q))) (kRx w f (bd (rv w 14 p l false) fun q _ => ok (sk (ww w q 75) q))) := by
  intro k
  induction k with
  | zero => exact fun _ _ _ _ _ _ _ _ => pl_l0
  | succ k ih =>
    intro x2 x3 p g r h h0 hx
    rw [lS_evaluate_38]
    exact xS_evaluate_t L xs hL ha hl ih x2 x3 h h0 hx
theorem xS_evaluate (L : Nat) (xs : Nat → Int32) {m d : Nat} {w : Ws} {f : Gh} (hL : ∀ e, e < d → SL L xs m e w f) : SG L xs m d w f nS_evaluate 140 := by
  intro l p a g r ha hl h hp
  cases d with
  | zero => trivial
  | succ d =>
    have hL' : ∀ e, e < d → SL L xs m e w f := fun e he => hL e (by omega)
    rw [qS_evaluate, rv_t140]
    refine pl_bg h hp (fun v g1 r1 h1 => ?_)
    refine pl_oi h1 (fun _ g2 r2 h2 => ?_)
    refine pl_t (xR_isReserved L xs 59 0 (j := 0) rfl (by decide) h2.1) (fun e => pl_pos (by decide) ?_) (fun e => pl_neg (by decide) (pl_rf h2))
    exact xS_evaluate_t L xs hL' ha hl (xS_evaluate_l L xs hL' ha hl _) _ 0 h2 (by decide) (by show (0 : Int) ≤ _; omega)
theorem xS_times (L : Nat) (xs : Nat → Int32) {m d : Nat} {w : Ws} {f : Gh} {p : Nat} {g : a2_G} {r : a2_A} (a : Int32) (h : Ru w f p g r) (e : wo w p = true) : pl (ev L xs (m + 1) d nS_times [.ref cS, .int a] g r) (kRn w f (if ww w (p + 1) 23 then ok (p + 2) else no (p + 1))) (kRx w f (if ww w (p + 1) 23 then ok (p + 2) else no (p + 1))) := by
  cases d with
  | zero => trivial
  | succ d =>
    rw [qS_times]
    refine pl_ph h (fun v g1 r1 h1 => ?_)
    refine pl_n (xL_operandIn v h1) (fun x g' r' q => by rw [e] at q; cases q.2.1) (fun g2 r2 q => ?_)
    exact pl_rq q.2.2 (fun _ g3 h3 _ => ⟨rfl, _, rfl, h3⟩)
/-- from BY to the second operand of VARYING -/
theorem xS_varying (L : Nat) (xs : Nat → Int32) {m d : Nat} {w : Ws} {f : Gh} {p : Nat} {g : a2_G} {r : a2_A} (a : Int32) (h : Ru w f p g r) (hp : p < w.2.2) : pl (ev L xs (m + 1) d nS_varying [.ref cS, .int a] g r) (kRv w f (if wk w (p + 1) 1 then (if ww w (p + 2) 58 then (if wo w (p + 3) then (if ww w (p + 4) 25 then (if wo w (p + 5) then ok (p + 6) else no (p + 5)) else no (p + 4)) else no (p + 3)) else no (p + 2)) else no (p + 1))) (kRx w f (if wk w (p + 1) 1 then (if ww w (p + 2) 58 then (if wo w (p + 3) then (if ww w (p + 4) 25 then (if wo w (p + 5) then ok (p + 6) else no (p + 5)) else no (p + 4)) else no (p + 3)) else no (p + 2)) else no (p + 1))) := by
  cases d with
  | zero => trivial
  | succ d =>
    rw [qS_varying]
    refine pl_ph h (fun v g1 r1 h1 => ?_)
    refine pl_adv h1 hp (fun g2 h2 _ => ?_)
    refine pl_ni h2 (fun _ g3 r3 h3 => ?_)
    refine pl_rq h3 (fun _ g4 h4 _ => ?_)
    refine pl_oi h4 (fun _ g5 r5 h5 => ?_)
    refine pl_rq h5 (fun _ g6 h6 _ => ?_)
    exact pl_oi h6 (fun _ g7 r7 h7 => ⟨⟨_, rfl⟩, _, rfl, h7⟩)
