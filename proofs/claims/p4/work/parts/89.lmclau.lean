/-! The model's clauses. -/
section
variable {L : Nat} {xs : Nat → Int32} {m d k : Nat} {w : Ws} {f : Gh} {p : Nat} {g : a2_G} {r : a2_A} {c : CU} {kn : a2_G → a2_A → Option fn_Z} {kv : Int32 → a2_G → a2_A → Option fn_Z} {Q : Option Value → a2_G → a2_A → Prop} {X : Nat → a2_G → a2_A → Prop}
theorem pm_to {N : Nat} {a : Int32} (hN : (g fM_open).toInt = N) (hp : 0 < N) (hk : pl (kn g (a2_ua r fM_state ((r fM_state).1, upd (r fM_state).2 (N - 1) a))) Q X) : pl (fn_n (ev L xs (m + 1) d nM_to [.ref cM, .int a] g r) kn) Q X := by
  cases d with
  | zero => trivial
  | succ d =>
    have en : (g fM_open - 1).toNatClampNeg = N - 1 := by
      rw [nc_eq, i32_dec (by omega), hN]
      omega
    rw [qM_to, en]
    by_cases hc : am_inr (g fM_open - 1) (r fM_state).1 = true
    · rw [if_pos hc]
      exact hk
    · rw [if_neg hc]
      trivial
theorem pm_he (hk : ∀ v, pl (kv v g r) Q X) : pl (fn_v (ev L xs (m + 1) d nM_here [.ref cM] g r) kv) Q X := by
  cases d with
  | zero => trivial
  | succ d =>
    rw [qM_here]
    by_cases hc : am_inr (g fM_open - 1) (r fM_its).1 = true
    · rw [if_pos hc]
      exact hk _
    · rw [if_neg hc]
      trivial
/-- a heading -/
theorem dv_232 (hM : Mc c f.2.1 f.2.2) (x1 x2 x3 x4 x5 : Int32) {x6 : Int32} {q : Nat} {g' : a2_G} {r' : a2_A} (h : Gd w f q g r) (hT : 1 ≤ (oT c).toInt) (hT2 : (oT c).toInt ≤ 11) {c' : CU} {b : Bool} {i : Nat} (hc' : c' = (oN c, upd (oS c) (oN c - 1) x6, oK c, oM c, b, i, oL c)) (hi : 5 ≤ x6.toInt → i = 0) (h6 : 1 ≤ x6.toInt ∧ x6.toInt ≤ 7) (hL : ML r') (e1 : g' fM_n = g fM_n := by rfl) (e2 : g' fM_at = g fM_at := by rfl) (e3 : g' fM_faults = g fM_faults := by rfl) (e4 : g' fM_bad = g fM_bad := by rfl) (e5 : g' fM_nodes = g fM_nodes := by rfl) (e6 : r' fM_kinds = r fM_kinds := by rfl) (e7 : r' fM_values = r fM_values := by rfl) (o1 : g' fM_open = g fM_open := by rfl) (o2 : r' fM_state = r fM_state := by rfl) (o3 : r' fM_unit = r fM_unit := by rfl) (o4 : r' fM_function = r fM_function := by rfl) (o5 : r' fM_had = r fM_had := by rfl) (oi : g' fM_items = 0 := by rfl) (ol : g' fM_latest = 0 := by rfl) : pl (BM_division2_232 L xs (m + 1) d k x1 x2 x3 x4 x5 x6 g' r') (kZ w f (c', false) (ok q)) kN := by
  have hm := hM.gd h
  have hn := oT_n (by omega : 0 ≤ (oT c).toInt)
  unfold BM_division2_232
  refine pm_to (N := oN c) (by rw [o1]; exact hm.1) hn ?_
  refine kZ.k0 h (hL.ua (by rfl)) ?_ e1 e2 e3 e4 e5 e6 e7
  rw [hc']
  have h1 := MC.to (a := x6) (b := b) (i := i) (lw := oL c) (se' := g' fM_section) (it' := g' fM_items) (la' := g' fM_latest) (lv' := (r' fM_levels).2) hm hT hT2 h6.1 (by omega) (fun e => absurd e (by omega)) (fun e _ => by
    rw [hi e, oi, ol]
    exact ⟨rfl, ⟨fun e => absurd e (by decide), fun e => absurd e (by decide)⟩, fun j hj => absurd hj (by omega)⟩)
  show MC _ (g' fM_open) (upd (r' fM_state).2 (oN c - 1) x6) (r' fM_unit).2 (r' fM_function).2 (r' fM_had).2 (g' fM_section) (g' fM_items) (g' fM_latest) (r' fM_levels).2
  rw [o1, o2, o3, o4, o5]
  exact h1
/-- which state a heading leads to -/
def dS (r : Int32) : Int32 := if r = 4 then 2 else if r = 12 then 3 else if r = 13 then 4 else if r = 14 then 6 else 7
theorem xM_division2 (hM : Mc c f.2.1 f.2.2) (a2 : Int32) {a1 : Int32} (h1 : a1 = 4 ∨ a1 = 12 ∨ a1 = 13 ∨ a1 = 14 ∨ a1 = 15) (h : Gd w f (p + 1) g r) (hT : 1 ≤ (oT c).toInt) (hT2 : (oT c).toInt ≤ 11) {c' : CU} {b : Bool} {i : Nat} (hc' : c' = (oN c, upd (oS c) (oN c - 1) (dS a1), oK c, oM c, b, i, oL c)) (hi : 5 ≤ (dS a1).toInt → i = 0) : pl (ev L xs (m + 1) d nM_division2 [.ref cM, .int a1, .int a2] g r) (kZ w f (c', false) (zH w p (if a1 = 4 ∨ a1 = 12 then 1 else 16))) kN := by
  cases d with
  | zero => trivial
  | succ d =>
    have h123 : ∀ (x2 x3 x4 x5 x6 : Int32) (q : Nat) (g2 : a2_G) (r2 : a2_A), Gd w f q g2 r2 → pl (BM_division2_123 L xs (m + 1) d m a1 x2 x3 x4 x5 x6 g2 r2) (kZ w f (c', false) (ok q)) kN := by
      intro x2 x3 x4 x5 x6 q g2 r2 h2
      unfold BM_division2_123
      refine pm_na h2 (fun g3 r3 h3 f3 => ?_)
      have hL := h3.1.2.1
      unfold BM_division2_142 BM_division2_157 BM_division2_169 BM_division2_179
      rcases h1 with rfl | rfl | rfl | rfl | rfl
      · refine pl_neg (by decide) (pl_if (fun _ => pl_pos (by decide) (pl_pos (by decide) ?_)) (fun _ => trivial))
        exact pl_if (fun _ => pl_neg (by decide) (dv_232 hM _ _ _ _ _ h3 hT hT2 hc' hi (by decide) (hL.ua (by rfl)))) (fun _ => pl_neg (by decide) (dv_232 hM _ _ _ _ _ h3 hT hT2 hc' hi (by decide) (hL.ua (by rfl))))
      · refine pl_pos (by decide) (pl_neg (by decide) (pl_if (fun _ => pl_pos (by decide) ?_) (fun _ => trivial)))
        exact pl_if (fun _ => pl_pos (by decide) (pl_neg (by decide) (dv_232 hM _ _ _ _ _ h3 hT hT2 hc' hi (by decide) (hL.ua (by rfl))))) (fun _ => pl_pos (by decide) (pl_neg (by decide) (dv_232 hM _ _ _ _ _ h3 hT hT2 hc' hi (by decide) (hL.ua (by rfl)))))
      · refine pl_pos (by decide) (pl_pos (by decide) (pl_neg (by decide) ?_))
        exact pl_if (fun _ => pl_pos (by decide) (pl_pos (by decide) (pl_neg (by decide) (dv_232 hM _ _ _ _ _ h3 hT hT2 hc' hi (by decide) hL)))) (fun _ => pl_pos (by decide) (pl_pos (by decide) (pl_neg (by decide) (dv_232 hM _ _ _ _ _ h3 hT hT2 hc' hi (by decide) hL))))
      · refine pl_pos (by decide) (pl_pos (by decide) (pl_pos (by decide) ?_))
        exact pl_if (fun _ => pl_pos (by decide) (pl_pos (by decide) (pl_pos (by decide) (pl_neg (by decide) (dv_232 hM _ _ _ _ _ h3 hT hT2 hc' hi (by decide) hL))))) (fun _ => pl_pos (by decide) (pl_pos (by decide) (pl_pos (by decide) (pl_neg (by decide) (dv_232 hM _ _ _ _ _ h3 hT hT2 hc' hi (by decide) hL)))))
      · refine pl_pos (by decide) (pl_pos (by decide) (pl_pos (by decide) ?_))
        exact pl_if (fun _ => pl_pos (by decide) (pl_pos (by decide) (pl_pos (by decide) (pl_pos (by decide) (dv_232 hM _ _ _ _ _ h3 hT hT2 hc' hi (by decide) hL))))) (fun _ => pl_pos (by decide) (pl_pos (by decide) (pl_pos (by decide) (pl_pos (by decide) (dv_232 hM _ _ _ _ _ h3 hT hT2 hc' hi (by decide) hL)))))
    have h88 : ∀ (x2 x3 x4 : Int32) (q : Nat) (g2 : a2_G) (r2 : a2_A), Gd w f q g2 r2 → pl (BM_division2_88 L xs (m + 1) d m a1 x2 x3 x4 g2 r2) (kZ w f (c', false) (ok q)) kN := by
      intro x2 x3 x4 q g2 r2 h2
      unfold BM_division2_88
      refine pm_nm h2 (fun v g3 r3 hv h3 f3 => ?_)
      refine pm_he (fun v4 => ?_)
      exact pl_if (fun _ => pl_if (fun _ => h123 _ _ _ _ _ _ _ _ h3) (fun _ => trivial)) (fun _ => pl_if (fun _ => h123 _ _ _ _ _ _ _ _ h3) (fun _ => trivial))
    have h28 : ∀ (x3 x4 : Int32), pl (BM_division2_28 L xs (m + 1) d m a1 a2 x3 x4 g r) (kZ w f (c', false) (zH w p x4)) kN := by
      intro x3 x4
      unfold BM_division2_28 BM_division2_42 zH
      refine pm_mu h (fun e g2 r2 h2 f2 => pl_neg (by decide) ?_) (fun e g2 r2 h2 f2 => pl_pos (by decide) (kZ.n0 h2))
      refine pm_mk h2 (fun e g3 r3 h3 f3 => pl_pos (by decide) ?_) (fun e g3 r3 h3 f3 => pl_neg (by decide) (kZ.n0 h3))
      exact pl_if (fun _ => pl_if (fun _ => pl_if (fun _ => pl_if (fun _ => h88 _ _ _ _ _ _ h3) (fun _ => h88 _ _ _ _ _ _ h3)) (fun _ => h88 _ _ _ _ _ _ h3)) (fun _ => h88 _ _ _ _ _ _ h3)) (fun _ => h88 _ _ _ _ _ _ h3)
    rw [qM_division2]
    unfold BM_division2_11 BM_division2_16
    rcases h1 with rfl | rfl | rfl | rfl | rfl
    · exact pl_pos (by decide) (pl_neg (by decide) (h28 _ _))
    · exact pl_neg (by decide) (pl_neg (by decide) (pl_neg (by decide) (h28 _ _)))
    · exact pl_neg (by decide) (pl_pos (by decide) (pl_pos (by decide) (h28 _ _)))
    · exact pl_neg (by decide) (pl_pos (by decide) (pl_pos (by decide) (h28 _ _)))
    · exact pl_neg (by decide) (pl_pos (by decide) (pl_pos (by decide) (h28 _ _)))
/-- SELECT -/
theorem se_233 (hM : Mc c f.2.1 f.2.2) (x1 x2 x3 x4 : Int32) {q : Nat} (h : Gd w f q g r) : pl (BM_select_233 L xs (m + 1) d k x1 x2 x3 x4 g r) (kZ w f (c, false) (rv w 31 q 0 false)) kN := by
  unfold BM_select_233 BM_select_255
  rw [rv_t31]
  refine pm_mk h (fun e g2 r2 h2 f2 => pl_neg (by decide) ?_) (fun e g2 r2 h2 f2 => pl_pos (by decide) (kZ.n0 h2))
  refine pm_he (fun v => pl_if (fun _ => ?_) (fun _ => trivial))
  exact pm_na h2 (fun g3 r3 h3 f3 => kZ.k0 h3 h3.1.2.1 (hM.gd h3))
theorem se_190 (hM : Mc c f.2.1 f.2.2) (x1 x2 x3 x4 : Int32) {q : Nat} (h : Gd w f q g r) : pl (BM_select_190 L xs (m + 1) d k x1 x2 x3 x4 g r) (kZ w f (c, false) (rv w 30 q 0 false)) kN := by
  unfold BM_select_190
  rw [rv_t30]
  refine pm_ms h (fun e g2 h2 f2 => pl_neg (by decide) ?_) (fun e g2 h2 f2 => pl_pos (by decide) (se_233 hM _ _ _ _ h2))
  refine pm_mb h2 (fun v g3 h3 f3 => ?_)
  rw [rv_t37]
  refine pm_mk h3 (fun e4 g4 r4 h4 f4 => pl_neg (by decide) ?_) (fun e4 g4 r4 h4 f4 => pl_pos (by decide) ?_)
  · refine pb_t xA_passed (fun v5 => ?_)
    exact pm_ch h4 (fun g6 r6 h6 f6 => se_233 hM _ _ _ _ h6)
  · unfold BM_select_233 BM_select_255
    exact pb_mk h4 (fun g5 r5 h5 f5 => pl_pos (by decide) (kZ.n0 h5))
theorem se_190b (x1 x2 x3 x4 : Int32) {b : Nat} (h : Bd w f b g r) : pl (BM_select_190 L xs (m + 1) d k x1 x2 x3 x4 g r) (kZ w f (c, false) (no b)) kN := by
  unfold BM_select_190 BM_select_233 BM_select_255
  refine pl_e (xB_meets 11 h) (pl_pos (by decide) ?_)
  exact pb_mk h (fun g5 r5 h5 f5 => pl_pos (by decide) (kZ.n0 h5))
theorem se_162 (hM : Mc c f.2.1 f.2.2) (x1 x2 x3 x4 : Int32) {q : Nat} (h : Gd w f q g r) : (q < w.2.2 → pl (BM_select_162 L xs (m + 1) d k x1 x2 x3 x4 1 g r) (kZ w f (c, false) (rv w 30 (q + 1) 0 false)) kN) ∧ pl (BM_select_162 L xs (m + 1) d k x1 x2 x3 x4 0 g r) (kZ w f (c, false) (no q)) kN := by
  unfold BM_select_162
  refine ⟨fun hq => pl_neg (by decide) ?_, pl_pos (by decide) ?_⟩
  · exact se_190 (k := k) hM x1 x2 x3 x4 (h.up hq)
  · exact pm_fa h h.2.2.2.1 h.2.2.2.2 (fun g2 r2 h2 f2 => se_190b (k := k) x1 x2 x3 x4 h2)
theorem se_72 (hM : Mc c f.2.1 f.2.2) (x1 x2 x3 : Int32) {q : Nat} (h : Gd w f q g r) (ho : (wk w q 1 || wk w q 3) = true) : pl (BM_select_72 L xs (m + 1) d k x1 x2 x3 g r) (kZ w f (c, false) (rv w 29 (q + 1) 0 false)) kN := by
  have hw : wo w q = true := by
    unfold wo
    rw [Bool.or_eq_true] at ho
    rcases ho with e | e <;> rw [e] <;> simp
  unfold BM_select_72
  refine pl_n (xM_operandOf x2 h) (fun _ _ _ e => e) (fun g2 r2 e2 => ?_)
  obtain ⟨-, h2, f2⟩ := e2
  rw [if_pos hw] at h2
  rw [rv_t29]
  refine pm_ms h2 (fun e g3 h3 f3 => pl_neg (by decide) ?_) (fun e g3 h3 f3 => pl_pos (by decide) (se_190 hM _ _ _ _ h3))
  refine pm_mb h3 (fun v g4 h4 f4 => ?_)
  generalize sk (ww w (q + 1 + 1) 67) (q + 1 + 1) = q4 at h4
  rw [rv_t36]
  have h0 : (wk w q4 0 && (decide (8 ≤ (w.2.1 q4).toInt) && decide ((w.2.1 q4).toInt ≤ 10))) = false → pl (BM_select_134 L xs (m + 1) d k x1 x2 v (g2 fM_at) g4 r2) (kZ w f (c, false) (if wk w q4 0 && (decide (8 ≤ (w.2.1 q4).toInt) && decide ((w.2.1 q4).toInt ≤ 10)) then rv w 30 (q4 + 1) 0 false else no q4)) kN := by
    intro e
    rw [if_neg (by rw [e]; decide)]
    unfold BM_select_134 BM_select_135
    exact pl_pos (by decide) (se_162 hM _ _ _ _ h4).2
  refine pl_u (xM_isKind L xs 0 h4.1.mrd h4.2.2.2.1) (fun e => pl_neg (by decide) ?_) (fun e => pl_pos (by decide) (h0 (by rw [e]; rfl)))
  refine pl_if (fun _ => ?_) (fun _ => trivial)
  rw [h4.nat, h4.1.mrd.2.1]
  refine pl_u xM_in (fun e2 => pl_neg (by decide) ?_) (fun e2 => pl_pos (by decide) (h0 ?_))
  · have e3 : (decide (8 ≤ (w.2.1 q4).toInt) && decide ((w.2.1 q4).toInt ≤ 10)) = true := e2
    rw [if_pos (by rw [e, e3]; rfl)]
    unfold BM_select_135
    refine pl_neg (by decide) (pl_if (fun _ => ?_) (fun _ => trivial))
    exact pm_ch h4 (fun g5 r5 h5 f5 => (se_162 hM _ _ _ _ h5).1 (wk_iff.mp e).1)
  · have e3 : (decide (8 ≤ (w.2.1 q4).toInt) && decide ((w.2.1 q4).toInt ≤ 10)) = false := e2
    rw [e3, Bool.and_false]
theorem xM_select (hM : Mc c f.2.1 f.2.2) (a : Int32) (h : Gd w f (p + 1) g r) : pl (ev L xs (m + 1) d nM_select [.ref cM, .int a] g r) (kZ w f (c, false) (rv w 28 p 0 false)) kN := by
  cases d with
  | zero => trivial
  | succ d =>
    rw [qM_select, rv_t28]
    refine pm_mk h (fun e g1 r1 h1 f1 => pl_pos (by decide) ?_) (fun e g1 r1 h1 f1 => pl_neg (by decide) (kZ.n0 h1))
    refine pb_t xA_passed (fun v => ?_)
    refine pm_nm h1 (fun v2 g2 r2 hv h2 f2 => ?_)
    refine pm_mu h2 (fun e3 g3 r3 h3 f3 => pl_pos (by decide) ?_) (fun e3 g3 r3 h3 f3 => pl_neg (by decide) (kZ.n0 h3))
    refine pm_mb h3 (fun v4 g4 h4 f4 => ?_)
    rw [rv_t35]
    refine pl_u (xM_isKind L xs 1 h4.1.mrd h4.2.2.2.1) (fun e => pl_pos (by decide) ?_) (fun e => pl_neg (by decide) ?_)
    · have e1 : (wk w (sk (ww w (p + 3) 48) (p + 3)) 1 || wk w (sk (ww w (p + 3) 48) (p + 3)) 3) = true := by rw [show wk w (sk (ww w (p + 3) 48) (p + 3)) 1 = true from e]; rfl
      rw [if_pos e1]
      exact se_72 hM _ _ _ h4 e1
    · refine pl_u (xM_isKind L xs 3 h4.1.mrd h4.2.2.2.1) (fun e2 => pl_pos (by decide) ?_) (fun e2 => pl_neg (by decide) ?_)
      · have e1 : (wk w (sk (ww w (p + 3) 48) (p + 3)) 1 || wk w (sk (ww w (p + 3) 48) (p + 3)) 3) = true := by rw [show wk w (sk (ww w (p + 3) 48) (p + 3)) 1 = false from e, show wk w (sk (ww w (p + 3) 48) (p + 3)) 3 = true from e2]; rfl
        rw [if_pos e1]
        exact se_72 hM _ _ _ h4 e1
      · rw [if_neg (show ¬ (wk w (sk (ww w (p + 3) 48) (p + 3)) 1 || wk w (sk (ww w (p + 3) 48) (p + 3)) 3) = true by rw [show wk w (sk (ww w (p + 3) 48) (p + 3)) 1 = false from e, show wk w (sk (ww w (p + 3) 48) (p + 3)) 3 = false from e2]; decide)]
        exact pm_fa h4 h4.2.2.2.1 h4.2.2.2.2 (fun g2 r2 h2 f2 => kZ.n0 h2)
/-- FD -/
theorem xM_described (hM : Mc c f.2.1 f.2.2) (a : Int32) (h : Gd w f (p + 1) g r) (hT : 4 ≤ (oT c).toInt) (hT2 : (oT c).toInt ≤ 5) : pl (ev L xs (m + 1) d nM_described [.ref cM, .int a] g r) (kZ w f (sZ (sS c 5), false) (if wk w (p + 1) 1 then (if wk w (p + 2) 4 then ok (p + 3) else no (p + 2)) else no (p + 1))) kN := by
  cases d with
  | zero => trivial
  | succ d =>
    have hn := oT_n (by omega : 0 ≤ (oT c).toInt)
    rw [qM_described]
    refine pm_mk h (fun e g1 r1 h1 f1 => pl_pos (by decide) ?_) (fun e g1 r1 h1 f1 => pl_neg (by decide) (kZ.n0 h1))
    refine pb_t xA_passed (fun v => ?_)
    refine pm_nm h1 (fun v2 g2 r2 hv h2 f2 => ?_)
    refine pm_mk h2 (fun e3 g3 r3 h3 f3 => pl_pos (by decide) ?_) (fun e3 g3 r3 h3 f3 => pl_neg (by decide) (kZ.n0 h3))
    refine pm_na h3 (fun g4 r4 h4 f4 => ?_)
    have hm := hM.gd h4
    refine pm_to (N := oN c) hm.1 hn ?_
    refine kZ.k0 h4 (h4.1.2.1.ua (by rfl)) ?_
    rw [sS_pos hn]
    exact MC.to (a := 5) (b := oC c) (i := 0) (lw := oL c) (se' := g4 fM_section) (it' := 0) (la' := 0) (lv' := (r4 fM_levels).2) hm (by omega) (by omega) (by decide) (by decide) (fun e => absurd e (by decide)) (fun _ _ => ⟨rfl, ⟨fun e => absurd e (by decide), fun e => absurd e (by decide)⟩, fun j hj => absurd hj (by omega)⟩)
/-- PROCEDURE DIVISION -/
theorem be_34 (hM : Mc c f.2.1 f.2.2) (x1 x2 : Int32) {q : Nat} (h : Gd w f q g r) (hT : 1 ≤ (oT c).toInt) (hT2 : (oT c).toInt ≤ 7) : pl (BM_begun_34 L xs (m + 1) d k x1 x2 g r) (kZ w f (sS (sC c false) 8, false) (rv w 31 q 0 false)) kN := by
  have hn := oT_n (by omega : 0 ≤ (oT c).toInt)
  unfold BM_begun_34
  rw [rv_t31]
  refine pm_mk h (fun e g1 r1 h1 f1 => pl_pos (by decide) ?_) (fun e g1 r1 h1 f1 => pl_neg (by decide) (kZ.n0 h1))
  refine pm_he (fun v => pl_if (fun _ => ?_) (fun _ => trivial))
  refine pm_na h1 (fun g4 r4 h4 f4 => ?_)
  refine pm_he (fun v => pl_if (fun _ => ?_) (fun _ => trivial))
  have hm := hM.gd h4
  refine pm_to (N := oN c) hm.1 hn ?_
  refine kZ.k0 h4 ((h4.1.2.1.ua (by rfl)).ua (by rfl)) ?_
  rw [sS_pos (c := sC c false) hn]
  exact MC.to (a := 8) (b := false) (i := oI c) (lw := oL c) (se' := 0) (it' := g4 fM_items) (la' := g4 fM_latest) (lv' := (r4 fM_levels).2) hm (by omega) (by omega) (by decide) (by decide) (fun _ => ⟨fun e => absurd e (by decide), fun e => nomatch e⟩) (fun _ e => absurd e (by decide))
theorem be_34b (x1 x2 : Int32) {b : Nat} {C : CU × Bool} (h : Bd w f b g r) : pl (BM_begun_34 L xs (m + 1) d k x1 x2 g r) (kZ w f C (no b)) kN := by
  unfold BM_begun_34
  exact pb_mk h (fun g5 r5 h5 f5 => pl_neg (by decide) (kZ.n0 h5))
theorem xM_begun (hM : Mc c f.2.1 f.2.2) (a : Int32) (h : Gd w f (p + 1) g r) (hT : 1 ≤ (oT c).toInt) (hT2 : (oT c).toInt ≤ 7) : pl (ev L xs (m + 1) d nM_begun [.ref cM, .int a] g r) (kZ w f (sS (sC c false) 8, false) (rv w 32 p 0 false)) kN := by
  cases d with
  | zero => trivial
  | succ d =>
    rw [qM_begun, rv_t32]
    refine pm_mu h (fun e g1 r1 h1 f1 => pl_pos (by decide) ?_) (fun e g1 r1 h1 f1 => pl_neg (by decide) (kZ.n0 h1))
    refine pm_nm h1 (fun v2 g2 r2 hv h2 f2 => ?_)
    refine pm_ms h2 (fun e3 g3 h3 f3 => pl_neg (by decide) ?_) (fun e3 g3 h3 f3 => pl_pos (by decide) (be_34 hM _ _ h3 hT hT2))
    refine pm_nS (xM_names L xs 0 v2 21 h3) (fun q s g4 r4 _ h4 f4 => ?_) (fun b g4 r4 _ h4 f4 => ?_)
    · exact be_34 hM _ _ h4 hT hT2
    · exact be_34b _ _ h4
end
