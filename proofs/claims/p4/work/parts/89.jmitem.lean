/-! The model's item clauses beside the reader. -/
/-- names are no less than 0 -/
def Wv (w : Ws) : Prop := ∀ i, i < w.2.2 → w.1 i = 1 → 0 ≤ (w.2.1 i).toInt ∧ (w.2.1 i).toInt ≤ 99
/-- good, wherever it stands -/
def Ge (w : Ws) (f : Gh) (g : a2_G) (r : a2_A) : Prop := Sx w f g r ∧ g fM_faults = f.1 ∧ g fM_bad = 0
section
variable {L : Nat} {xs : Nat → Int32} {m d k : Nat} {w : Ws} {f : Gh} {p b : Nat} {g g' : a2_G} {r r' : a2_A} {g0 : a2_G} {r0 : a2_A}
theorem Gd.ge (h : Gd w f p g r) : Ge w f g r := ⟨h.1, h.2.1, h.2.2.1⟩
theorem Ge.at (h : Ge w f g r) (x : Int32) : Ge w f (upd g fM_at x) r := ⟨h.1.up (by decide) (by decide), h.2.1, h.2.2⟩
theorem xM_failE (a1 : Int32) {a2 : Int32} (h : Ge w f g r) (hb : a2.toInt = b) (hn : b ≤ w.2.2) : pl (ev L xs (m + 1) d nM_fail [.ref cM, .int a1, .int a2] g r) (fun o g' r' => o = some (.int 0) ∧ Bd w f b g' r' ∧ Fe g r g' r') kN := by
  cases d with
  | zero => trivial
  | succ d =>
    rw [qM_fail]
    refine pl_neg (by rw [c2_ne, h.2.2]; decide) ?_
    refine pl_n (xM_note a1 a2 h.1 h.2.1) (fun _ _ _ e => e) (fun g' r' e => ?_)
    obtain ⟨-, rfl, e2, e3⟩ := e
    unfold BM_fail_13
    refine pl_pos (by rw [c2_eq]; exact h.2.2) ?_
    exact ⟨rfl, ⟨(e2.up (by decide) (by decide)).up (by decide) (by decide), rfl, rfl, hb, hn⟩, (e3.up (by decide)).up (by decide)⟩
theorem pm_fe {a1 a2 : Int32} {k : Int32 → a2_G → a2_A → Option fn_Z} {Q : Option Value → a2_G → a2_A → Prop} {X : Nat → a2_G → a2_A → Prop} (h : Ge w f g r) (hb : a2.toInt = b) (hn : b ≤ w.2.2) (hk : ∀ g' r', Bd w f b g' r' → Fe g r g' r' → pl (k 0 g' r') Q X) : pl (fn_v (ev L xs (m + 1) d nM_fail [.ref cM, .int a1, .int a2] g r) k) Q X := pl_v (xM_failE a1 h hb hn) (fun _ _ _ e => e.elim) (fun v g' r' e => by
  obtain ⟨e1, e2, e3⟩ := e
  cases e1
  exact hk g' r' e2 e3)
theorem xM_literal (a : Int32) (h : Gd w f p g r) : pl (ev L xs (m + 1) d nM_literal [.ref cM, .int a] g r) (kSe w f g r (if wk w p 2 || wk w p 3 then ok (p + 1) else no p)) kN := by
  cases d with
  | zero => trivial
  | succ d =>
    rw [qM_literal]
    have h37 : (wk w p 2 || wk w p 3) = true → pl (BM_literal_37 L xs (m + 1) d m a g r) (kSe w f g r (if wk w p 2 || wk w p 3 then ok (p + 1) else no p)) kN := by
      intro e
      have ho : wo w p = true := by
        unfold wo
        rw [Bool.or_eq_true] at e
        rcases e with e | e <;> rw [e] <;> simp
      rw [if_pos e]
      unfold BM_literal_37 BM_literal_42
      refine pl_n (xM_operandOf a h) (fun _ _ _ e => e) (fun g2 r2 e2 => ?_)
      obtain ⟨-, h2, f2⟩ := e2
      rw [if_pos ho] at h2
      exact ⟨rfl, h2, f2⟩
    refine pl_u (xM_isKind L xs 2 h.1.mrd h.2.2.2.1) (fun e => pl_pos (by decide) (h37 (by rw [e]; rfl))) (fun e => pl_neg (by decide) ?_)
    refine pl_u (xM_isKind L xs 3 h.1.mrd h.2.2.2.1) (fun e2 => pl_pos (by decide) (h37 (by rw [e, e2]; rfl))) (fun e2 => pl_neg (by decide) ?_)
    rw [if_neg (show ¬ (wk w p 2 || wk w p 3) = true by rw [e, e2]; decide)]
    unfold BM_literal_42
    exact pm_fa h h.2.2.2.1 h.2.2.2.2 (fun g2 r2 h2 f2 => ⟨rfl, h2, f2⟩)
theorem oc_69 (hF : Fe g0 r0 g r) (l : Nat) (x1 x2 x3 x4 : Int32) (h : Gd w f p g r) : pl (BM_occurs_69 L xs (m + 1) d k x1 x2 x3 x4 g r) (kSe w f g0 r0 (rv w 27 p l false)) kN := by
  unfold BM_occurs_69 BM_occurs_93
  rw [rv_t27]
  refine pm_ms h (fun e g2 h2 f2 => pl_neg (by decide) ?_) (fun e g2 h2 f2 => pl_pos (by decide) ⟨rfl, h2, hF.trans f2⟩)
  refine pm_mb h2 (fun v g3 h3 f3 => ?_)
  refine pl_n (xM_names L xs l x3 17 h3) (fun _ _ _ e => e) (fun g4 r4 e4 => ?_)
  exact ⟨rfl, e4.2.1, ((hF.trans f2).trans f3).trans e4.2.2⟩
theorem oc_69b (hF : Fe g0 r0 g r) (x1 x2 x3 x4 : Int32) (h : Bd w f b g r) : pl (BM_occurs_69 L xs (m + 1) d k x1 x2 x3 x4 g r) (kSe w f g0 r0 (no b)) kN := by
  unfold BM_occurs_69 BM_occurs_93
  exact pl_e (xB_meets 10 h) (pl_pos (by decide) ⟨rfl, h, hF⟩)
theorem xM_occurs (l : Nat) (a1 a2 : Int32) (h : Gd w f p g r) : pl (ev L xs (m + 1) d nM_occurs [.ref cM, .int a1, .int a2] g r) (kSe w f g r (if wk w p 2 then rv w 26 (sk (ww w (p + 1) 23) (p + 1)) l false else no p)) kN := by
  cases d with
  | zero => trivial
  | succ d =>
    rw [qM_occurs]
    refine pm_mk h (fun e g1 r1 h1 f1 => pl_pos (by decide) ?_) (fun e g1 r1 h1 f1 => pl_neg (by decide) ⟨rfl, h1, f1⟩)
    refine pb_t xA_passed (fun v => ?_)
    refine pm_nm h1 (fun v2 g2 r2 hv h2 f2 => ?_)
    refine pm_na h2 (fun g3 r3 h3 f3 => ?_)
    refine pm_mb h3 (fun v4 g4 h4 f4 => ?_)
    have fA := ((f1.trans f2).trans f3).trans f4
    rw [rv_t26]
    refine pm_ms h4 (fun e5 g5 h5 f5 => pl_neg (by decide) ?_) (fun e5 g5 h5 f5 => pl_pos (by decide) (oc_69 (fA.trans f5) l _ _ _ _ h5))
    refine pm_mk h5 (fun e6 g6 r6 h6 f6 => pl_neg (by decide) ?_) (fun e6 g6 r6 h6 f6 => pl_pos (by decide) (oc_69b ((fA.trans f5).trans f6) _ _ _ _ h6))
    refine pb_t xA_passed (fun v => ?_)
    refine pm_ch h6 (fun g7 r7 h7 f7 => ?_)
    exact oc_69 (((fA.trans f5).trans f6).trans f7) l _ _ _ _ h7
noncomputable def dq (w : Ws) (l : Nat) (x3 : Int32) (p q : Nat) : Option RR := if x3.toInt = 19 then (if wk w q 3 then ok (q + 1) else no q) else if x3.toInt = 20 then rv w 33 q l false else if x3.toInt = 22 then (if wk w q 2 then rv w 26 (sk (ww w (q + 1) 23) (q + 1)) l false else no q) else if x3.toInt = 26 then (if wk w q 1 then ok (q + 1) else no q) else if x3.toInt = 27 then rv w 34 q l false else no p
theorem d2_313 (hF : Fe g0 r0 g r) (x1 x3 x4 : Int32) {x2 : Int32} (hx2 : x2.toInt = p) (hpn : p ≤ w.2.2) (h : Ge w f g r) : pl (BM_described2_313 L xs (m + 1) d k x1 x2 x3 x4 g r) (kSe w f g0 r0 (no p)) kN := by
  unfold BM_described2_313 BM_described2_320
  exact pm_fe h hx2 hpn (fun g2 r2 h2 f2 => ⟨rfl, h2, hF.trans f2⟩)
theorem d2_282 (hF : Fe g0 r0 g r) {q : Nat} (x1 x2 x3 x4 : Int32) (h : Gd w f q g r) : (q < w.2.2 → pl (BM_described2_282 L xs (m + 1) d k x1 x2 x3 x4 1 g r) (kSe w f g0 r0 (ok (q + 1))) kN) ∧ pl (BM_described2_282 L xs (m + 1) d k x1 x2 x3 x4 0 g r) (kSe w f g0 r0 (no q)) kN := by
  unfold BM_described2_282 BM_described2_320_2
  refine ⟨fun hq => pl_neg (by decide) ⟨rfl, h.up hq, hF.up (by decide)⟩, pl_pos (by decide) ?_⟩
  exact pm_fa h h.2.2.2.1 h.2.2.2.2 (fun g2 r2 h2 f2 => ⟨rfl, h2, hF.trans f2⟩)
theorem d2_73 (hF : Fe g0 r0 g r) (l : Nat) {q : Nat} (x1 x4 : Int32) {x2 x3 : Int32} (hx2 : x2.toInt = p) (hpn : p ≤ w.2.2) (h : Gd w f q g r) : pl (BM_described2_73 L xs (m + 1) d k x1 x2 x3 x4 g r) (kSe w f g0 r0 (dq w l x3 p q)) kN := by
  have hg := h.ge
  unfold BM_described2_73 dq BM_described2_320 BM_described2_320_1
  refine pl_if (fun e => ?_) (fun n19 => ?_)
  · rw [if_pos e]
    refine pm_mk h (fun e2 g2 r2 h2 f2 => pl_neg (by decide) ?_) (fun e2 g2 r2 h2 f2 => pl_pos (by decide) ⟨rfl, h2, hF.trans f2⟩)
    refine pb_t xA_passed (fun v => ?_)
    exact pm_ch h2 (fun g3 r3 h3 f3 => ⟨rfl, h3, (hF.trans f2).trans f3⟩)
  rw [if_neg n19]
  refine pl_if (fun e => ?_) (fun n20 => ?_)
  · rw [if_pos e, rv_t33]
    refine pm_nm h (fun v g2 r2 hv h2 f2 => ?_)
    refine pm_na h2 (fun g3 r3 h3 f3 => ?_)
    have fA := (hF.trans f2).trans f3
    refine pl_n (xM_literal v h3) (fun _ _ _ e => e) (fun g4 r4 e4 => ?_)
    obtain ⟨-, e5, f4⟩ := e4
    by_cases c : (wk w q 2 || wk w q 3) = true
    · rw [if_pos c] at e5 ⊢
      refine pm_ms e5 (fun e6 g6 h6 f6 => pl_neg (by decide) ?_) (fun e6 g6 h6 f6 => pl_pos (by decide) ⟨rfl, h6, (fA.trans f4).trans f6⟩)
      refine pl_n (xM_literal v h6) (fun _ _ _ e => e) (fun g7 r7 e7 => ?_)
      exact ⟨rfl, e7.2.1, ((fA.trans f4).trans f6).trans e7.2.2⟩
    · rw [if_neg c] at e5 ⊢
      exact pl_e (xB_meets 21 e5) (pl_pos (by decide) ⟨rfl, e5, fA.trans f4⟩)
  rw [if_neg n20]
  refine pl_if (fun e => ?_) (fun n21 => ?_)
  · rw [if_neg (by omega), if_neg (by omega), if_neg (by omega)]
    exact d2_313 hF _ _ _ hx2 hpn hg
  refine pl_if (fun e => ?_) (fun n22 => ?_)
  · rw [if_pos e]
    refine pl_n (xM_occurs l x1 x2 h) (fun _ _ _ e => e) (fun g2 r2 e2 => ⟨rfl, e2.2.1, hF.trans e2.2.2⟩)
  rw [if_neg n22]
  refine pl_if (fun e => ?_) (fun n23 => ?_)
  · rw [if_neg (by omega), if_neg (by omega)]
    exact d2_313 hF _ _ _ hx2 hpn hg
  refine pl_if (fun e => ?_) (fun n24 => ?_)
  · rw [if_neg (by omega), if_neg (by omega)]
    exact d2_313 hF _ _ _ hx2 hpn hg
  refine pl_if (fun e => ?_) (fun n25 => ?_)
  · rw [if_neg (by omega), if_neg (by omega)]
    exact d2_313 hF _ _ _ hx2 hpn hg
  refine pl_if (fun e => ?_) (fun n26 => ?_)
  · rw [if_pos e]
    refine pm_mk h (fun e2 g2 r2 h2 f2 => pl_neg (by decide) ?_) (fun e2 g2 r2 h2 f2 => pl_pos (by decide) ⟨rfl, h2, hF.trans f2⟩)
    refine pb_t xA_passed (fun v => ?_)
    exact pm_ch h2 (fun g3 r3 h3 f3 => ⟨rfl, h3, (hF.trans f2).trans f3⟩)
  rw [if_neg n26]
  refine pl_if (fun e => ?_) (fun n27 => ?_)
  · rw [if_pos e, rv_t34]
    have h255 : q < w.2.2 → pl (BM_described2_255 L xs (m + 1) d k x1 x2 x3 x4 1 g r) (kSe w f g0 r0 (ok (q + 1))) kN := by
      intro hq
      unfold BM_described2_255
      refine pl_neg (by decide) (pl_if (fun _ => ?_) (fun _ => trivial))
      exact pm_ch h (fun g3 r3 h3 f3 => (d2_282 (hF.trans f3) x1 x2 x3 x4 h3).1 hq)
    unfold BM_described2_250
    refine pl_u (xM_isWord L xs 28 h.1.mrd h.2.2.2.1) (fun e2 => pl_pos (by decide) ?_) (fun e2 => pl_neg (by decide) ?_)
    · rw [if_neg (show ¬ ww w q 29 = true by rw [ww_x e2 (by decide)]; decide), if_pos e2]
      exact h255 (ww_iff.mp e2).1
    · refine pl_u (xM_isWord L xs 29 h.1.mrd h.2.2.2.1) (fun e3 => pl_neg (by decide) ?_) (fun e3 => pl_pos (by decide) ?_)
      · rw [if_pos e3]
        exact h255 (ww_iff.mp e3).1
      · rw [if_neg (show ¬ ww w q 29 = true by rw [e3]; decide), if_neg (show ¬ ww w q 28 = true by rw [e2]; decide)]
        unfold BM_described2_255
        exact pl_pos (by decide) (d2_282 hF x1 x2 x3 x4 h).2
  rw [if_neg n27]
  exact d2_313 hF _ _ _ hx2 hpn hg
theorem wwv {v : Int32} (h : wk w p 0 = true) : ww w p v = decide (w.2.1 p = v) := by
  unfold ww
  rw [h, Bool.true_and]
theorem i32n {x y : Int32} (h : ¬ x = y) : ¬ x.toInt = y.toInt := fun e => h (i32e e)
theorem xM_described2 (l : Nat) (a : Int32) (h : Gd w f p g r) : pl (ev L xs (m + 1) d nM_described2 [.ref cM, .int a] g r) (kSe w f g r (rv w 25 p l false)) kN := by
  cases d with
  | zero => trivial
  | succ d =>
    rw [qM_described2]
    refine pl_u (xM_isKind L xs 0 h.1.mrd h.2.2.2.1) (fun e => pl_neg (by decide) ?_) (fun e => pl_pos (by decide) ?_)
    · refine pl_if (fun _ => ?_) (fun _ => trivial)
      rw [h.nat, h.1.mrd.2.1]
      have h1 := h.up (wk_iff.mp e).1
      have f1 : Fe g r (upd g fM_at (g fM_at + 1)) r := Fe.at _
      unfold BM_described2_30
      generalize upd g fM_at (g fM_at + 1) = g1 at h1 f1
      rw [rv_t25, wwv e, wwv e, wwv e, wwv e, wwv e]
      have h59 : ∀ A, dq w l (w.2.1 p) p (sk (ww w (p + 1) 67) (p + 1)) = A → pl (BM_described2_59 L xs (m + 1) d m a (g fM_at) (w.2.1 p) g1 r) (kSe w f g r A) kN := by
        intro A hA
        unfold BM_described2_59 BM_described2_72
        refine pm_mb h1 (fun v g2 h2 f2 => ?_)
        rw [← hA]
        exact pl_if (fun _ => d2_73 (f1.trans f2) l _ _ h.2.2.2.1 h.2.2.2.2 h2) (fun _ => d2_73 (f1.trans f2) l _ _ h.2.2.2.1 h.2.2.2.2 h2)
      have h72 : ∀ A, dq w l (w.2.1 p) p (p + 1) = A → pl (BM_described2_72 L xs (m + 1) d m a (g fM_at) (w.2.1 p) g1 r) (kSe w f g r A) kN := by
        intro A hA
        unfold BM_described2_72
        rw [← hA]
        exact d2_73 f1 l _ _ h.2.2.2.1 h.2.2.2.2 h1
      generalize w.2.1 p = x at h59 h72
      unfold dq at h59 h72
      refine pl_iq (fun c19 => h59 _ ?_) (fun c19 => ?_)
      · rw [decide_eq_true c19, if_pos rfl, if_pos (by rw [c19]; rfl)]
      rw [decide_eq_false c19, if_neg (show ¬ false = true by decide)]
      refine pl_iq (fun c20 => h59 _ ?_) (fun c20 => ?_)
      · rw [decide_eq_true c20, if_pos rfl, if_neg (show ¬ x.toInt = 19 from i32n c19), if_pos (by rw [c20]; rfl)]
      rw [decide_eq_false c20, if_neg (show ¬ false = true by decide)]
      refine pl_in (fun c27 => h72 _ ?_) (fun c27 => h59 _ ?_)
      · rw [if_neg (show ¬ x.toInt = 19 from i32n c19), if_neg (show ¬ x.toInt = 20 from i32n c20)]
        by_cases c22 : x = 22
        · rw [decide_eq_true c22, if_pos rfl, if_pos (by rw [c22]; rfl)]
        rw [decide_eq_false c22, if_neg (show ¬ false = true by decide), if_neg (show ¬ x.toInt = 22 from i32n c22)]
        by_cases c26 : x = 26
        · rw [decide_eq_true c26, if_pos rfl, if_pos (by rw [c26]; rfl)]
        rw [decide_eq_false c26, if_neg (show ¬ false = true by decide), if_neg (show ¬ x.toInt = 26 from i32n c26), decide_eq_false c27, if_neg (show ¬ false = true by decide), if_neg (show ¬ x.toInt = 27 from i32n c27)]
      · rw [Decidable.not_not] at c27
        rw [c27]
        rfl
    · rw [rv_t25, ww_k e, ww_k e, ww_k e, ww_k e, ww_k e]
      unfold BM_described2_30 BM_described2_72 BM_described2_73
      refine pl_neg (by decide) (pl_neg (by decide) (pl_pos (by decide) ?_))
      refine pl_neg (by decide) (pl_neg (by decide) (pl_neg (by decide) (pl_neg (by decide) (pl_neg (by decide) (pl_neg (by decide) (pl_neg (by decide) (pl_neg (by decide) (pl_neg (by decide) ?_))))))))
      exact d2_313 (Fe.at _) _ _ _ h.2.2.2.1 h.2.2.2.2 (h.ge.at _)
/-- the clauses of an item, up to its period -/
def ITL (L : Nat) (xs : Nat → Int32) (m d k : Nat) (w : Ws) (f : Gh) (l : Nat) (g0 : a2_G) (r0 : a2_A) (PQ : Option RR → Option Value → a2_G → a2_A → Prop) (x1 x2 x3 x4 x5 : Int32) : Prop := (∀ (q : Nat) (g : a2_G) (r : a2_A), Gd w f q g r → Fe g0 r0 g r → pl (lp L xs nM_item nm_m162 (m + 1) d k 178 [some (.ref cM), some (.int x1), some (.int x2), some (.int x3), some (.int x4), some (.int x5), some (.int 1)] g r) (PQ (rv w 24 q l false)) kN) ∧
  (∀ (b : Nat) (g : a2_G) (r : a2_A), Bd w f b g r → pl (lp L xs nM_item nm_m162 (m + 1) d k 178 [some (.ref cM), some (.int x1), some (.int x2), some (.int x3), some (.int x4), some (.int x5), some (.int 1)] g r) (PQ (no b)) kN) ∧
  (∀ (q : Nat) (g : a2_G) (r : a2_A), Gd w f q g r → wk w q 4 = true → Fe g0 r0 g r → pl (lp L xs nM_item nm_m162 (m + 1) d k 178 [some (.ref cM), some (.int x1), some (.int x2), some (.int x3), some (.int x4), some (.int x5), some (.int 0)] g r) (PQ (ok (q + 1))) kN)
theorem it_1 {l : Nat} {PQ : Option RR → Option Value → a2_G → a2_A → Prop} {x1 x2 x3 x4 x5 : Int32} (H : ITL L xs m d k w f l g0 r0 PQ x1 x2 x3 x4 x5) {q : Nat} (h : Gd w f q g r) (hF : Fe g0 r0 g r) : pl (BM_item_178 L xs (m + 1) d k x1 x2 x3 x4 x5 1 g r) (PQ (rv w 24 q l false)) kN := by
  unfold BM_item_178 BM_item_207
  refine pl_neg (by decide) (pl_neg (by rw [c2_ne, h.2.2.1]; decide) ?_)
  rw [rv_t24]
  refine pm_t (xM_isKind L xs 4 h.1.mrd h.2.2.2.1) (fun e => pl_pos (by decide) (pl_pos (by decide) (H.2.2 q g r h e hF))) (fun e => pl_neg (by decide) (pl_neg (by decide) ?_))
  refine pm_nS (xM_described2 l x5 h) (fun q2 s2 g2 r2 _ h2 f2 => ?_) (fun b g2 r2 _ h2 f2 => ?_)
  · exact H.1 q2 g2 r2 h2 (hF.trans f2)
  · exact H.2.1 b g2 r2 h2
theorem it_l {l : Nat} {PQ : Option RR → Option Value → a2_G → a2_A → Prop} {x1 x2 x3 x4 x5 : Int32} (hfin : ∀ (k q : Nat) (x6 : Int32) (g : a2_G) (r : a2_A), Gd w f q g r → wk w q 4 = true → Fe g0 r0 g r → pl (BM_item_223 L xs (m + 1) d k x1 x2 x3 x4 x5 x6 g r) (PQ (ok (q + 1))) kN) (hbad : ∀ (k b : Nat) (x6 : Int32) (g : a2_G) (r : a2_A), Bd w f b g r → pl (BM_item_223 L xs (m + 1) d k x1 x2 x3 x4 x5 x6 g r) (PQ (no b)) kN) : ∀ k, ITL L xs m d k w f l g0 r0 PQ x1 x2 x3 x4 x5
  | 0 => ⟨fun _ _ _ _ _ => pl_l0, fun _ _ _ _ => pl_l0, fun _ _ _ _ _ _ => pl_l0⟩
  | k + 1 => ⟨fun q g r h hF => by
      rw [lM_item_178]
      exact it_1 (it_l hfin hbad k) h hF, fun b g r h => by
      rw [lM_item_178]
      unfold BM_item_178
      exact pl_neg (by decide) (pl_pos (by rw [c2_ne, h.2.2.1]; decide) (hbad k b 1 g r h)), fun q g r h e hF => by
      rw [lM_item_178]
      unfold BM_item_178
      exact pl_pos (by decide) (hfin k q 0 g r h e hF)⟩
end
