/-! The model's statement. -/
theorem uM_d444 (L : Nat) (xs : Nat → Int32) {m d : Nat} (hd : 5 ≤ d) {x1 x2 x3 x4 : Int32} {b B q : Int} {s : Sg} {P : List Nat} {g0 g : a2_G} {r0 : a2_A} {p : Nat} (hb : g fM_bad = 0) (ha : Mi g x4) (hB : b + 8 ≤ B) (hB2 : b ≤ 1870) (hq : (g0 fM_at).toInt + q ≤ (g fM_at).toInt) : ∀ (n k : Nat) (g1 : a2_G) (r1 : a2_A), (g1 fM_n).toInt < (g1 fM_at).toInt + n → n < k → Sv b B s P g0 r0 g1 r1 → Lk 0 g g1 → wp (BM_statement_444 L xs (m + 1) d k x1 x2 x3 x4 g1 r1) (kPu q b B s P g0 r0 p) kN := by
  intro n
  have fin : ∀ k g1 r1, Sv b B s P g0 r0 g1 r1 → Lk 0 g g1 → wp (BM_statement_521 L xs (m + 1) d k x1 x2 x3 x4 g1 r1) (kPu q b B s P g0 r0 p) kN := by
    intro k g1 r1 h1 l1
    have w1 := l1.2.1
    exact h1.no (fun _ => by omega)
  induction n with
  | zero =>
    intro k g1 r1 hn hk h1 l1
    unfold BM_statement_444
    refine wp_bad h1.b01 (fun _ => fin _ _ _ h1 l1) (fun hb1 => ?_)
    have := h1.q hb1
    omega
  | succ n ih =>
    intro k g1 r1 hn hk h1 l1
    unfold BM_statement_444
    refine wp_bad h1.b01 (fun _ => fin _ _ _ h1 l1) (fun hb1 => ?_)
    have m1 := (h1.gd hb1).2
    refine wp_vB (tM_isOperand L xs (by omega) m1 m1.a0) ?_ (fun f => ?_)
    · exact wp_t (by decide) (fin _ _ _ h1 l1)
    · refine wp_f (by decide) ?_
      refine wp_nS (uM_operandOf L xs (by omega) h1 (l1.mi ha) (by omega) (by omega)) (fun g2 r2 h2 l2 => ?_)
      obtain ⟨k, rfl⟩ : ∃ e, k = e + 1 := ⟨k - 1, by omega⟩
      rw [lM_statement_444]
      have en := (h2.1.1.1 fM_n (by decide)).trans (h1.1.1.1 fM_n (by decide)).symm
      have l12 : Lk 0 g g2 := ⟨by have := l1.1; have := l2.1; omega, by have := l1.2.1; have := l2.2.1; omega, fun e => ⟨hb, by have := l1.2.1; have := l2.2.1; omega⟩⟩
      rcases h2.b01 with hb2 | hb2
      · have w2 := (l2.2.2 hb2).2
        exact ih k g2 r2 (by rw [en]; omega) (by omega) (h2.le (by omega)) l12
      · unfold BM_statement_444
        exact wp_bad (Or.inr hb2) (fun _ => fin _ _ _ (h2.le (by omega)) l12) (fun e => (bad_ne e hb2).elim)
theorem uM_st160 (L : Nat) (xs : Nat → Int32) {m d : Nat} (hm : 4294967296 ≤ m) (hd : 10 ≤ d) {x1 x2 x3 x4 : Int32} {b B q : Int} {s : Sg} {P : List Nat} {g0 g : a2_G} {r0 r : a2_A} {p : Nat} (h : Sv (b - 1) B s P g0 r0 g r) (hb : g fM_bad = 0) (ha : Mi g x1) (hB : b + 8 ≤ B) (hB1 : B ≤ 1900) (hB2 : b ≤ 1870) (hv0 : 0 ≤ (g0 fM_level).toInt) (hv : (g0 fM_level).toInt ≤ 40) (hq : (g0 fM_at).toInt + q ≤ (g fM_at).toInt) (hp : (g0 fM_piled).toInt = p) (h6 : p < 128) : wp (BM_statement_160 L xs (m + 1) d m x1 x2 x3 x4 g r) (kPu q b B s P g0 r0 p) kN := by
  unfold BM_statement_160
  have q0 := h.q hb
  refine uM_mk L xs (by omega) _ _ _ h hb ha (by omega) (fun t g1 r1 it t0 b1 e1 h1 l1 => ?_)
  have h1 : Sv b B s P g0 r0 g1 r1 := h1.le (by omega)
  have w1 := l1.2.1
  have t1 := it.1
  have t2 := it.2
  have q1 := h1.q b1
  have f521 : ∀ g2 r2, Sv b B s P g0 r0 g2 r2 → (g1 fM_at).toInt ≤ (g2 fM_at).toInt → wp (BM_statement_521 L xs (m + 1) d m x1 x2 x3 t g2 r2) (kPu q b B s P g0 r0 p) kN := fun g2 r2 h2 w2 => h2.no (fun _ => by omega)
  have f5211 : ∀ x5 g2 r2, Sv b B s P g0 r0 g2 r2 → (g1 fM_at).toInt ≤ (g2 fM_at).toInt → wp (BM_statement_521_1 L xs (m + 1) d m x1 x2 x3 t x5 g2 r2) (kPu q b B s P g0 r0 p) kN := fun x5 g2 r2 h2 w2 => h2.no (fun _ => by omega)
  have fpl : ∀ g2 r2, x3 ≠ 0 → Sv b B s P g0 r0 g2 r2 → Lk 0 g1 g2 → wp (fn_n (ev L xs (m + 1) d nM_pile [.ref cM, .int x3, .int t] g2 r2) fun g24 r25 => (BM_statement_521 L xs (m + 1) d m x1 x2 x3 t g24 r25)) (kPu q b B s P g0 r0 p) kN := fun g2 r2 hx h2 l2 => wp_nP (uM_pile L xs (by omega) h2 (fun _ => by have := l2.2.1; omega) hp h6 hx (l2.mi it))
  have nz : ∀ {n : Int}, x3.toInt = n → n ≠ 0 → x3 ≠ 0 := fun e hn e0 => by
    rw [e0, i32_0] at e
    exact hn e.symm
  have lr : Lk 0 g1 g1 := ⟨Int.le_refl _, Int.le_refl _, fun e => ⟨e, by omega⟩⟩
  have cp : ∀ {q2 g2}, Lk q2 g1 g2 → (q2 = 0 ∨ q2 = 1) → Lk 0 g1 g2 := fun l2 hq2 => ⟨l2.1, l2.2.1, fun e => ⟨b1, by have := l2.2.1; omega⟩⟩
  refine wp_if (fun _ => ?_) (fun _ => ?_)
  · refine wp_nS (uM_operandOf L xs (by omega) h1 it (by omega) (by omega)) (fun g2 r2 h2 l2 => ?_)
    have en := (h2.1.1.1 fM_n (by decide)).trans (h1.1.1.1 fM_n (by decide)).symm
    have w2 := l2.2.1
    exact uM_d444 L xs (by omega) b1 it hB hB2 (by omega) 1501 m g2 r2 (by rw [en]; omega) (by omega) (h2.le (by omega)) (cp l2 (Or.inr rfl))
  refine wp_if (fun _ => f521 _ _ h1 (Int.le_refl _)) (fun _ => ?_)
  refine wp_if (fun _ => f521 _ _ h1 (Int.le_refl _)) (fun _ => ?_)
  refine wp_if (fun _ => f521 _ _ h1 (Int.le_refl _)) (fun _ => ?_)
  refine wp_if (fun _ => f521 _ _ h1 (Int.le_refl _)) (fun _ => ?_)
  refine wp_if (fun _ => f521 _ _ h1 (Int.le_refl _)) (fun _ => ?_)
  refine wp_if (fun _ => f521 _ _ h1 (Int.le_refl _)) (fun _ => ?_)
  refine wp_if (fun _ => ?_) (fun _ => ?_)
  · refine wp_nS (uM_operandOf L xs (by omega) h1 it (by omega) (by omega)) (fun g2 r2 h2 l2 => ?_)
    have w2 := l2.2.1
    refine wp_vSv (uM_must L xs (by omega) _ h2 (by omega)) (fun g3 r3 b3 h3 l3 => ?_) (fun g3 r3 b3 h3 l3 => ?_)
    · refine wp_t (by decide) ?_
      have w3 := l3.2.1
      exact f521 _ _ (h3.le (by omega)) (by omega)
    · refine wp_f (by decide) ?_
      have w3 := l3.2.1
      refine wp_nS (uM_names L xs hm (by omega) _ h3 (l3.mi (l2.mi it)) (by omega) (by omega)) (fun g4 r4 h4 l4 => ?_)
      have w4 := l4.2.1
      exact f521 _ _ (h4.le (by omega)) (by omega)
  refine wp_if (fun _ => ?_) (fun _ => ?_)
  · exact wp_nP (uM_add L xs hm (by omega) h1 b1 it hB hB1 hB2 (by omega) hp h6)
  refine wp_if (fun e38 => ?_) (fun _ => ?_)
  · have x0 := nz e38 (by decide)
    refine wp_nS (uM_conditionOf L xs hm (by omega) h1 it (by omega) (by omega) hv0 hv) (fun g2 r2 h2 l2 => ?_)
    unfold BM_statement_335
    refine wp_bad h2.b01 (fun _ => fpl _ _ x0 h2 (cp l2 (Or.inr rfl))) (fun b2 => ?_)
    have m2 := (h2.gd b2).2
    refine wp_vB (tM_isWord L xs (by omega) _ m2 m2.a0) ?_ (fun f => ?_)
    · exact wp_t (by decide) (fpl _ _ x0 h2 (cp l2 (Or.inr rfl)))
    · refine wp_f (by decide) ?_
      obtain ⟨h3, l3, -⟩ := h2.ps b2 (Mw_lt f)
      exact fpl _ _ x0 (h3.le (by omega)) ⟨by have := l2.1; have := l3.1; omega, by have := l2.2.1; have := l3.2.1; omega, fun _ => ⟨b1, by have := l2.2.1; have := l3.2.1; omega⟩⟩
  refine wp_if (fun _ => ?_) (fun _ => ?_)
  · exact wp_nP (uM_perform L xs hm (by omega) h1 b1 it hB hB1 hB2 hv0 hv (by omega) hp h6)
  refine wp_if (fun e40 => ?_) (fun _ => ?_)
  · have x0 := nz e40 (by decide)
    refine wp_nS (uM_operandOf L xs (by omega) h1 it (by omega) (by omega)) (fun g2 r2 h2 l2 => ?_)
    unfold BM_statement_390
    refine wp_bad h2.b01 (fun _ => fpl _ _ x0 (h2.le (by omega)) (cp l2 (Or.inr rfl))) (fun b2 => ?_)
    have m2 := (h2.gd b2).2
    refine wp_vB (tM_isWord L xs (by omega) _ m2 m2.a0) ?_ (fun f => ?_)
    · refine wp_f (by decide) ?_
      refine wp_vF (uM_failH L xs (by omega) _ (b' := b) (P' := P) h2 (by omega)) (fun g3 r3 b3 h3 l3 => ?_)
      exact fpl _ _ x0 h3 ⟨by have := l2.1; have := l3.1; omega, by have := l2.2.1; have := l3.2.1; omega, fun e => (bad_ne e b3).elim⟩
    · exact wp_t (by decide) (fpl _ _ x0 (h2.le (by omega)) (cp l2 (Or.inr rfl)))
  refine wp_if (fun e41 => ?_) (fun _ => ?_)
  · have x0 := nz e41 (by decide)
    unfold BM_statement_419
    refine wp_vSv (uM_mustBe L xs (by omega) _ h1 (by omega)) (fun g3 r3 b3 h3 l3 => ?_) (fun g3 r3 b3 h3 l3 => ?_)
    · exact wp_t (by decide) (fpl _ _ x0 (h3.le (by omega)) (cp l3 (Or.inr rfl)))
    · refine wp_f (by decide) ?_
      have w3 := (l3.2.2 b3).2
      have n3 := l3.1
      refine wp_vP (uM_passed L xs (by omega) h3 b3 (by omega)) (fun v _ => ?_)
      have n8 := h3.n8 hB1 (by omega)
      refine wp_in (h3.ln.at 5) t1 (by omega) ?_
      exact fpl _ _ x0 ((h3.vl _ _).le (by omega)) (cp l3 (Or.inr rfl))
  refine wp_if (fun _ => ?_) (fun _ => ?_)
  · exact wp_nP (uM_call L xs hm (by omega) h1 b1 it hB hB2 (by omega) hp h6)
  refine wp_if (fun _ => ?_) (fun _ => ?_)
  · have f43 : ∀ v53 g2 r2, Sv b B s P g0 r0 g2 r2 → Lk 0 g1 g2 → wp (fn_v (ev L xs (m + 1) d nM_mustBe [.ref cM, .int 1] g2 r2) fun v56 g54 r55 => (if am_c2 .eq v56 0 = true then (BM_statement_521_1 L xs (m + 1) d m x1 x2 x3 t v53 g54 r55) else (fn_v (ev L xs (m + 1) d nM_passed [.ref cM] g54 r55) fun v59 g57 r58 => (if am_inr t (r58 fM_value).1 = true then (BM_statement_521_1 L xs (m + 1) d m x1 x2 x3 t v53 g57 (a2_ua r58 fM_value ((r58 fM_value).1, (upd (r58 fM_value).2 (t : Int32).toNatClampNeg v59)))) else none)))) (kPu q b B s P g0 r0 p) kN := by
      intro v53 g2 r2 h2 l2
      have w2 := l2.2.1
      have n2 := l2.1
      refine wp_vSv (uM_mustBe L xs (by omega) _ h2 (by omega)) (fun g3 r3 b3 h3 l3 => ?_) (fun g3 r3 b3 h3 l3 => ?_)
      · have w3 := l3.2.1
        exact wp_t (by decide) (f5211 _ _ _ (h3.le (by omega)) (by omega))
      · refine wp_f (by decide) ?_
        have w3 := (l3.2.2 b3).2
        have n3 := l3.1
        refine wp_vP (uM_passed L xs (by omega) h3 b3 (by omega)) (fun v _ => ?_)
        have n8 := h3.n8 hB1 (by omega)
        refine wp_in (h3.ln.at 5) t1 (by omega) ?_
        exact f5211 _ _ _ ((h3.vl _ _).le (by omega)) (by omega)
    refine wp_vSm (uM_meets L xs (by omega) _ h1) (f43 _ _ _ h1 lr) (fun g2 r2 b2 h2 l2 => f43 _ _ _ (h2.le (by omega)) (cp l2 (Or.inr rfl)))
  refine wp_if (fun _ => ?_) (fun _ => ?_)
  · refine wp_v (uM_must L xs (by omega) _ h1 (by omega)) (fun _ _ _ hx => hx.elim) ?_
    rintro o g4 r4 ⟨v, rfl, -, h4, l4⟩
    exact ⟨v, rfl, f5211 _ _ _ (h4.le (by omega)) l4.2.1⟩
  refine wp_if (fun _ => f521 _ _ h1 (Int.le_refl _)) (fun _ => ?_)
  refine wp_if (fun _ => f521 _ _ h1 (Int.le_refl _)) (fun _ => ?_)
  refine wp_if (fun _ => ?_) (fun _ => f521 _ _ h1 (Int.le_refl _))
  refine wp_nS (uM_compute L xs hm (by omega) h1 it hB hB1 hB2 hv0 hv (by omega)) (fun g2 r2 h2 l2 => ?_)
  exact f521 _ _ h2 l2.2.1
theorem uM_statement (L : Nat) (xs : Nat → Int32) {m d : Nat} (hm : 4294967296 ≤ m) (hd : 11 ≤ d) {a : Int32} {b B : Int} {s : Sg} {P : List Nat} {g : a2_G} {r : a2_A} {p : Nat} (h : Mst (b + 3) s P g r) (hb : g fM_bad = 0) (hlt : (g fM_at).toInt < (g fM_n).toInt) (ha : Mi g a) (hB : b + 8 ≤ B) (hB1 : B ≤ 1900) (hB2 : b ≤ 1870) (hv0 : 0 ≤ (g fM_level).toInt) (hv : (g fM_level).toInt ≤ 40) (hp : (g fM_piled).toInt = p) (h6 : p < 128) : wp (ev L xs (m + 1) d nM_statement [.ref cM, .int a] g r) (kPu 1 b B s P g r p) kN := by
  obtain ⟨d, rfl⟩ : ∃ e, d = e + 1 := ⟨d - 1, by omega⟩
  have w := h.W.2
  obtain ⟨h1, l1, e1⟩ := (Sv.rf (B := B) hb h).ps hb hlt
  have f : ∀ x2 x3 x4, wp (BM_statement_160 L xs (m + 1) d m a x2 x3 x4 (upd g fM_at (g fM_at + 1)) r) (kPu 1 b B s P g r p) kN := fun x2 x3 x4 => uM_st160 L xs hm (by omega) (h1.le (by omega)) hb ha hB hB1 hB2 hv0 hv (by show _ ≤ (g fM_at + 1).toInt; omega) hp h6
  rw [qM_statement]
  refine wp_in rfl h.a0 (by omega) ?_
  repeat' first
    | exact f _ _ _
    | refine wp_if (fun _ => ?_) (fun _ => ?_)
