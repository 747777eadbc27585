/-! The model's data descriptions, I. -/
theorem Lk.tr {p q p' : Int} {g1 g2 g3 : a2_G} (a : Lk p g1 g2) (b : Lk q g2 g3) (h : p' ≤ p + q) : Lk p' g1 g3 := ⟨Int.le_trans a.1 b.1, Int.le_trans a.2.1 b.2.1, fun e => by
  obtain ⟨b1, b2⟩ := b.2.2 e
  obtain ⟨a1, a2⟩ := a.2.2 b1
  exact ⟨a1, by omega⟩⟩
theorem Lk.rf {g : a2_G} : Lk 0 g g := ⟨Int.le_refl _, Int.le_refl _, fun e => ⟨e, by omega⟩⟩
theorem Lk.le {p p' : Int} {g1 g2 : a2_G} (a : Lk p g1 g2) (h : p' ≤ p) : Lk p' g1 g2 := ⟨a.1, a.2.1, fun e => ⟨(a.2.2 e).1, by have := (a.2.2 e).2; omega⟩⟩
theorem Sv.rt {b b' B p p' : Int} {s : Sg} {P : List Nat} {g0 g g1 : a2_G} {r0 r1 : a2_A} (h : Sv b B s P g0 r0 g1 r1) (l : Lk p g g1) (hb : b ≤ b') (hp : p' ≤ p) : kSn p' b' B s P g0 r0 g none g1 r1 := ⟨rfl, h.le hb, l.le hp⟩
theorem uM_literal (L : Nat) (xs : Nat → Int32) {m d : Nat} (hd : 5 ≤ d) {a : Int32} {b B : Int} {s : Sg} {P : List Nat} {g0 g : a2_G} {r0 r : a2_A} (h : Sv b B s P g0 r0 g r) (hb : g fM_bad = 0) (ha : Mi g a) (hB : b ≤ B) (hB2 : b ≤ 1880) : wp (ev L xs (m + 1) d nM_literal [.ref cM, .int a] g r) (kSn 1 (b - 3) B s P g0 r0 g) kN := by
  obtain ⟨d, rfl⟩ : ∃ e, d = e + 1 := ⟨d - 1, by omega⟩
  have m0 := (h.gd hb).2
  have f37 : wp (BM_literal_37 L xs (m + 1) d m a g r) (kSn 1 (b - 3) B s P g0 r0 g) kN := by
    unfold BM_literal_37 BM_literal_42
    refine wp_nS (uM_operandOf L xs (by omega) h ha hB (by omega)) (fun g1 r1 h1 l1 => ?_)
    exact h1.rt l1 (Int.le_refl _) (Int.le_refl _)
  rw [qM_literal]
  refine wp_vB (tM_isKind L xs (by omega) _ m0 m0.a0) ?_ (fun f => wp_t (by decide) f37)
  refine wp_f (by decide) ?_
  refine wp_vB (tM_isKind L xs (by omega) _ m0 m0.a0) ?_ (fun f => wp_t (by decide) f37)
  refine wp_f (by decide) ?_
  refine wp_vF (uM_failH L xs (by omega) _ (b' := b - 3) (P' := P) h (by omega)) (fun g3 r3 b3 h3 l3 => ?_)
  exact ⟨rfl, h3, l3.1, l3.2.1, fun e => (bad_ne e b3).elim⟩
theorem uM_occurs (L : Nat) (xs : Nat → Int32) {m d : Nat} (hm : 4294967296 ≤ m) (hd : 6 ≤ d) {a : Int32} (a2 : Int32) {b B : Int} {s : Sg} {P : List Nat} {g0 g : a2_G} {r0 r : a2_A} (h : Sv b B s P g0 r0 g r) (ha : Mi g a) (hB : b + 4 ≤ B) (hB2 : b ≤ 1880) (h0 : 0 ≤ (g fM_at).toInt) : wp (ev L xs (m + 1) d nM_occurs [.ref cM, .int a, .int a2] g r) (kSn 0 b B s P g0 r0 g) kN := by
  obtain ⟨d, rfl⟩ : ∃ e, d = e + 1 := ⟨d - 1, by omega⟩
  rw [qM_occurs]
  refine wp_vSv (uM_mustBe L xs (by omega) _ h (by omega)) (fun g1 r1 b1 h1 l1 => ?_) (fun g1 r1 b1 h1 l1 => ?_)
  · exact wp_f (by decide) (h1.rt l1 (by omega) (by omega))
  · refine wp_t (by decide) ?_
    have w1 := (l1.2.2 b1).2
    refine wp_vP (uM_passed L xs (by omega) h1 b1 (by omega)) (fun v _ => ?_)
    refine uM_mk L xs (by omega) _ _ _ h1 b1 (l1.mi ha) (by omega) (fun t g2 r2 it t0 b2 e2 h2 l2 => ?_)
    have l12 : Lk 1 g g2 := l1.tr l2 (by omega)
    have f69 : ∀ x4 g3 r3, Sv (b - 3) B s P g0 r0 g3 r3 → Lk 1 g g3 → Mi g3 t → wp (BM_occurs_69 L xs (m + 1) d m a a2 t x4 g3 r3) (kSn 0 b B s P g0 r0 g) kN := by
      intro x4 g3 r3 h3 l3 i3
      unfold BM_occurs_69 BM_occurs_93
      refine wp_vSm (uM_meets L xs (by omega) _ h3) ?_ (fun g4 r4 b4 h4 l4 => ?_)
      · exact wp_t (by decide) (h3.rt l3 (by omega) (by omega))
      · refine wp_f (by decide) ?_
        have fn : ∀ g5 r5, Sv (b - 7) B s P g0 r0 g5 r5 → Lk 1 g g5 → Mi g5 t → wp (fn_n (ev L xs (m + 1) d nM_names [.ref cM, .int t, .int 17] g5 r5) fun g24 r25 => some (.inl none, g24, r25)) (kSn 0 b B s P g0 r0 g) kN := by
          intro g5 r5 h5 l5 i5
          refine wp_nS (uM_names L xs hm (by omega) _ h5 i5 (by omega) (by omega)) (fun g6 r6 h6 l6 => ?_)
          exact h6.rt (l5.tr l6 (Int.le_refl _)) (by omega) (by omega)
        refine wp_vSm (uM_meets L xs (by omega) _ h4) (fn _ _ (h4.le (by omega)) (l3.tr l4 (by omega)) (l4.mi i3)) (fun g5 r5 b5 h5 l5 => fn _ _ (h5.le (by omega)) ((l3.tr l4 (Int.le_refl _)).tr l5 (by omega)) (l5.mi (l4.mi i3)))
    have f24 : ∀ v14 g3 r3, Sv (b - 3) B s P g0 r0 g3 r3 → Lk 1 g g3 → Mi g3 t → wp (fn_v (ev L xs (m + 1) d nM_meets [.ref cM, .int 24] g3 r3) fun v17 g15 r16 => (if am_c2 .eq v17 0 = true then (BM_occurs_69 L xs (m + 1) d m a a2 t v14 g15 r16) else (fn_v (ev L xs (m + 1) d nM_mustBe [.ref cM, .int 1] g15 r16) fun v28 g26 r27 => (if am_c2 .eq v28 0 = true then (BM_occurs_69 L xs (m + 1) d m a a2 t v14 g26 r27) else (fn_v (ev L xs (m + 1) d nM_passed [.ref cM] g26 r27) fun v31 g29 r30 => (fn_n (ev L xs (m + 1) d nM_child4 [.ref cM, .int t, .int 16, .int v31, .int ((g29 fM_at) - 1)] g29 r30) fun g32 r33 => (BM_occurs_69 L xs (m + 1) d m a a2 t v14 g32 r33))))))) (kSn 0 b B s P g0 r0 g) kN := by
      intro v14 g3 r3 h3 l3 i3
      refine wp_vSm (uM_meets L xs (by omega) _ h3) (wp_t (by decide) (f69 _ _ _ h3 l3 i3)) (fun g4 r4 b4 h4 l4 => ?_)
      refine wp_f (by decide) ?_
      have l34 := l3.tr l4 (Int.le_refl _)
      refine wp_vSv (uM_mustBe L xs (by omega) _ h4 (by omega)) (fun g5 r5 b5 h5 l5 => ?_) (fun g5 r5 b5 h5 l5 => ?_)
      · exact wp_t (by decide) (f69 _ _ _ (h5.le (by omega)) (l34.tr l5 (by omega)) (l5.mi (l4.mi i3)))
      · refine wp_f (by decide) ?_
        have w5 := ((l34.tr l5 (Int.le_refl _)).2.2 b5).2
        refine wp_vP (uM_passed L xs (by omega) h5 b5 (by omega)) (fun v _ => ?_)
        refine wp_nC (uM_child4 L xs (by omega) _ _ _ h5 b5 (l5.mi (l4.mi i3)) (by omega)) (fun g6 r6 b6 e6 h6 l6 => ?_)
        exact f69 _ _ _ (h6.le (by omega)) (((l34.tr l5 (Int.le_refl _)).tr l6 (Int.le_refl _)).le (by omega)) (l6.mi (l5.mi (l4.mi i3)))
    refine wp_vSm (uM_meets L xs (by omega) _ h2) (f24 _ _ _ (h2.le (by omega)) l12 it) (fun g4 r4 b4 h4 l4 => f24 _ _ _ (h4.le (by omega)) (l12.tr l4 (by omega)) (l4.mi it))
theorem upd_co {g : a2_G} {a b : Nat} {x y : Int32} (h : a ≠ b) : upd (upd g a x) b y = upd (upd g b y) a x := by
  funext j
  by_cases ha : j = a
  · subst ha
    rw [upd_ne h, upd_eq, upd_eq]
  · by_cases hb : j = b
    · subst hb
      rw [upd_eq, upd_ne ha, upd_eq]
    · rw [upd_ne hb, upd_ne ha, upd_ne ha, upd_ne hb]
theorem MfG_at {w x : Int32} {g : a2_G} (hb : g fM_bad = 0) : MfG w (upd g fM_at x) = upd (MfG w g) fM_at x := by
  have e1 : upd g fM_at x fM_bad = g fM_bad := rfl
  have e2 : upd g fM_at x fM_faults = g fM_faults := rfl
  unfold MfG
  rw [e1, e2, if_pos hb, if_pos hb]
  by_cases hf : g fM_faults = 20
  · rw [if_pos hf, if_pos hf, upd_co (a := fM_at) (b := fM_failed) (by decide), upd_co (a := fM_at) (b := fM_bad) (by decide)]
  · rw [if_neg hf, if_neg hf, upd_co (a := fM_at) (b := fM_faults) (by decide), upd_co (a := fM_at) (b := fM_failed) (by decide), upd_co (a := fM_at) (b := fM_bad) (by decide)]
/-- a word is passed, and then it is a fault -/
theorem tM_failA (L : Nat) (xs : Nat → Int32) {m d : Nat} (hd : 2 ≤ d) (n : Int32) {b : Int} {s : Sg} {P : List Nat} {g : a2_G} {r : a2_A} (h : Mst b s P g r) (hb : g fM_bad = 0) : wp (ev L xs (m + 1) d nM_fail [.ref cM, .int n, .int (g fM_at)] (upd g fM_at (g fM_at + 1)) r) (fun o g' r' => o = some (.int 0) ∧ pB b s P g r g' r') kN := by
  obtain ⟨d, rfl⟩ : ∃ e, d = e + 2 := ⟨d - 2, by omega⟩
  have h1 := h.here hb
  have F : MF (upd g fM_at (g fM_at + 1)) r := h.F
  rw [M_fail L xs m d F, MfG_at hb]
  obtain ⟨f1, f2, f3⟩ := h.fl n hb h1.1 h1.2.1 h1.2.2
  have ef : MfG (g fM_at) g fM_failed = g fM_at := by
    unfold MfG
    rw [if_pos hb]
    split <;> rfl
  have ea : MfG (g fM_at) g fM_at = g fM_at := by
    unfold MfG
    rw [if_pos hb]
    split <;> rfl
  have er : MfR n (g fM_at) (upd g fM_at (g fM_at + 1)) r = MfR n (g fM_at) g r := rfl
  obtain ⟨p1, p2, p3⟩ := f1.pb f3 (by rw [ef, ea]; omega)
  rw [ea] at p1 p3
  rw [er]
  exact ⟨rfl, f2.trans p3, f3, p1⟩
theorem uM_described2 (L : Nat) (xs : Nat → Int32) {m d : Nat} (hm : 4294967296 ≤ m) (hd : 7 ≤ d) {a : Int32} {b B : Int} {s : Sg} {P : List Nat} {g0 g : a2_G} {r0 r : a2_A} (h : Sv b B s P g0 r0 g r) (hb : g fM_bad = 0) (ha : Mi g a) (hB : b + 4 ≤ B) (hB2 : b ≤ 1880) : wp (ev L xs (m + 1) d nM_described2 [.ref cM, .int a] g r) (kSn 1 b B s P g0 r0 g) kN := by
  obtain ⟨d, rfl⟩ : ∃ e, d = e + 1 := ⟨d - 1, by omega⟩
  have m0 := (h.gd hb).2
  have q := h.q hb
  have w1 := m0.W.2
  have hs := (m0.here hb).1
  rw [qM_described2]
  refine wp_vB (tM_isKind L xs (by omega) _ m0 m0.a0) ?_ (fun f => ?_)
  · refine wp_t (by decide) ?_
    unfold BM_described2_30 BM_described2_72 BM_described2_73 BM_described2_313 BM_described2_320
    refine wp_f (by decide) ?_
    refine wp_f (by decide) ?_
    refine wp_t (by decide) ?_
    refine wp_f (by decide) ?_
    refine wp_f (by decide) ?_
    refine wp_f (by decide) ?_
    refine wp_f (by decide) ?_
    refine wp_f (by decide) ?_
    refine wp_f (by decide) ?_
    refine wp_f (by decide) ?_
    refine wp_f (by decide) ?_
    refine wp_f (by decide) ?_
    refine wp_v (tM_failA L xs (by omega) _ m0 hb) (fun _ _ _ hx => hx.elim) ?_
    rintro o g1 r1 ⟨rfl, e⟩
    exact ⟨0, rfl, rfl, h.pb e (by omega), Lk.pb e⟩
  · have flt := Mk_lt f
    refine wp_f (by decide) ?_
    refine wp_in rfl m0.a0 (by omega) ?_
    generalize (r fM_values).2 (g fM_at).toNatClampNeg = x3
    obtain ⟨h1, l1, e1⟩ := h.ps hb flt
    have f73 : ∀ x4 g2 r2, Sv (b - 4) B s P g0 r0 g2 r2 → g2 fM_bad = 0 → Lk 1 g g2 → (g2 fM_at).toInt ≤ (g fM_at).toInt + 2 → wp (BM_described2_73 L xs (m + 1) d m a (g fM_at) x3 x4 g2 r2) (kSn 1 b B s P g0 r0 g) kN := by
      intro x4 g2 r2 h2 b2 l2 t2
      have i2 := l2.mi ha
      have q2 := h2.q b2
      have w2 := (l2.2.2 b2).2
      have en2 := (h2.1.1.1 fM_n (by decide)).trans (h.1.1.1 fM_n (by decide)).symm
      have f313 : wp (BM_described2_313 L xs (m + 1) d m a (g fM_at) x3 x4 g2 r2) (kSn 1 b B s P g0 r0 g) kN := by
        unfold BM_described2_313 BM_described2_320
        refine wp_vF (uM_fail L xs (by omega) _ _ (b' := b) (P' := P) h2 (by omega) (fun _ => ⟨hs, by rw [en2]; omega, t2⟩)) (fun g3 r3 b3 h3 l3 => ?_)
        exact h3.rt (l2.tr l3 (Int.le_refl _)) (Int.le_refl _) (by omega)
      have fch : ∀ (k : Int32) (w : Int32), wp (fn_v (ev L xs (m + 1) d nM_mustBe [.ref cM, .int w] g2 r2) fun v9 g7 r8 => (if am_c2 .eq v9 0 = true then (BM_described2_320 L xs (m + 1) d m a (g fM_at) x3 x4 g7 r8) else (fn_v (ev L xs (m + 1) d nM_passed [.ref cM] g7 r8) fun v12 g10 r11 => (fn_n (ev L xs (m + 1) d nM_child4 [.ref cM, .int a, .int k, .int v12, .int (g fM_at)] g10 r11) fun g13 r14 => (BM_described2_320 L xs (m + 1) d m a (g fM_at) x3 x4 g13 r14))))) (kSn 1 b B s P g0 r0 g) kN := by
        intro k w
        refine wp_vSv (uM_mustBe L xs (by omega) _ h2 (by omega)) (fun g3 r3 b3 h3 l3 => ?_) (fun g3 r3 b3 h3 l3 => ?_)
        · exact wp_t (by decide) (h3.rt (l2.tr l3 (Int.le_refl _)) (by omega) (by omega))
        · refine wp_f (by decide) ?_
          have w3 := (l3.2.2 b3).2
          refine wp_vP (uM_passed L xs (by omega) h3 b3 (by omega)) (fun v _ => ?_)
          refine wp_nC (uM_child4 L xs (by omega) _ _ _ h3 b3 (l3.mi i2) (by omega)) (fun g4 r4 b4 e4 h4 l4 => ?_)
          exact h4.rt ((l2.tr l3 (Int.le_refl _)).tr l4 (Int.le_refl _)) (by omega) (by omega)
      have m2 := (h2.gd b2).2
      have wv2 := m2.W.2
      have f250 : (g2 fM_at).toInt < (g2 fM_n).toInt → wp (BM_described2_250 L xs (m + 1) d m a (g fM_at) x3 x4 g2 r2) (kSn 1 b B s P g0 r0 g) kN := by
        intro f
        unfold BM_described2_250 BM_described2_255
        refine wp_f (by decide) ?_
        refine wp_in rfl m2.a0 (by omega) ?_
        refine wp_nC (uM_child4 L xs (by omega) _ _ _ h2 b2 i2 (by omega)) (fun g4 r4 b4 e4 h4 l4 => ?_)
        unfold BM_described2_282 BM_described2_320_2
        refine wp_f (by decide) ?_
        have en4 := (h4.1.1.1 fM_n (by decide)).trans (h2.1.1.1 fM_n (by decide)).symm
        obtain ⟨h5, l5, -⟩ := h4.ps b4 (by rw [e4, en4]; exact f)
        exact h5.rt ((l2.tr l4 (Int.le_refl _)).tr l5 (Int.le_refl _)) (by omega) (by omega)
      unfold BM_described2_73
      refine wp_if (fun _ => fch _ _) (fun _ => ?_)
      refine wp_if (fun _ => ?_) (fun _ => ?_)
      · refine uM_mk L xs (by omega) _ _ _ h2 b2 i2 (by omega) (fun t g3 r3 it t0 b3 e3 h3 l3 => ?_)
        refine wp_nS (uM_literal L xs (by omega) h3 b3 it (by omega) (by omega)) (fun g4 r4 h4 l4 => ?_)
        have l24 := (l2.tr l3 (Int.le_refl _)).tr l4 (Int.le_refl _)
        refine wp_vSm (uM_meets L xs (by omega) _ h4) ?_ (fun g5 r5 b5 h5 l5 => ?_)
        · exact wp_t (by decide) (h4.rt l24 (by omega) (by omega))
        · refine wp_f (by decide) ?_
          refine wp_nS (uM_literal L xs (by omega) h5 b5 (l5.mi (l4.mi it)) (by omega) (by omega)) (fun g6 r6 h6 l6 => ?_)
          exact h6.rt ((l24.tr l5 (Int.le_refl _)).tr l6 (Int.le_refl _)) (by omega) (by omega)
      refine wp_if (fun _ => f313) (fun _ => ?_)
      refine wp_if (fun _ => ?_) (fun _ => ?_)
      · refine wp_nS (uM_occurs L xs hm (by omega) _ h2 i2 (by omega) (by omega) (by omega)) (fun g4 r4 h4 l4 => ?_)
        exact h4.rt (l2.tr l4 (Int.le_refl _)) (by omega) (by omega)
      refine wp_if (fun _ => f313) (fun _ => ?_)
      refine wp_if (fun _ => f313) (fun _ => ?_)
      refine wp_if (fun _ => f313) (fun _ => ?_)
      refine wp_if (fun _ => fch _ _) (fun _ => ?_)
      refine wp_if (fun _ => ?_) (fun _ => f313)
      refine wp_vB (tM_isWord L xs (by omega) _ m2 m2.a0) ?_ (fun f => wp_t (by decide) (f250 (Mw_lt f)))
      refine wp_f (by decide) ?_
      refine wp_vB (tM_isWord L xs (by omega) _ m2 m2.a0) ?_ (fun f => wp_f (by decide) (f250 (Mw_lt f)))
      refine wp_t (by decide) ?_
      unfold BM_described2_255 BM_described2_282 BM_described2_320_2
      refine wp_t (by decide) ?_
      refine wp_t (by decide) ?_
      refine wp_vF (uM_failH L xs (by omega) _ (b' := b) (P' := P) h2 (by omega)) (fun g3 r3 b3 h3 l3 => ?_)
      exact h3.rt (l2.tr l3 (Int.le_refl _)) (by omega) (by omega)
    have t1 : (upd g fM_at (g fM_at + 1) fM_at).toInt = (g fM_at).toInt + 1 := e1
    have f72 : wp (BM_described2_72 L xs (m + 1) d m a (g fM_at) x3 (upd g fM_at (g fM_at + 1)) r) (kSn 1 b B s P g0 r0 g) kN := f73 0 _ _ h1 hb l1 (by rw [t1]; omega)
    have f59 : wp (BM_described2_59 L xs (m + 1) d m a (g fM_at) x3 (upd g fM_at (g fM_at + 1)) r) (kSn 1 b B s P g0 r0 g) kN := by
      unfold BM_described2_59
      refine wp_vX (tM_meetsX L xs (by omega) _ (h1.gd hb).2 hb) ?_ (fun k3 t3 => ?_)
      · exact wp_t (by decide) f72
      · refine wp_f (by decide) ?_
        have l3 : Lk 1 (upd g fM_at (g fM_at + 1)) (upd (upd g fM_at (g fM_at + 1)) fM_at (upd g fM_at (g fM_at + 1) fM_at + 1)) := ⟨Int.le_refl _, by omega, fun _ => ⟨hb, by omega⟩⟩
        have x3' : Ex (upd g fM_at (g fM_at + 1)) r (upd (upd g fM_at (g fM_at + 1)) fM_at (upd g fM_at (g fM_at + 1) fM_at + 1)) r := ⟨Fm.rf.up (by decide), l3.1, l3.2.1⟩
        exact f73 1 _ _ ((h1.go hb x3' rfl hb k3).le (by omega)) hb (l1.tr l3 (by omega)) (by omega)
    unfold BM_described2_30
    refine wp_if (fun _ => f59) (fun _ => ?_)
    refine wp_if (fun _ => f59) (fun _ => ?_)
    exact wp_if (fun _ => f72) (fun _ => f59)
