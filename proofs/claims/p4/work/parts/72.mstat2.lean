/-! The model's statements, one by one. -/
theorem Sv.mi {b B : Int} {s : Sg} {P : List Nat} {g0 g : a2_G} {r0 r : a2_A} {a : Int32} (h : Sv b B s P g0 r0 g r) (ha : Mi g0 a) : Mi g a := ⟨ha.1, by have h1 := h.1.2.1; have h2 := ha.2; omega⟩
theorem Lk.mi {p : Int} {g g' : a2_G} {a : Int32} (h : Lk p g g') (ha : Mi g a) : Mi g' a := ⟨ha.1, by have h1 := h.1; have h2 := ha.2; omega⟩
theorem Sv.q {b B : Int} {s : Sg} {P : List Nat} {g0 g : a2_G} {r0 r : a2_A} (h : Sv b B s P g0 r0 g r) (hb : g fM_bad = 0) : 0 ≤ (g fM_at).toInt ∧ (g fM_at).toInt ≤ (g fM_n).toInt ∧ (g fM_n).toInt ≤ 1500 ∧ 1 ≤ (g fM_nodes).toInt ∧ (g fM_nodes).toInt ≤ 4 * (g fM_at).toInt + b := by
  have q := (h.gd hb).2.q
  have a := (h.gd hb).2.an hb
  omega
/-- a word is passed -/
theorem Sv.ps {b B : Int} {s : Sg} {P : List Nat} {g0 g : a2_G} {r0 r : a2_A} (h : Sv b B s P g0 r0 g r) (hb : g fM_bad = 0) (hl : (g fM_at).toInt < (g fM_n).toInt) : Sv (b - 4) B s P g0 r0 (upd g fM_at (g fM_at + 1)) r ∧ Lk 1 g (upd g fM_at (g fM_at + 1)) ∧ (g fM_at + 1).toInt = (g fM_at).toInt + 1 := by
  obtain ⟨p1, p2, p3⟩ := (h.gd hb).2.ps hb hl
  exact ⟨h.en hb p3 hb p1, ⟨p3.2.1, p3.2.2, fun _ => ⟨hb, by show _ ≤ (g fM_at + 1).toInt; omega⟩⟩, p2⟩
theorem Sv.vl {b B : Int} {s : Sg} {P : List Nat} {g0 g : a2_G} {r0 r : a2_A} (h : Sv b B s P g0 r0 g r) (i : Nat) (x : Int32) : Sv b B s P g0 r0 g (aw r fM_value i x) := h.up fM_value i x (by decide) (by decide) (fun hk => absurd hk (by decide))
theorem Sv.ln {b B : Int} {s : Sg} {P : List Nat} {g0 g : a2_G} {r0 r : a2_A} (h : Sv b B s P g0 r0 g r) : ML r := h.2.elim (fun e => e.2.2.1.1) (fun e => e.2.1.1)
theorem Sv.n8 {b B : Int} {s : Sg} {P : List Nat} {g0 g : a2_G} {r0 r : a2_A} (h : Sv b B s P g0 r0 g r) (hB : B ≤ 1900) (hb : b ≤ 1900) : (g fM_nodes).toInt < 8000 := by
  obtain ⟨b1, P1, h1, h2⟩ := h.any
  have q := h1.q
  omega
theorem uM_phrase (L : Nat) (xs : Nat → Int32) {m d : Nat} (hm : 4294967296 ≤ m) (hd : 9 ≤ d) {a : Int32} {b B : Int} {s : Sg} {P : List Nat} {g0 g : a2_G} {r0 r : a2_A} (h : Sv b B s P g0 r0 g r) (ha : Mi g a) (hB : b + 8 ≤ B) (hB2 : b ≤ 1870) (hv0 : 0 ≤ (g0 fM_level).toInt) (hv : (g0 fM_level).toInt ≤ 40) : wp (ev L xs (m + 1) d nM_phrase [.ref cM, .int a] g r) (kSn 0 b B s P g0 r0 g) kN := by
  obtain ⟨d, rfl⟩ : ∃ e, d = e + 1 := ⟨d - 1, by omega⟩
  rw [qM_phrase]
  rcases h.b01 with hb | hb
  · refine wp_t (by rw [c2_eq]; exact hb) ?_
    have q := h.q hb
    refine wp_vB (tM_isTimes L xs (by omega) (h.gd hb).2) ?_ (fun f => ?_)
    · refine wp_t (by decide) ?_
      refine wp_vSm (uM_meets L xs (by omega) _ h) ?_ (fun g1 r1 b1 h1 l1 => ?_)
      · refine wp_t (by decide) ?_
        refine wp_vSm (uM_meets L xs (by omega) _ h) ?_ (fun g1 r1 b1 h1 l1 => ?_)
        · refine wp_t (by decide) ?_
          exact ⟨rfl, h, Int.le_refl _, Int.le_refl _, fun e => ⟨e, by omega⟩⟩
        · refine wp_f (by decide) ?_
          refine uM_mk L xs (by omega) _ _ _ h1 b1 (l1.mi ha) (by omega) (fun t g2 r2 it t0 b2 e2 h2 l2 => ?_)
          have fin : ∀ g3 r3, Sv b B s P g0 r0 g3 r3 → Lk 0 g g3 → Mi g3 t → wp (BM_phrase_135 L xs (m + 1) d m a (g fM_at) t g3 r3) (kSn 0 b B s P g0 r0 g) kN := by
            intro g3 r3 h3 l3 i3
            unfold BM_phrase_135
            have f163 : ∀ g5 r5, Sv b B s P g0 r0 g5 r5 → Lk 0 g g5 → Mi g5 t → wp (BM_phrase_163 L xs (m + 1) d m a (g fM_at) t g5 r5) (kSn 0 b B s P g0 r0 g) kN := by
              intro g5 r5 h5 l5 i5
              unfold BM_phrase_163 BM_phrase_177_1
              refine wp_vSv (uM_must L xs (by omega) _ h5 (by omega)) (fun g6 r6 b6 h6 l6 => ?_) (fun g6 r6 b6 h6 l6 => ?_)
              · refine wp_t (by decide) ?_
                exact ⟨rfl, h6.le (by omega), by have := l5.1; have := l6.1; omega, by have := l5.2.1; have := l6.2.1; omega, fun e => (bad_ne e b6).elim⟩
              · refine wp_f (by decide) ?_
                refine wp_nS (uM_conditionOf L xs hm (by omega) h6 (l6.mi i5) (by omega) (by omega) hv0 hv) (fun g7 r7 h7 l7 => ?_)
                refine ⟨rfl, h7.le (by omega), by have := l5.1; have := l6.1; have := l7.1; omega, by have := l5.2.1; have := l6.2.1; have := l7.2.1; omega, fun e => ⟨hb, by have := l5.2.1; have := l6.2.1; have := l7.2.1; omega⟩⟩
            have f149 : ∀ g5 r5, Sv b B s P g0 r0 g5 r5 → Lk 0 g g5 → Mi g5 t → wp (BM_phrase_149 L xs (m + 1) d m a (g fM_at) t g5 r5) (kSn 0 b B s P g0 r0 g) kN := by
              intro g5 r5 h5 l5 i5
              unfold BM_phrase_149
              refine wp_vSv (uM_must L xs (by omega) _ h5 (by omega)) (fun g6 r6 b6 h6 l6 => ?_) (fun g6 r6 b6 h6 l6 => ?_)
              · refine wp_t (by decide) ?_
                exact f163 _ _ (h6.le (by omega)) ⟨by have := l5.1; have := l6.1; omega, by have := l5.2.1; have := l6.2.1; omega, fun e => (bad_ne e b6).elim⟩ (l6.mi i5)
              · refine wp_f (by decide) ?_
                refine wp_nS (uM_operandOf L xs (by omega) h6 (l6.mi i5) (by omega) (by omega)) (fun g7 r7 h7 l7 => ?_)
                exact f163 _ _ (h7.le (by omega)) ⟨by have := l5.1; have := l6.1; have := l7.1; omega, by have := l5.2.1; have := l6.2.1; have := l7.2.1; omega, fun e => ⟨hb, by have := l5.2.1; have := l6.2.1; have := l7.2.1; omega⟩⟩ (l7.mi (l6.mi i5))
            refine wp_vSv (uM_must L xs (by omega) _ h3 (by omega)) (fun g6 r6 b6 h6 l6 => ?_) (fun g6 r6 b6 h6 l6 => ?_)
            · refine wp_t (by decide) ?_
              exact f149 _ _ (h6.le (by omega)) ⟨by have := l3.1; have := l6.1; omega, by have := l3.2.1; have := l6.2.1; omega, fun e => (bad_ne e b6).elim⟩ (l6.mi i3)
            · refine wp_f (by decide) ?_
              refine wp_nS (uM_operandOf L xs (by omega) h6 (l6.mi i3) (by omega) (by omega)) (fun g7 r7 h7 l7 => ?_)
              exact f149 _ _ (h7.le (by omega)) ⟨by have := l3.1; have := l6.1; have := l7.1; omega, by have := l3.2.1; have := l6.2.1; have := l7.2.1; omega, fun e => ⟨hb, by have := l3.2.1; have := l6.2.1; have := l7.2.1; omega⟩⟩ (l7.mi (l6.mi i3))
          refine wp_vSv (uM_mustBe L xs (by omega) _ h2 (by omega)) (fun g3 r3 b3 h3 l3 => ?_) (fun g3 r3 b3 h3 l3 => ?_)
          · refine wp_t (by decide) ?_
            exact fin _ _ (h3.le (by omega)) ⟨by have := l1.1; have := l2.1; have := l3.1; omega, by have := l1.2.1; have := l2.2.1; have := l3.2.1; omega, fun e => (bad_ne e b3).elim⟩ (l3.mi it)
          · refine wp_f (by decide) ?_
            have q3 := h3.q b3
            have w3 := (l3.2.2 b3).2
            have w1 := l1.2.1
            refine wp_vP (uM_passed L xs (by omega) h3 b3 (by rw [e2] at w3; omega)) (fun v _ => ?_)
            refine wp_nC (uM_child4 L xs (by omega) _ _ _ h3 b3 (l3.mi it) (by omega)) (fun g4 r4 b4 e4 h4 l4 => ?_)
            exact fin _ _ (h4.le (by omega)) ⟨by have := l1.1; have := l2.1; have := l3.1; have := l4.1; omega, by have := l1.2.1; have := l2.2.1; have := l3.2.1; have := l4.2.1; omega, fun _ => ⟨hb, by have := l1.2.1; have := l2.2.1; have := l3.2.1; have := l4.2.1; omega⟩⟩ (l4.mi (l3.mi it))
      · refine wp_f (by decide) ?_
        refine uM_mk L xs (by omega) _ _ _ h1 b1 (l1.mi ha) (by omega) (fun t g2 r2 it t0 b2 e2 h2 l2 => ?_)
        refine wp_nS (uM_conditionOf L xs hm (by omega) h2 it (by omega) (by omega) hv0 hv) (fun g7 r7 h7 l7 => ?_)
        exact ⟨rfl, h7.le (by omega), by have := l1.1; have := l2.1; have := l7.1; omega, by have := l1.2.1; have := l2.2.1; have := l7.2.1; omega, fun e => ⟨hb, by have := l1.2.1; have := l2.2.1; have := l7.2.1; omega⟩⟩
    · refine wp_f (by decide) ?_
      refine uM_mk L xs (by omega) _ _ _ h hb ha (by omega) (fun t g2 r2 it t0 b2 e2 h2 l2 => ?_)
      refine wp_nS (uM_operandOf L xs (by omega) h2 it (by omega) (by omega)) (fun g3 r3 h3 l3 => ?_)
      refine wp_v (uM_must L xs (by omega) _ h3 (by omega)) (fun _ _ _ hx => hx.elim) ?_
      rintro o g4 r4 ⟨v, rfl, -, h4, l4⟩
      exact ⟨v, rfl, rfl, h4.le (by omega), by have := l2.1; have := l3.1; have := l4.1; omega, by have := l2.2.1; have := l3.2.1; have := l4.2.1; omega, fun e => ⟨hb, by have := l2.2.1; have := l3.2.1; have := l4.2.1; omega⟩⟩
  · refine wp_f (by rw [c2_eq, hb]; decide) ?_
    exact ⟨rfl, h, Int.le_refl _, Int.le_refl _, fun e => (bad_ne e hb).elim⟩
theorem uM_compute (L : Nat) (xs : Nat → Int32) {m d : Nat} (hm : 4294967296 ≤ m) (hd : 6 ≤ d) {a : Int32} {b B : Int} {s : Sg} {P : List Nat} {g0 g : a2_G} {r0 r : a2_A} (h : Sv b B s P g0 r0 g r) (ha : Mi g a) (hB : b + 8 ≤ B) (hB1 : B ≤ 1900) (hB2 : b ≤ 1870) (hv0 : 0 ≤ (g0 fM_level).toInt) (hv : (g0 fM_level).toInt ≤ 40) (h0 : 0 ≤ (g fM_at).toInt) : wp (ev L xs (m + 1) d nM_compute [.ref cM, .int a] g r) (kSn 0 b B s P g0 r0 g) kN := by
  obtain ⟨d, rfl⟩ : ∃ e, d = e + 1 := ⟨d - 1, by omega⟩
  have a1 := ha.1
  have a2 := ha.2
  rw [qM_compute]
  refine wp_vSv (uM_mustBe L xs (by omega) _ h (by omega)) (fun g1 r1 b1 h1 l1 => ?_) (fun g1 r1 b1 h1 l1 => ?_)
  · refine wp_f (by decide) ?_
    exact ⟨rfl, h1.le (by omega), l1.1, l1.2.1, fun e => (bad_ne e b1).elim⟩
  · refine wp_t (by decide) ?_
    obtain ⟨hb, w1⟩ := l1.2.2 b1
    have n1 := l1.1
    refine wp_vP (uM_passed L xs (by omega) h1 b1 (by omega)) (fun v _ => ?_)
    have n8 := h1.n8 hB1 (by omega)
    refine wp_in (h1.ln.at 5) a1 (by omega) ?_
    have h2 := h1.vl a.toNatClampNeg v
    have m2 := (h2.gd b1).2
    refine wp_vB (tM_isSign L xs (by omega) _ m2 m2.a0) ?_ (fun f => ?_)
    · refine wp_f (by decide) ?_
      refine wp_vF (uM_failH L xs (by omega) _ (b' := b) (P' := P) h2 (by omega)) (fun g3 r3 b3 h3 l3 => ?_)
      exact ⟨rfl, h3, by have := l3.1; omega, by have := l3.2.1; omega, fun e => (bad_ne e b3).elim⟩
    · refine wp_t (by decide) ?_
      obtain ⟨h3, l3, e3⟩ := h2.ps b1 (Ms_lt f)
      have m3 := h3.gd b1
      refine wp_v (tM_sum L xs hm (by omega) m3.2 b1 (by omega) (by rw [m3.1]; exact hv0) (by rw [m3.1]; exact hv)) (fun _ _ _ hx => hx.elim) ?_
      have ln1 := l3.1
      have ln2 := l3.2.1
      rintro o g4 r4 ⟨v4, rfl, ⟨z4, x4⟩ | ⟨z4, i4, x4, b4, t4, k4, lv4⟩⟩
      · refine ⟨v4, rfl, ?_⟩
        refine wp_f (by rw [c2_eq, x4.2.1]; decide) ?_
        have y1 := x4.1.2.1
        have y2 := x4.1.2.2
        exact ⟨rfl, ⟨h3.1.trans x4.1, Or.inr ⟨x4.2.1, x4.2.2.le (by omega)⟩⟩, by omega, by omega, fun e => (bad_ne e x4.2.1).elim⟩
      · refine ⟨v4, rfl, ?_⟩
        refine wp_t (by rw [c2_eq]; exact b4) ?_
        have y1 := x4.2.1
        have y2 := x4.2.2
        refine wp_nH (tM_attach L xs (by omega) k4 ⟨a1, by omega⟩ i4 (by omega)) (fun g5 r5 n5 b5 t5 k5 => ?_)
        have z1 := n5.2.1
        have z2 := n5.2.2
        have h5 : Sv b B s P g0 r0 g5 r5 := (h3.go b1 x4 lv4 b4 k4).en b4 n5 (b5.trans b4) (k5.le (by omega))
        have fin : ∀ g6 r6 x2 x3, Sv b B s P g0 r0 g6 r6 → g6 fM_bad = 0 → (x3 = 0 ∨ x3 = 1) → (g5 fM_nodes).toInt ≤ (g6 fM_nodes).toInt → (g5 fM_at).toInt ≤ (g6 fM_at).toInt → wp (BM_compute_90 L xs (m + 1) d m a x2 x3 a g6 r6) (kSn 0 b B s P g0 r0 g) kN := by
          intro g6 r6 x2 x3 h6 b6 hx3 n6 t6
          unfold BM_compute_90
          have n8 := h6.n8 hB1 (by omega)
          refine wp_in (h6.ln.at 7) a1 (by omega) ?_
          refine ⟨rfl, h6.up fM_extra _ _ (by decide) (by decide) (fun _ => ?_), by omega, by omega, fun _ => ⟨hb, by omega⟩⟩
          rcases hx3 with rfl | rfl
          · exact in8_0
          · exact ⟨by decide, by decide⟩
        refine wp_vSm (uM_meets L xs (by omega) _ h5) ?_ (fun g6 r6 b6 h6 l6 => ?_)
        · refine wp_t (by decide) ?_
          exact fin _ _ _ _ h5 (b5.trans b4) (Or.inl rfl) (Int.le_refl _) (Int.le_refl _)
        · refine wp_f (by decide) ?_
          exact fin _ _ _ _ (h6.le (by omega)) b6 (Or.inr rfl) l6.1 l6.2.1
/-! With a pile. -/
theorem tM_pile (L : Nat) (xs : Nat → Int32) {m d : Nat} (hd : 1 ≤ d) (k t : Int32) {g : a2_G} {r : a2_A} (h : ML r) {p : Nat} (hp : (g fM_piled).toInt = p) (h6 : p < 128) : wp (ev L xs (m + 1) d nM_pile [.ref cM, .int k, .int t] g r) (fun o g' r' => o = none ∧ g' = upd g fM_piled (g fM_piled + 1) ∧ r' = aw (aw (aw r fM_pileKind p k) fM_pileNode p t) fM_pilePhase p 0) kN := by
  obtain ⟨d, rfl⟩ : ∃ e, d = e + 1 := ⟨d - 1, by omega⟩
  have ec : (g fM_piled).toNatClampNeg = p := by rw [nc_eq, hp]; rfl
  rw [qM_pile]
  refine wp_in (h.at 25) (by omega) (by omega) ?_
  refine wp_in (h.at 26) (by omega) (by omega) ?_
  refine wp_in (h.at 27) (by omega) (by omega) ?_
  rw [ec]
  exact ⟨rfl, rfl, rfl⟩
/-- behind a statement's words: piled, or not -/
def kPu (q : Int) (b B : Int) (s : Sg) (P : List Nat) (g0 : a2_G) (r0 : a2_A) (p : Nat) : Option Value → a2_G → a2_A → Prop := fun o g' r' => o = none ∧ ∃ g1 r1, Sv b B s P g0 r0 g1 r1 ∧ (g1 fM_bad = 0 → (g0 fM_at).toInt + q ≤ (g1 fM_at).toInt) ∧ (g' = g1 ∧ r' = r1 ∨ ∃ k t : Int32, k ≠ 0 ∧ Mi g1 t ∧ g' = upd g1 fM_piled (g1 fM_piled + 1) ∧ r' = aw (aw (aw r1 fM_pileKind p k) fM_pileNode p t) fM_pilePhase p 0)
theorem Sv.no {b B q : Int} {s : Sg} {P : List Nat} {g0 g : a2_G} {r0 r : a2_A} {p : Nat} (h : Sv b B s P g0 r0 g r) (hq : g fM_bad = 0 → (g0 fM_at).toInt + q ≤ (g fM_at).toInt) : kPu q b B s P g0 r0 p none g r := ⟨rfl, g, r, h, hq, Or.inl ⟨rfl, rfl⟩⟩
theorem uM_pile (L : Nat) (xs : Nat → Int32) {m d : Nat} (hd : 1 ≤ d) {k t : Int32} {b B q : Int} {s : Sg} {P : List Nat} {g0 g : a2_G} {r0 r : a2_A} {p : Nat} (h : Sv b B s P g0 r0 g r) (hq : g fM_bad = 0 → (g0 fM_at).toInt + q ≤ (g fM_at).toInt) (hp : (g0 fM_piled).toInt = p) (h6 : p < 128) (hk : k ≠ 0) (ht : Mi g t) : wp (ev L xs (m + 1) d nM_pile [.ref cM, .int k, .int t] g r) (kPu q b B s P g0 r0 p) kN := by
  have e := h.1.1.1 fM_piled (by decide)
  refine wp_mono (tM_pile L xs hd k t h.ln (by rw [e]; exact hp) h6) ?_ (fun _ _ _ hx => hx)
  rintro o g' r' ⟨rfl, rfl, rfl⟩
  exact ⟨rfl, g, r, h, hq, Or.inr ⟨k, t, hk, ht, rfl, rfl⟩⟩
theorem wp_nP {z : Option fn_Z} {q b B : Int} {s : Sg} {P : List Nat} {g0 : a2_G} {r0 : a2_A} {p : Nat} {X : Nat → a2_G → a2_A → Prop} (h : wp z (kPu q b B s P g0 r0 p) kN) : wp (fn_n z fun g r => some (.inl none, g, r)) (kPu q b B s P g0 r0 p) X := by
  refine wp_n h (fun _ _ _ hx => hx.elim) ?_
  rintro o g' r' ⟨rfl, e⟩
  exact ⟨rfl, rfl, e⟩
theorem uM_perform (L : Nat) (xs : Nat → Int32) {m d : Nat} (hm : 4294967296 ≤ m) (hd : 10 ≤ d) {a : Int32} {b B q : Int} {s : Sg} {P : List Nat} {g0 g : a2_G} {r0 r : a2_A} {p : Nat} (h : Sv b B s P g0 r0 g r) (hb : g fM_bad = 0) (ha : Mi g a) (hB : b + 8 ≤ B) (hB1 : B ≤ 1900) (hB2 : b ≤ 1870) (hv0 : 0 ≤ (g0 fM_level).toInt) (hv : (g0 fM_level).toInt ≤ 40) (hq : (g0 fM_at).toInt + q ≤ (g fM_at).toInt) (hp : (g0 fM_piled).toInt = p) (h6 : p < 128) : wp (ev L xs (m + 1) d nM_perform [.ref cM, .int a] g r) (kPu q b B s P g0 r0 p) kN := by
  obtain ⟨d, rfl⟩ : ∃ e, d = e + 1 := ⟨d - 1, by omega⟩
  have a1 := ha.1
  have a2 := ha.2
  have q0 := h.q hb
  have f79 : ∀ x2 g1 r1, Sv b B s P g0 r0 g1 r1 → Lk 0 g g1 → wp (BM_perform_79 L xs (m + 1) d m a x2 g1 r1) (kPu q b B s P g0 r0 p) kN := by
    intro x2 g1 r1 h1 l1
    unfold BM_perform_79
    refine wp_nS (uM_phrase L xs hm (by omega) h1 (l1.mi ha) hB hB2 hv0 hv) (fun g2 r2 h2 l2 => ?_)
    have w1 := l1.2.1
    have w2 := l2.2.1
    have n1 := l1.1
    have n2 := l2.1
    refine wp_if (fun _ => ?_) (fun _ => ?_)
    · have n8 := h2.n8 hB1 (by omega)
      refine wp_in (h2.ln.at 5) a1 (by omega) ?_
      exact wp_nP (uM_pile L xs (by omega) (h2.vl _ _) (fun _ => by omega) hp h6 (by decide) ⟨a1, by omega⟩)
    · exact h2.no (fun _ => by omega)
  have f32 : wp (BM_perform_32 L xs (m + 1) d m a 1 g r) (kPu q b B s P g0 r0 p) kN := by
    unfold BM_perform_32
    refine wp_f (by decide) ?_
    refine wp_nS (uM_operandOf L xs (by omega) h ha (by omega) (by omega)) (fun g1 r1 h1 l1 => ?_)
    have w1 := l1.2.1
    have n1 := l1.1
    have ll : ∀ {p g2}, Lk p g1 g2 → Lk 0 g g2 := fun l2 => ⟨by have := l2.1; omega, by have := l2.2.1; omega, fun _ => ⟨hb, by have := l2.2.1; omega⟩⟩
    refine wp_vSm (uM_meets L xs (by omega) _ h1) ?_ (fun g2 r2 b2 h2 l2 => ?_)
    · refine wp_t (by decide) ?_
      exact f79 _ _ _ (h1.le (by omega)) (ll (p := 0) ⟨Int.le_refl _, Int.le_refl _, fun e => ⟨e, by omega⟩⟩)
    · refine wp_f (by decide) ?_
      refine wp_vSv (uM_mustBe L xs (by omega) _ h2 (by omega)) (fun g3 r3 b3 h3 l3 => ?_) (fun g3 r3 b3 h3 l3 => ?_)
      · refine wp_t (by decide) ?_
        exact f79 _ _ _ (h3.le (by omega)) (ll (p := 0) ⟨by have := l2.1; have := l3.1; omega, by have := l2.2.1; have := l3.2.1; omega, fun e => (bad_ne e b3).elim⟩)
      · refine wp_f (by decide) ?_
        have w2 := l2.2.1
        have w3 := (l3.2.2 b3).2
        refine wp_vP (uM_passed L xs (by omega) h3 b3 (by omega)) (fun v _ => ?_)
        refine wp_nC (uM_child4 L xs (by omega) _ _ _ h3 b3 (l3.mi (l2.mi (l1.mi ha))) (by omega)) (fun g4 r4 b4 e4 h4 l4 => ?_)
        exact f79 _ _ _ (h4.le (by omega)) (ll (p := 0) ⟨by have := l2.1; have := l3.1; have := l4.1; omega, by have := l2.2.1; have := l3.2.1; have := l4.2.1; omega, fun e => ⟨(l2.2.2 b2).1, by have := l4.2.1; omega⟩⟩)
  have f31 : wp (BM_perform_31 L xs (m + 1) d m a g r) (kPu q b B s P g0 r0 p) kN := by
    unfold BM_perform_31 BM_perform_32
    refine wp_t (by decide) ?_
    exact f79 _ _ _ h ⟨Int.le_refl _, Int.le_refl _, fun e => ⟨e, by omega⟩⟩
  have m0 := (h.gd hb).2
  rw [qM_perform]
  refine wp_vB (tM_isKind L xs (by omega) _ m0 m0.a0) ?_ (fun f => ?_)
  · exact wp_t (by decide) f31
  · refine wp_f (by decide) ?_
    refine wp_vB (tM_isWord L xs (by omega) _ m0 (by rw [i32_inc (by omega)]; omega)) ?_ (fun f => ?_)
    · exact wp_f (by decide) f32
    · exact wp_t (by decide) f31
theorem uM_call (L : Nat) (xs : Nat → Int32) {m d : Nat} (hm : 4294967296 ≤ m) (hd : 6 ≤ d) {a : Int32} {b B q : Int} {s : Sg} {P : List Nat} {g0 g : a2_G} {r0 r : a2_A} {p : Nat} (h : Sv b B s P g0 r0 g r) (hb : g fM_bad = 0) (ha : Mi g a) (hB : b + 8 ≤ B) (hB2 : b ≤ 1870) (hq : (g0 fM_at).toInt + q ≤ (g fM_at).toInt) (hp : (g0 fM_piled).toInt = p) (h6 : p < 128) : wp (ev L xs (m + 1) d nM_call [.ref cM, .int a] g r) (kPu q b B s P g0 r0 p) kN := by
  obtain ⟨d, rfl⟩ : ∃ e, d = e + 1 := ⟨d - 1, by omega⟩
  have f49 : ∀ g1 r1, Sv b B s P g0 r0 g1 r1 → Lk 0 g g1 → wp (BM_call_49 L xs (m + 1) d m a g1 r1) (kPu q b B s P g0 r0 p) kN := by
    intro g1 r1 h1 l1
    unfold BM_call_49 BM_call_65
    have w1 := l1.2.1
    refine wp_vSm (uM_meets L xs (by omega) _ h1) ?_ (fun g2 r2 b2 h2 l2 => ?_)
    · refine wp_t (by decide) ?_
      exact wp_nP (uM_pile L xs (by omega) h1 (fun _ => by omega) hp h6 (by decide) (l1.mi ha))
    · refine wp_f (by decide) ?_
      have w2 := l2.2.1
      refine wp_nS (uM_names L xs hm (by omega) _ h2 (l2.mi (l1.mi ha)) (by omega) (by omega)) (fun g3 r3 h3 l3 => ?_)
      have w3 := l3.2.1
      exact wp_nP (uM_pile L xs (by omega) (h3.le (by omega)) (fun _ => by omega) hp h6 (by decide) (l3.mi (l2.mi (l1.mi ha))))
  have f44 : wp (BM_call_44 L xs (m + 1) d m a g r) (kPu q b B s P g0 r0 p) kN := by
    unfold BM_call_44
    refine wp_nS (uM_operandOf L xs (by omega) h ha (by omega) (by omega)) (fun g1 r1 h1 l1 => ?_)
    exact f49 _ _ (h1.le (by omega)) ⟨l1.1, l1.2.1, fun e => ⟨hb, by have := l1.2.1; omega⟩⟩
  have m0 := (h.gd hb).2
  rw [qM_call]
  refine wp_f (by rw [c2_ne, Decidable.not_not]; exact hb) ?_
  refine wp_vB (tM_isKind L xs (by omega) _ m0 m0.a0) ?_ (fun f => wp_t (by decide) f44)
  refine wp_f (by decide) ?_
  refine wp_vB (tM_isKind L xs (by omega) _ m0 m0.a0) ?_ (fun f => wp_t (by decide) f44)
  refine wp_f (by decide) ?_
  refine wp_vF (uM_failH L xs (by omega) _ (b' := b) (P' := P) h (by omega)) (fun g3 r3 b3 h3 l3 => ?_)
  exact f49 _ _ h3 l3
theorem uM_add (L : Nat) (xs : Nat → Int32) {m d : Nat} (hm : 4294967296 ≤ m) (hd : 6 ≤ d) {a : Int32} {b B q : Int} {s : Sg} {P : List Nat} {g0 g : a2_G} {r0 r : a2_A} {p : Nat} (h : Sv b B s P g0 r0 g r) (hb : g fM_bad = 0) (ha : Mi g a) (hB : b + 8 ≤ B) (hB1 : B ≤ 1900) (hB2 : b ≤ 1870) (hq : (g0 fM_at).toInt + q ≤ (g fM_at).toInt) (hp : (g0 fM_piled).toInt = p) (h6 : p < 128) : wp (ev L xs (m + 1) d nM_add [.ref cM, .int a] g r) (kPu q b B s P g0 r0 p) kN := by
  obtain ⟨d, rfl⟩ : ∃ e, d = e + 1 := ⟨d - 1, by omega⟩
  have a1 := ha.1
  have q0 := h.q hb
  have f31 : ∀ k g1 r1, Sv b B s P g0 r0 g1 r1 → Lk 0 g g1 → wp (BM_add_31 L xs (m + 1) d k a g1 r1) (kPu q b B s P g0 r0 p) kN := by
    intro k g1 r1 h1 l1
    have w1 := l1.2.1
    have i1 := l1.mi ha
    unfold BM_add_31 BM_add_94
    refine wp_vSm (uM_meets L xs (by omega) _ h1) ?_ (fun g2 r2 b2 h2 l2 => ?_)
    · refine wp_t (by decide) ?_
      refine wp_vSv (uM_must L xs (by omega) _ h1 (by omega)) (fun g2 r2 b2 h2 l2 => ?_) (fun g2 r2 b2 h2 l2 => ?_)
      · refine wp_t (by decide) ?_
        exact wp_nP (uM_pile L xs (by omega) (h2.le (by omega)) (fun e => (bad_ne e b2).elim) hp h6 (by decide) (l2.mi i1))
      · refine wp_f (by decide) ?_
        have n8 := h2.n8 hB1 (by omega)
        have i2 := l2.mi i1
        have i22 := i2.2
        have w2 := l2.2.1
        refine wp_in (h2.ln.at 5) a1 (by omega) ?_
        refine wp_vSv (uM_mustBe L xs (by omega) _ (h2.vl _ _) (by omega)) (fun g3 r3 b3 h3 l3 => ?_) (fun g3 r3 b3 h3 l3 => ?_)
        · refine wp_t (by decide) ?_
          exact wp_nP (uM_pile L xs (by omega) (h3.le (by omega)) (fun e => (bad_ne e b3).elim) hp h6 (by decide) (l3.mi i2))
        · refine wp_f (by decide) ?_
          have w3 := (l3.2.2 b3).2
          refine wp_vP (uM_passed L xs (by omega) h3 b3 (by omega)) (fun v _ => ?_)
          refine wp_nC (uM_child4 L xs (by omega) _ _ _ h3 b3 (l3.mi i2) (by omega)) (fun g4 r4 b4 e4 h4 l4 => ?_)
          have w4 := l4.2.1
          exact wp_nP (uM_pile L xs (by omega) (h4.le (by omega)) (fun _ => by omega) hp h6 (by decide) (l4.mi (l3.mi i2)))
    · refine wp_f (by decide) ?_
      have w2 := l2.2.1
      refine wp_nS (uM_names L xs hm (by omega) _ h2 (l2.mi i1) (by omega) (by omega)) (fun g3 r3 h3 l3 => ?_)
      have w3 := l3.2.1
      exact wp_nP (uM_pile L xs (by omega) (h3.le (by omega)) (fun _ => by omega) hp h6 (by decide) (l3.mi (l2.mi i1)))
  have f5 : ∀ (n k : Nat) (g1 : a2_G) (r1 : a2_A), (g1 fM_n).toInt < (g1 fM_at).toInt + n → n < k → Sv b B s P g0 r0 g1 r1 → Lk 0 g g1 → wp (BM_add_5 L xs (m + 1) d k a g1 r1) (kPu q b B s P g0 r0 p) kN := by
    intro n
    induction n with
    | zero =>
      intro k g1 r1 hn hk h1 l1
      unfold BM_add_5
      refine wp_bad h1.b01 (fun _ => f31 _ _ _ h1 l1) (fun hb1 => ?_)
      have := h1.q hb1
      omega
    | succ n ih =>
      intro k g1 r1 hn hk h1 l1
      unfold BM_add_5
      refine wp_bad h1.b01 (fun _ => f31 _ _ _ h1 l1) (fun hb1 => ?_)
      have m1 := (h1.gd hb1).2
      refine wp_vB (tM_isOperand L xs (by omega) m1 m1.a0) ?_ (fun f => ?_)
      · exact wp_t (by decide) (f31 _ _ _ h1 l1)
      · refine wp_f (by decide) ?_
        refine wp_nS (uM_operandOf L xs (by omega) h1 (l1.mi ha) (by omega) (by omega)) (fun g2 r2 h2 l2 => ?_)
        obtain ⟨k, rfl⟩ : ∃ e, k = e + 1 := ⟨k - 1, by omega⟩
        rw [lM_add_5]
        have en := (h2.1.1.1 fM_n (by decide)).trans (h1.1.1.1 fM_n (by decide)).symm
        have l12 : Lk 0 g g2 := ⟨by have := l1.1; have := l2.1; omega, by have := l1.2.1; have := l2.2.1; omega, fun e => ⟨hb, by have := l1.2.1; have := l2.2.1; omega⟩⟩
        rcases h2.b01 with hb2 | hb2
        · have w2 := (l2.2.2 hb2).2
          exact ih k g2 r2 (by rw [en]; omega) (by omega) (h2.le (by omega)) l12
        · unfold BM_add_5
          exact wp_bad (Or.inr hb2) (fun _ => f31 _ _ _ (h2.le (by omega)) l12) (fun e => (bad_ne e hb2).elim)
  rw [qM_add]
  refine wp_nS (uM_operandOf L xs (by omega) h ha (by omega) (by omega)) (fun g1 r1 h1 l1 => ?_)
  have en := (h1.1.1.1 fM_n (by decide)).trans (h.1.1.1 fM_n (by decide)).symm
  have w1 := l1.2.1
  exact f5 1501 m g1 r1 (by rw [en]; omega) (by omega) (h1.le (by omega)) ⟨l1.1, l1.2.1, fun e => ⟨hb, by omega⟩⟩
