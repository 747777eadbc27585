/-! The model's sum. -/
theorem Mst.pb {b : Int} {s : Sg} {P : List Nat} {g : a2_G} {r : a2_A} (h : Mst b s P g r) (hb : g fM_bad = 1) (hf : (g fM_at).toInt ≤ (g fM_failed).toInt + 1) : Mst b s P (upd g fM_at (g fM_at + 1)) r ∧ (g fM_at + 1).toInt = (g fM_at).toInt + 1 ∧ En g r (upd g fM_at (g fM_at + 1)) r := by
  have q := h.q
  have e := i32_inc (x := g fM_at) (by omega)
  have h5 := h.2.1.2.2.2.2.resolve_left (fun hh => by rw [hb] at hh; exact absurd hh.1 (by decide))
  refine ⟨⟨⟨h.1.1, h.1.2.1, h.1.2.2.1.up _ _ (fun hk => absurd hk (by decide)), h.1.2.2.2⟩, ⟨h.2.1.1, ?_, h.2.1.2.2.1, ?_, Or.inr ⟨h5.1, h5.2.1, h5.2.2.1, h5.2.2.2.1, ?_⟩⟩, h.2.2⟩, e, ⟨Fm.rf.up (by decide), Int.le_refl _, ?_⟩⟩
  · show s.1 ≤ (g fM_at + 1).toInt
    omega
  · show (g fM_nodes).toInt ≤ 4 * (g fM_at + 1).toInt + b
    omega
  · show (g fM_at + 1).toInt ≤ (g fM_failed).toInt + 2
    omega
  · show (g fM_at).toInt ≤ (g fM_at + 1).toInt
    omega
/-- fail, where all was good: it is here -/
theorem tM_failH (L : Nat) (xs : Nat → Int32) {m d : Nat} (hd : 2 ≤ d) (n w : Int32) {b : Int} {s : Sg} {P : List Nat} {g : a2_G} {r : a2_A} (h : Mst b s P g r) (hb : g fM_bad = 0) (h1 : s.1 ≤ w.toInt) (h2 : w.toInt ≤ (g fM_n).toInt) (h3 : (g fM_at).toInt ≤ w.toInt + 2) : wp (ev L xs (m + 1) d nM_fail [.ref cM, .int n, .int w] g r) (fun o g' r' => o = some (.int 0) ∧ pB b s P g r g' r' ∧ g' fM_failed = w ∧ g' fM_at = g fM_at ∧ g' fM_nodes = g fM_nodes) kN := by
  obtain ⟨d, rfl⟩ : ∃ e, d = e + 2 := ⟨d - 2, by omega⟩
  rw [M_fail L xs m d h.F]
  obtain ⟨f1, f2, f3⟩ := h.fl n hb h1 h2 h3
  refine ⟨rfl, ⟨f2, f3, f1⟩, ?_, ?_, ?_⟩ <;> (unfold MfG; rw [if_pos hb]) <;> (split <;> rfl)
def kSM (b : Int) (s : Sg) (P : List Nat) (g : a2_G) (r : a2_A) : Option Value → a2_G → a2_A → Prop := fun o g' r' => ∃ v : Int32, o = some (.int v) ∧ (v = 0 ∧ xB b s g r g' r' ∨ 0 < v.toInt ∧ Mi g' v ∧ Ex g r g' r' ∧ g' fM_bad = 0 ∧ (g fM_at).toInt < (g' fM_at).toInt ∧ Mst b s (v.toInt.toNat :: P) g' r' ∧ g' fM_level = g fM_level)
theorem tM_context (L : Nat) (xs : Nat → Int32) {m d : Nat} (hd : 1 ≤ d) {b : Int} {s : Sg} {P : List Nat} {g : a2_G} {r : a2_A} (h : Mst b s P g r) {C : Nat} (hc : (g fM_contexts).toInt = C) (h6 : C < 64) : wp (ev L xs (m + 1) d nM_context [.ref cM] g r) (fun o g' r' => o = none ∧ Mst b s P g' r' ∧ g' = upd g fM_contexts (g fM_contexts + 1) ∧ r' = aw (aw r fM_sumSign C 0) fM_productSign C 0) kN := by
  obtain ⟨d, rfl⟩ : ∃ e, d = e + 1 := ⟨d - 1, by omega⟩
  have ec : (g fM_contexts).toNatClampNeg = C := by rw [nc_eq, hc]; rfl
  rw [qM_context]
  refine wp_in (h.1.1.at 29) (by omega) (by omega) ?_
  refine wp_in (h.1.1.at 31) (by omega) (by omega) ?_
  rw [ec]
  exact ⟨rfl, ((h.upx fM_contexts _ (by decide) (fun hk => absurd hk (by decide))).awx fM_sumSign C 0 (by decide) (fun hk => absurd hk (by decide))).awx fM_productSign C 0 (by decide) (fun hk => absurd hk (by decide)), rfl, rfl⟩
theorem SU.op {b : Int} {s : Sg} {P : List Nat} {C : Nat} {g : a2_G} {r : a2_A} (h : Mst b s (sfl r P C) g r) (hM : sMi g r C) (hb : g fM_bad = 0) (hC : C ≤ 40) {k : a2_G} (hk : k = upd g fM_contexts (g fM_contexts + 1)) (hc : (g fM_contexts).toInt = C) : SU b s P (C + 1) k (aw (aw r fM_sumSign C 0) fM_productSign C 0) := by
  have ag : sag r (aw (aw r fM_sumSign C 0) fM_productSign C 0) C := (sag.rf.aw (Nat.le_refl _)).aw (Nat.le_refl _)
  have e1 : (aw (aw r fM_sumSign C 0) fM_productSign C 0 fM_productSign).2 C = 0 := aw_at
  have e2 : (aw (aw r fM_sumSign C 0) fM_productSign C 0 fM_sumSign).2 C = 0 := (aw_at : (aw r fM_sumSign C 0 fM_sumSign).2 C = 0)
  subst hk
  refine ⟨?_, ?_, hb, ?_, by omega, by omega⟩
  · have e : sfl (aw (aw r fM_sumSign C 0) fM_productSign C 0) P (C + 1) = sfl r P C := by
      show (if (aw (aw r fM_sumSign C 0) fM_productSign C 0 fM_productSign).2 C = 0 then [] else _) ++ ((if (aw (aw r fM_sumSign C 0) fM_productSign C 0 fM_sumSign).2 C = 0 then [] else _) ++ sfl (aw (aw r fM_sumSign C 0) fM_productSign C 0) P C) = _
      rw [e1, e2, if_pos rfl, if_pos rfl, ag.sfl]
      rfl
    rw [e]
    exact ((h.upx fM_contexts _ (by decide) (fun hk => absurd hk (by decide))).awx fM_sumSign C 0 (by decide) (fun hk => absurd hk (by decide))).awx fM_productSign C 0 (by decide) (fun hk => absurd hk (by decide))
  · intro c hcc
    by_cases ecc : c = C
    · subst ecc
      exact ⟨fun e => absurd e1 e, fun e => absurd e2 e⟩
    · exact (ag.mi (g := g) (g' := upd g fM_contexts (g fM_contexts + 1)) (Int.le_refl _) hM) c (by omega)
  · show (g fM_contexts + 1).toInt = _
    rw [i32_inc (by omega), hc]
    rfl
theorem tM_sum11b (L : Nat) (xs : Nat → Int32) {m d k : Nat} {x1 : Int32} {g : a2_G} {r : a2_A} {Q : Option Value → a2_G → a2_A → Prop} {X : Nat → a2_G → a2_A → Prop} (h : x1 ≠ 0 ∨ g fM_bad = 1) (hq : Q (some (.int x1)) g r) : wp (BM_sum_11 L xs m d k x1 g r) Q X := by
  unfold BM_sum_11 BM_sum_129
  by_cases e : x1 = 0
  · refine wp_f (by rw [c2_ne, Decidable.not_not]; exact e) ?_
    refine wp_t ?_ hq
    rw [c2_ne, h.resolve_left (fun hh => hh e)]
    decide
  · exact wp_t (by rw [c2_ne]; exact e) hq
theorem tM_sum11 (L : Nat) (xs : Nat → Int32) {m d : Nat} (hm : 4294967296 ≤ m) (hd : 4 ≤ d) {b : Int} {s : Sg} {P : List Nat} (hl : b ≤ 1880) {g0 : a2_G} {r0 : a2_A} (hv0 : 0 ≤ (g0 fM_level).toInt) : ∀ (n k C : Nat) (g : a2_G) (r : a2_A), (g fM_n).toInt < (g fM_at).toInt + n → n < k → SU b s P C g r → Ex g0 r0 g r → (g fM_level).toInt + 1 = (g0 fM_level).toInt + C → (g fM_level).toInt ≤ 40 → wp (BM_sum_11 L xs (m + 1) d k 0 g r) (kSM b s P g0 r0) kN := by
  intro n
  induction n with
  | zero =>
    intro k C g r hn hk hS hE hL h40
    have := hS.1.an hS.2.2.1
    omega
  | succ n ih =>
    intro k C g r hn hk hS hE hL h40
    obtain ⟨h, hM, hb, hc, c1, c2⟩ := hS
    have q := h.q
    obtain ⟨k, rfl⟩ : ∃ e, k = e + 1 := ⟨k - 1, by omega⟩
    have hop : ∀ (hw : Mk g r (g fM_at) 1 = true ∨ Mk g r (g fM_at) 2 = true), wp (BM_sum_117 L xs (m + 1) d (k + 1) 0 g r) (kSM b s P g0 r0) kN := by
      intro hw
      unfold BM_sum_117
      refine wp_v (tM_operandS L xs (by omega) h hb (by omega) hw) (fun _ _ _ hx => hx.elim) ?_
      rintro o g1 r1 ⟨rfl, s1, n1, b1, t1, k1⟩
      refine ⟨_, rfl, ?_⟩
      have ag : sag r r1 C := sag.en n1
      rw [← ag.sfl (P := P)] at k1
      have nn1 := n1.2.1
      have en1 := n1.1.1 fM_n (by decide)
      have cc1 := n1.1.1 fM_contexts (by decide)
      have lv1 := n1.1.1 fM_level (by decide)
      have lt1 := k1.an b1
      have hbu := tM_behindUnit L xs (m := m) (d := d - 1) (by omega) hl C m (g fM_nodes) (g fM_nodes) 0 0 g1 r1 (by omega) c1 c2 (k1.le (by omega)) (ag.mi nn1 hM) b1 (by rw [cc1]; exact hc) ⟨by omega, by omega⟩ (by omega) (by rw [lv1]; omega)
      rw [← BbU, ← qM_behindUnit, show d - 1 + 1 = d by omega] at hbu
      refine wp_v hbu (fun _ _ _ hx => hx.elim) ?_
      rintro o g2 r2 ⟨v, rfl, ⟨e, x1⟩ | ⟨e, x1, x2, C', y1, y2, y3⟩ | ⟨e, x1, x2, x3, x4, x5⟩⟩
      · refine ⟨v, rfl, ?_⟩
        rw [lM_sum_11]
        exact tM_sum11b L xs (Or.inr x1.2.1) ⟨v, rfl, Or.inl ⟨e, (hE.trans n1.x).trans x1.1, x1.2⟩⟩
      · refine ⟨v, rfl, ?_⟩
        subst e
        rw [lM_sum_11]
        have en2 := x1.1.1 fM_n (by decide)
        rw [en1] at en2
        rw [lv1] at y3
        exact ih k C' g2 r2 (by rw [en2]; omega) (by omega) y2 ((hE.trans n1.x).trans x1) (by omega) (by omega)
      · refine ⟨v, rfl, ?_⟩
        rw [lM_sum_11]
        have a2 := x2.2.2
        have a0 := hE.2.2
        rw [lv1] at x5
        exact tM_sum11b L xs (Or.inl (fun e0 => by rw [e0, i32_0] at e; omega)) ⟨v, rfl, Or.inr ⟨e, x1, (hE.trans n1.x).trans x2, x3, by omega, x4, Int32.toInt_inj.mp (by omega)⟩⟩
    unfold BM_sum_11
    refine wp_f (by decide) ?_
    refine wp_f (by rw [c2_ne, Decidable.not_not]; exact hb) ?_
    refine wp_vB (tM_isSign L xs (by omega) _ h h.a0) ?_ (fun f => ?_)
    · refine wp_t (by decide) ?_
      refine wp_v (tM_isKind L xs (by omega) 1 h h.a0) (fun _ _ _ hx => hx.elim) ?_
      rintro o g' r' ⟨v, rfl, rfl | ⟨rfl, f⟩, rfl, rfl⟩
      · refine ⟨0, rfl, ?_⟩
        refine wp_f (by decide) ?_
        refine wp_v (tM_isKind L xs (by omega) 2 h h.a0) (fun _ _ _ hx => hx.elim) ?_
        rintro o g'' r'' ⟨v, rfl, rfl | ⟨rfl, f⟩, rfl, rfl⟩
        · refine ⟨0, rfl, ?_⟩
          refine wp_f (by decide) ?_
          refine wp_vZ (tM_fail L xs (by omega) _ _ h hb q.2.2.2.2.2.1 (h.an hb) (by omega)) (fun g5 r5 h5 => ?_)
          rw [lM_sum_11]
          exact tM_sum11b L xs (Or.inr h5.2.1) ⟨0, rfl, Or.inl ⟨rfl, h5.x hE (by omega)⟩⟩
        · refine ⟨1, rfl, ?_⟩
          refine wp_t (by decide) ?_
          exact hop (Or.inr f)
      · refine ⟨1, rfl, ?_⟩
        refine wp_t (by decide) ?_
        exact hop (Or.inl f)
    · refine wp_f (by decide) ?_
      have flt := Ms_lt f
      have k40 : (40 : Int32).toInt = 40 := rfl
      refine wp_if (fun h4 => ?_) (fun h4 => ?_)
      · rw [c2_ne] at h4
        have h4' : (g fM_level).toInt ≠ 40 := fun e => h4 (Int32.toInt_inj.mp e)
        unfold BM_sum_53
        obtain ⟨w1, w2, w3⟩ := (h.upx fM_level (g fM_level + 1) (by decide) (fun hk => absurd hk (by decide))).ps hb flt
        refine wp_n (tM_context L xs (by omega) w1 (C := C) hc (by omega)) (fun _ _ _ hx => hx.elim) ?_
        rintro o g2 r2 ⟨rfl, k2, rfl, rfl⟩
        refine ⟨rfl, ?_⟩
        rw [lM_sum_11]
        have hl1 : (g fM_level + 1).toInt = (g fM_level).toInt + 1 := i32_inc (by omega)
        refine ih k (C + 1) _ _ ?_ (by omega) (SU.op (w1.le (by omega)) hM hb (by omega) rfl hc) ?_ ?_ ?_
        · show (g fM_n).toInt < (g fM_at + 1).toInt + n
          have w2' : (g fM_at + 1).toInt = (g fM_at).toInt + 1 := w2
          omega
        · exact hE.trans ⟨((((Fm.rf.up (by decide)).up (by decide)).up (by decide)).aw (by decide)).aw (by decide), Int.le_refl _, w3.2.2⟩
        · show (g fM_level + 1).toInt + 1 = _
          omega
        · show (g fM_level + 1).toInt ≤ 40
          omega
      · refine wp_v (tM_failH L xs (by omega) _ _ h hb q.2.2.2.2.2.1 (h.an hb) (by omega)) (fun _ _ _ hx => hx.elim) ?_
        rintro o g2 r2 ⟨rfl, p2, f2, t2, u2⟩
        refine ⟨0, rfl, ?_⟩
        unfold BM_sum_53
        have cc2 := p2.1.1.1 fM_contexts (by decide)
        obtain ⟨w1, w2, w3⟩ := (p2.2.2.upx fM_level (g2 fM_level + 1) (by decide) (fun hk => absurd hk (by decide))).pb p2.2.1 (by show (g2 fM_at).toInt ≤ (g2 fM_failed).toInt + 1; rw [f2, t2]; omega)
        refine wp_n (tM_context L xs (by omega) w1 (C := C) (by show (g2 fM_contexts).toInt = C; rw [cc2]; exact hc) (by omega)) (fun _ _ _ hx => hx.elim) ?_
        rintro o g3 r3 ⟨rfl, k2, rfl, rfl⟩
        refine ⟨rfl, ?_⟩
        rw [lM_sum_11]
        refine tM_sum11b L xs (Or.inr p2.2.1) ⟨0, rfl, Or.inl ⟨rfl, (hE.trans p2.1.x).trans ⟨((((Fm.rf.up (by decide)).up (by decide)).up (by decide)).aw (by decide)).aw (by decide), Int.le_refl _, w3.2.2⟩, p2.2.1, k2.bd⟩⟩
theorem tM_sum (L : Nat) (xs : Nat → Int32) {m d : Nat} (hm : 4294967296 ≤ m) (hd : 5 ≤ d) {b : Int} {s : Sg} {P : List Nat} {g : a2_G} {r : a2_A} (h : Mst b s P g r) (hb : g fM_bad = 0) (hl : b ≤ 1880) (hv0 : 0 ≤ (g fM_level).toInt) (hv : (g fM_level).toInt ≤ 40) : wp (ev L xs (m + 1) d nM_sum [.ref cM] g r) (kSM b s P g r) kN := by
  obtain ⟨d, rfl⟩ : ∃ e, d = e + 1 := ⟨d - 1, by omega⟩
  have q := h.q
  rw [qM_sum]
  have h1 := h.upx fM_contexts 0 (by decide) (fun hk => absurd hk (by decide))
  refine wp_n (tM_context L xs (by omega) h1 (C := 0) rfl (by omega)) (fun _ _ _ hx => hx.elim) ?_
  rintro o g2 r2 ⟨rfl, k2, rfl, rfl⟩
  refine ⟨rfl, ?_⟩
  refine tM_sum11 L xs hm (by omega) hl hv0 1501 m 1 _ _ ?_ (by omega) (SU.op (C := 0) h1 (fun c hc => absurd hc (Nat.not_lt_zero c)) hb (by omega) rfl rfl) ?_ ?_ hv
  · show (g fM_n).toInt < (g fM_at).toInt + (1501 : Nat)
    have := h.a0
    omega
  · exact ⟨(((Fm.rf.up (by decide)).up (by decide)).aw (by decide)).aw (by decide), Int.le_refl _, Int.le_refl _⟩
  · show (g fM_level).toInt + 1 = (g fM_level).toInt + (1 : Nat)
    omega
