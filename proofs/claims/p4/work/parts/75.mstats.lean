/-! The model's statements: the loop over the pile. -/
def PI (g : a2_G) (r : a2_A) (p : Nat) : Prop := (g fM_piled).toInt = p ∧ ∀ i, i < p → Mi g ((r fM_pileNode).2 i) ∧ ((r fM_pileKind).2 i = 0 ↔ i % 2 = 0)
theorem PI.kp {g g' : a2_G} {r r' : a2_A} {p p' : Nat} (h : PI g r p) (hn : (g fM_nodes).toInt ≤ (g' fM_nodes).toInt) (hp : (g' fM_piled).toInt = p') (hle : p' ≤ p) (h1 : r' fM_pileKind = r fM_pileKind) (h2 : r' fM_pileNode = r fM_pileNode) : PI g' r' p' := by
  refine ⟨hp, fun i hi => ?_⟩
  obtain ⟨k1, k2⟩ := h.2 i (by omega)
  rw [h1, h2]
  exact ⟨⟨k1.1, by have := k1.2; omega⟩, k2⟩
theorem PI.pu {g g' : a2_G} {r r' : a2_A} {p : Nat} {k t : Int32} (h : PI g r p) (hn : (g fM_nodes).toInt ≤ (g' fM_nodes).toInt) (hp : (g' fM_piled).toInt = (p : Int) + 1) (h1 : (r' fM_pileKind).2 = upd (r fM_pileKind).2 p k) (h2 : (r' fM_pileNode).2 = upd (r fM_pileNode).2 p t) (ht : Mi g' t) (hk : k = 0 ↔ p % 2 = 0) : PI g' r' (p + 1) := by
  refine ⟨by rw [hp]; rfl, fun i hi => ?_⟩
  rw [h1, h2]
  by_cases e : i = p
  · subst e
    rw [upd_eq, upd_eq]
    exact ⟨ht, hk⟩
  · rw [upd_ne e, upd_ne e]
    obtain ⟨k1, k2⟩ := h.2 i (by omega)
    exact ⟨⟨k1.1, by have := k1.2; omega⟩, k2⟩
def kSS (b B : Int) (s : Sg) (P : List Nat) (g : a2_G) (r : a2_A) : Option Value → a2_G → a2_A → Prop := fun o g' r' => o = none ∧ Ez g r g' r' ∧ (g' fM_bad = 1 ∧ Mst B s [] g' r' ∨ g' fM_bad = 0 ∧ Mst b s P g' r')
theorem Bst (L : Nat) (xs : Nat → Int32) (m d k : Nat) (x1 x2 : Int32) (g : a2_G) (r : a2_A) : BM_statements_16 L xs m d k x1 g r = BM_statements_16_1 L xs m d k x1 x2 g r := rfl
theorem uM_st16b (L : Nat) (xs : Nat → Int32) {m d k : Nat} {x1 x2 : Int32} {g : a2_G} {r : a2_A} {b B : Int} {s : Sg} {P : List Nat} {g0 : a2_G} {r0 : a2_A} (he : Ez g0 r0 g r) (hb : g fM_bad = 1) (hm : Mst B s [] g r) : wp (BM_statements_16_1 L xs m d k x1 x2 g r) (kSS b B s P g0 r0) kN := by
  unfold BM_statements_16_1 BM_statements_136_1
  refine wp_if (fun _ => ⟨rfl, he, Or.inl ⟨hb, hm⟩⟩) (fun _ => ?_)
  exact wp_t (by rw [hb]; decide) ⟨rfl, he, Or.inl ⟨hb, hm⟩⟩
theorem uM_st16 (L : Nat) (xs : Nat → Int32) {m d : Nat} (hm : 4294967296 ≤ m) (hd : 11 ≤ d) {b B : Int} {s : Sg} {P : List Nat} (hB : b + 12 ≤ B) (hB1 : B ≤ 1900) (hB2 : b ≤ 1860) {x1 : Int32} {g0 : a2_G} {r0 : a2_A} : ∀ (N k p e : Nat) (x2 : Int32) (g : a2_G) (r : a2_A), 8 * ((g fM_n).toInt - (g fM_at).toInt) + 2 * p + 3 ≤ (N : Int) + 3 * e → N < k → PI g r p → ((p : Int) = 2 * (g fM_level).toInt + 1 ∨ (p : Int) = 2 * (g fM_level).toInt + 2) → (g fM_level).toInt ≤ 40 → e ≤ 1 → (e = 1 → p % 2 = 1 ∧ (r fM_pilePhase).2 (p - 1) = 0) → Mst (b + e) s P g r → g fM_bad = 0 → Ez g0 r0 g r → wp (BM_statements_16_1 L xs (m + 1) d k x1 x2 g r) (kSS b B s P g0 r0) kN := by
  intro N
  induction N with
  | zero =>
    intro k p e x2 g r hN hk hP hL h40 he1 he h hb hE
    have an := h.an hb
    have p0 : p = 0 := by omega
    subst p0
    unfold BM_statements_16_1 BM_statements_136_1
    refine wp_t (by rw [c2_le, hP.1, i32_0]; exact Int.le_refl _) ?_
    have e0 : e ≠ 1 := fun h1 => by have := (he h1).1; omega
    exact ⟨rfl, hE, Or.inr ⟨hb, h.le (by omega)⟩⟩
  | succ N ih =>
    intro k p e x2 g r hN hk hP hL h40 he1 he h hb hE
    have an := h.an hb
    have q := h.q
    have hp := hP.1
    obtain ⟨k, rfl⟩ : ∃ e, k = e + 1 := ⟨k - 1, by omega⟩
    by_cases p0 : p = 0
    · subst p0
      unfold BM_statements_16_1 BM_statements_136_1
      refine wp_t (by rw [c2_le, hP.1, i32_0]; exact Int.le_refl _) ?_
      have e0 : e ≠ 1 := fun h1 => by have := (he h1).1; omega
      exact ⟨rfl, hE, Or.inr ⟨hb, h.le (by omega)⟩⟩
    · have et : (g fM_piled - 1).toInt = (p : Int) - 1 := by rw [i32_dec (by omega), hp]
      have et' : (g fM_piled - 1).toNatClampNeg = p - 1 := by rw [nc_eq, et]; omega
      obtain ⟨ti, tk⟩ := hP.2 (p - 1) (by omega)
      unfold BM_statements_16_1 BM_statements_133
      simp only [et', lM_statements_16_1]
      refine wp_f (by rw [c2_le, hp, i32_0]; omega) ?_
      refine wp_f (by rw [c2_ne, Decidable.not_not]; exact hb) ?_
      refine wp_in (h.1.1.at 25) (by omega) (by omega) ?_
      refine wp_if (fun hz => ?_) (fun hz => ?_)
      · rw [c2_eq] at hz
        have podd := tk.mp hz
        refine wp_vB (tM_begins L xs (by omega) h h.a0) ?_ (fun f => ?_)
        · refine wp_t (by decide) ?_
          refine wp_in (h.1.1.at 27) (by omega) (by omega) ?_
          refine wp_if (fun hz2 => ?_) (fun hz2 => ?_)
          · rw [c2_ne] at hz2
            have e0 : e = 0 := by
              rcases Nat.eq_zero_or_pos e with h0 | h0
              · exact h0
              · exact absurd (he (by omega)).2 hz2
            subst e0
            have el : (g fM_level - 1).toInt = (g fM_level).toInt - 1 := i32_dec (by omega)
            have k1 := (h.upx fM_piled (g fM_piled - 1) (by decide) (fun hk => absurd hk (by decide))).upx fM_level (g fM_level - 1) (by decide) (fun hk => absurd hk (by decide))
            refine ih k (p - 1) 0 _ _ r ?_ (by omega) (hP.kp (Int.le_refl _) (by show (g fM_piled - 1).toInt = _; omega) (by omega) rfl rfl) ?_ ?_ (by omega) (fun h1 => by omega) (k1.le (by omega)) hb (hE.trans ⟨(Fm.rf.up (by decide)).up (by decide), Int.le_refl _, Int.le_refl _⟩)
            · show 8 * ((g fM_n).toInt - (g fM_at).toInt) + 2 * ((p - 1 : Nat) : Int) + 3 ≤ _
              omega
            · show ((p - 1 : Nat) : Int) = 2 * (g fM_level - 1).toInt + 1 ∨ ((p - 1 : Nat) : Int) = 2 * (g fM_level - 1).toInt + 2
              omega
            · show (g fM_level - 1).toInt ≤ 40
              omega
          · refine wp_vZ (tM_fail L xs (by omega) _ _ h hb q.2.2.2.2.2.1 (h.an hb) (by omega)) (fun g5 r5 h5 => ?_)
            exact uM_st16b L xs (hE.trans h5.1.x.z) h5.2.1 (h5.2.2.bd.le (by omega))
        · refine wp_f (by decide) ?_
          refine wp_in (h.1.1.at 27) (by omega) (by omega) ?_
          refine wp_in (h.1.1.at 26) (by omega) (by omega) ?_
          have m1 := h.awx fM_pilePhase (p - 1) 1 (by decide) (fun hk => absurd hk (by decide))
          have hE1 : Ez g0 r0 g (aw r fM_pilePhase (p - 1) 1) := hE.trans ⟨Fm.rf.aw (by decide), Int.le_refl _, Int.le_refl _⟩
          refine wp_n (uM_statement L xs hm (by omega) (b := b - 2) (m1.le (by omega)) hb f ti (by omega) hB1 (by omega) (by omega) h40 hp (by omega)) (fun _ _ _ hx => hx.elim) ?_
          rintro o g2 r2 ⟨rfl, g1, r1, s1, w1, hcase⟩
          refine ⟨rfl, ?_⟩
          have nn1 := s1.1.2.1
          have en1 := s1.1.1.1 fM_n (by decide)
          have pe1 := s1.1.1.1 fM_piled (by decide)
          have pk1 : r1 fM_pileKind = r fM_pileKind := s1.1.1.2 fM_pileKind (by decide)
          have pn1 : r1 fM_pileNode = r fM_pileNode := s1.1.1.2 fM_pileNode (by decide)
          rcases hcase with ⟨rfl, rfl⟩ | ⟨kk, t, k0, it, rfl, rfl⟩
          · rcases s1.2 with ⟨b1, l1, k1⟩ | ⟨b1, k1⟩
            · have w2 := w1 b1
              have l1' := congrArg Int32.toInt l1
              exact ih k p 0 _ g2 r2 (by rw [en1]; omega) (by omega) (hP.kp nn1 (by rw [pe1]; exact hp) (Nat.le_refl _) pk1 pn1) (by omega) (by omega) (by omega) (fun h1 => by omega) (k1.le (by omega)) b1 (hE1.trans s1.1.z)
            · exact uM_st16b L xs (hE1.trans s1.1.z) b1 k1
          · have i8 : In8 t := ⟨it.1, by have := it.2; have := s1.n8 hB1 (by omega); omega⟩
            have ez : Ez g0 r0 (upd g1 fM_piled (g1 fM_piled + 1)) (aw (aw (aw r1 fM_pileKind p kk) fM_pileNode p t) fM_pilePhase p 0) := (hE1.trans s1.1.z).trans ⟨(((Fm.rf.up (by decide)).aw (by decide)).aw (by decide)).aw (by decide), Int.le_refl _, Int.le_refl _⟩
            have st : ∀ {b1 : Int} {P1 : List Nat}, Mst b1 s P1 g1 r1 → Mst b1 s P1 (upd g1 fM_piled (g1 fM_piled + 1)) (aw (aw (aw r1 fM_pileKind p kk) fM_pileNode p t) fM_pilePhase p 0) := fun k1 => (((k1.upx fM_piled _ (by decide) (fun hk => absurd hk (by decide))).awx fM_pileKind p kk (by decide) (fun hk => absurd hk (by decide))).awx fM_pileNode p t (by decide) (fun _ => i8)).awx fM_pilePhase p 0 (by decide) (fun hk => absurd hk (by decide))
            rcases s1.2 with ⟨b1, l1, k1⟩ | ⟨b1, k1⟩
            · have w2 := w1 b1
              have l1' := congrArg Int32.toInt l1
              have pp1 : (g1 fM_piled + 1).toInt = (p : Int) + 1 := by rw [pe1, i32_inc (by omega), hp]
              refine ih k (p + 1) 0 _ _ _ ?_ (by omega) (hP.pu (k := kk) (t := t) nn1 pp1 ?_ ?_ it ⟨fun e => absurd e k0, fun e => by omega⟩) ?_ ?_ (by omega) (fun h1 => by omega) ((st k1).le (by omega)) b1 ez
              · show 8 * ((g1 fM_n).toInt - (g1 fM_at).toInt) + _ + 3 ≤ _
                rw [en1]
                omega
              · show (aw (aw (aw r1 fM_pileKind p kk) fM_pileNode p t) fM_pilePhase p 0 fM_pileKind).2 = _
                rw [aw_ne (by decide), aw_ne (by decide), aw_eq, pk1]
              · show (aw (aw (aw r1 fM_pileKind p kk) fM_pileNode p t) fM_pilePhase p 0 fM_pileNode).2 = _
                rw [aw_ne (by decide), aw_eq, aw_ne (by decide), pn1]
              · show ((p + 1 : Nat) : Int) = 2 * (g1 fM_level).toInt + 1 ∨ ((p + 1 : Nat) : Int) = 2 * (g1 fM_level).toInt + 2
                omega
              · show (g1 fM_level).toInt ≤ 40
                omega
            · exact uM_st16b L xs ez b1 (st k1)
      · rw [c2_eq] at hz
        have peven : ¬ (p - 1) % 2 = 0 := fun h1 => hz (tk.mpr h1)
        have e0 : e = 0 := by
          rcases Nat.eq_zero_or_pos e with h0 | h0
          · exact h0
          · have := (he (by omega)).1
            omega
        subst e0
        refine wp_in (h.1.1.at 26) (by omega) (by omega) ?_
        refine wp_n (uM_goOn L xs hm (by omega) (b := b) (B := B) (h.le (by omega)) hb ti (by omega) hB1 (by omega) (by omega) h40 hp (by omega) (by omega) et) (fun _ _ _ hx => hx.elim) ?_
        rintro o g2 r2 ⟨rfl, ez, ⟨b2, k2⟩ | ⟨b2, hcase⟩⟩
        · exact ⟨rfl, uM_st16b L xs (hE.trans ez) b2 k2⟩
        · refine ⟨rfl, ?_⟩
          have nn2 := ez.2.1
          have w2 := ez.2.2
          have en2 := ez.1.1 fM_n (by decide)
          rcases hcase with ⟨c1, c2, c3, c4, c5⟩ | ⟨c1, c2, c3, ⟨t, it, c4, c5, c6⟩, c7⟩ | ⟨c1, c2, c3, c4, c5, c6⟩
          · have c2' := congrArg Int32.toInt c2
            exact ih k (p - 1) 0 _ g2 r2 (by rw [en2]; omega) (by omega) (hP.kp nn2 (by rw [c1]; omega) (by omega) c3 c4) (by omega) (by omega) (by omega) (fun h1 => by omega) (c5.le (by omega)) b2 (hE.trans ez)
          · refine ih k (p + 1) 1 _ g2 r2 (by rw [en2]; omega) (by omega) (hP.pu nn2 c1 c4 c5 it ⟨fun _ => by omega, fun _ => rfl⟩) (by omega) (by omega) (by omega) (fun _ => ⟨by omega, c6⟩) (c7.le (by omega)) b2 (hE.trans ez)
          · have c2' := congrArg Int32.toInt c2
            exact ih k p 0 _ g2 r2 (by rw [en2]; omega) (by omega) (hP.kp nn2 (by rw [c1]; exact hp) (Nat.le_refl _) c3 c4) (by omega) (by omega) (by omega) (fun h1 => by omega) (c6.le (by omega)) b2 (hE.trans ez)
theorem uM_statements (L : Nat) (xs : Nat → Int32) {m d : Nat} (hm : 4294967296 ≤ m) (hd : 12 ≤ d) {a : Int32} {b B : Int} {s : Sg} {P : List Nat} {g : a2_G} {r : a2_A} (h : Mst b s P g r) (hb : g fM_bad = 0) (ha : Mi g a) (hB : b + 12 ≤ B) (hB1 : B ≤ 1900) (hB2 : b ≤ 1860) : wp (ev L xs (m + 1) d nM_statements [.ref cM, .int a] g r) (kSS b B s P g r) kN := by
  obtain ⟨d, rfl⟩ : ∃ e, d = e + 1 := ⟨d - 1, by omega⟩
  have q := h.q
  have a1 := ha.1
  have a2 := ha.2
  have i8 : In8 a := ⟨a1, by omega⟩
  rw [qM_statements]
  have h1 := (h.upx fM_piled 0 (by decide) (fun hk => absurd hk (by decide))).upx fM_level 0 (by decide) (fun hk => absurd hk (by decide))
  refine wp_n (tM_pile L xs (by omega) _ _ h1.1.1 (p := 0) rfl (by omega)) (fun _ _ _ hx => hx.elim) ?_
  rintro o g2 r2 ⟨rfl, rfl, rfl⟩
  refine ⟨rfl, ?_⟩
  rw [Bst L xs (m + 1) d m a 0]
  have k1 := (((h1.upx fM_piled 1 (by decide) (fun hk => absurd hk (by decide))).awx fM_pileKind 0 0 (by decide) (fun hk => absurd hk (by decide))).awx fM_pileNode 0 a (by decide) (fun _ => i8)).awx fM_pilePhase 0 0 (by decide) (fun hk => absurd hk (by decide))
  refine uM_st16 L xs hm (by omega) hB hB1 hB2 20000 m 1 1 _ _ _ ?_ (by omega) ⟨rfl, fun i hi => ?_⟩ (Or.inl rfl) (show (0 : Int32).toInt ≤ 40 by decide) (by omega) (fun _ => ⟨rfl, aw_at⟩) (k1.le (by omega)) hb ⟨(((((Fm.rf.up (by decide)).up (by decide)).up (by decide)).aw (by decide)).aw (by decide)).aw (by decide), Int.le_refl _, Int.le_refl _⟩
  · show 8 * ((g fM_n).toInt - (g fM_at).toInt) + 2 * (1 : Nat) + 3 ≤ _
    have := h.a0
    omega
  · have i0 : i = 0 := by omega
    subst i0
    refine ⟨?_, ?_⟩
    · show Mi _ ((aw (aw r fM_pileKind 0 0) fM_pileNode 0 a fM_pileNode).2 0)
      rw [aw_at]
      exact ⟨a1, a2⟩
    · have e : (aw (aw (aw r fM_pileKind 0 0) fM_pileNode 0 a) fM_pilePhase 0 0 fM_pileKind).2 0 = 0 := (aw_at : (aw r fM_pileKind 0 0 fM_pileKind).2 0 = 0)
      exact ⟨fun _ => rfl, fun _ => e⟩
