/-! The model's clauses, II. -/
theorem uM_sentence (L : Nat) (xs : Nat → Int32) {m d : Nat} (hm : 4294967296 ≤ m) (hd : 13 ≤ d) (a : Int32) {b B : Int} {s : Sg} {g : a2_G} {r : a2_A} {j : Nat} (h : Mst b s [] g r) (hb : g fM_bad = 0) (hs : s.1 = (g fM_at).toInt) (hu : UI s.1 g r) (hi : In g r j a) (h8 : 8 ≤ a.toInt) (h11 : a.toInt ≤ 11) (hB : b + 20 ≤ B) (hB1 : B ≤ 1900) (hB2 : b ≤ 1850) : wp (ev L xs (m + 1) d nM_sentence [.ref cM, .int a] g r) (kCL b B s (g fM_n)) kN := by
  obtain ⟨d, rfl⟩ : ∃ e, d = e + 1 := ⟨d - 1, by omega⟩
  have q := h.q
  rw [qM_sentence]
  refine wp_vK (tM_make L xs (by omega) _ _ _ h (by omega)) (fun t g2 r2 et n2 b2 t2 s2 k2 => ?_)
  have b2 : g2 fM_bad = 0 := b2.trans hb
  have it : Mi g2 t := ⟨by rw [et]; omega, by rw [et]; omega⟩
  refine wp_n (uM_statements L xs hm (by omega) (B := B) k2 b2 it (by omega) hB1 (by omega)) (fun _ _ _ hx => hx.elim) ?_
  rintro o g3 r3 ⟨rfl, ez, hcase⟩
  refine ⟨rfl, ?_⟩
  have F3 := n2.x.z.trans ez
  have ui3 := hu.kp F3.1 F3.2.1
  have in3 := hi.kp F3.1
  have en3 : g3 fM_n = g fM_n := F3.1.1 fM_n (by decide)
  have w3 := F3.2.2
  have sv : Sv (b + 1) B s [t.toInt.toNat] g3 r3 g3 r3 := hcase.elim (fun e => Sv.rb e.1 e.2) (fun e => Sv.rf e.1 e.2)
  rw [← en3]
  refine wp_vSv (uM_mustBe L xs (by omega) _ sv (by omega)) (fun g4 r4 b4 h4 l4 => wp_f (by decide) (h4.cb ui3 b4)) (fun g4 r4 b4 h4 l4 => ?_)
  refine wp_t (by decide) ?_
  have m4 := (h4.gd b4).2
  have q4 := m4.q
  have ui4 := h4.ui ui3
  have in4 := in3.kp h4.1.z.1
  obtain ⟨us4, un4, -⟩ := ui4.st in4
  obtain ⟨u1, u2, u3⟩ := us4.2.2.2.2.1 h8 h11
  have w4 := (l4.2.2 b4).2
  have i4 : Mi g4 t := l4.mi ⟨it.1, by have := it.2; have := ez.2.1; omega⟩
  have f64 : ∀ x3, Mi g4 x3 → wp (BM_sentence_64 L xs (m + 1) d m a t x3 g4 r4) (kCL b B s (g3 fM_n)) kN := by
    intro x3 hx3
    unfold BM_sentence_64 BM_sentence_80
    refine wp_nH (tM_attach L xs (by omega) m4 hx3 i4 (by omega)) (fun g5 r5 n5 b5 t5 k5 => ?_)
    have F := n5.x.z.1
    have ui5 := ui4.kp F n5.2.1
    have in5 := in4.kp F
    refine wp_if (fun _ => ?_) (fun _ => ?_)
    · exact ⟨rfl, (F.1 fM_n (by decide)).trans (h4.1.1.1 fM_n (by decide)), Or.inr ⟨b5.trans b4, k5.le (by omega), ui5.le (by rw [t5]; omega), by rw [t5]; omega⟩⟩
    · refine tM_toE L xs (by omega) (t := s.1) (g0 := g) k5 (by omega) ui5 in5 ((F.1 fM_n (by decide)).trans (h4.1.1.1 fM_n (by decide))) rfl rfl (Int.le_refl _) rfl rfl rfl (b5.trans b4) (by rw [t5]; omega) (by rw [t5]; omega) ?_
      have us5 := (ui5.st in5).1
      exact ⟨fun e => absurd e (by decide), fun _ e => absurd e (by decide), fun _ e => absurd e (by decide), fun _ e => absurd e (by decide), fun _ _ => us5.2.2.2.2.1 h8 h11, fun e => absurd e (by decide)⟩
  refine wp_if (fun _ => ?_) (fun _ => f64 _ u3)
  refine wp_if (fun _ => ?_) (fun _ => f64 _ u2)
  refine wp_vP (tM_here L xs (by omega) m4 ui4 in4) (fun v hv => ?_)
  subst hv
  have ir := m4.1.2.1.its j
  refine wp_in (m4.1.1.at 17) ir.1 (by omega) ?_
  exact f64 _ u1
theorem i32_2 : (2 : Int32).toInt = 2 := rfl
theorem Mst.ps2 {b : Int} {s : Sg} {P : List Nat} {g : a2_G} {r : a2_A} (h : Mst b s P g r) (hb : g fM_bad = 0) (hl : (g fM_at).toInt + 1 < (g fM_n).toInt) : Mst (b - 8) s P (upd g fM_at (g fM_at + 2)) r ∧ (g fM_at + 2).toInt = (g fM_at).toInt + 2 ∧ En g r (upd g fM_at (g fM_at + 2)) r := by
  have q := h.q
  have e : (g fM_at + 2).toInt = (g fM_at).toInt + 2 := ad_eq (by rw [i32_2]; omega) (by rw [i32_2]; omega)
  refine ⟨⟨⟨h.1.1, h.1.2.1, h.1.2.2.1.up _ _ (fun hk => absurd hk (by decide)), h.1.2.2.2⟩, ⟨h.2.1.1, ?_, h.2.1.2.2.1, ?_, Or.inl ⟨hb, ?_⟩⟩, h.2.2⟩, e, ⟨Fm.rf.up (by decide), Int.le_refl _, ?_⟩⟩
  · show s.1 ≤ (g fM_at + 2).toInt
    omega
  · show (g fM_nodes).toInt ≤ 4 * (g fM_at + 2).toInt + (b - 8)
    omega
  · show (g fM_at + 2).toInt ≤ (g fM_n).toInt
    omega
  · show (g fM_at).toInt ≤ (g fM_at + 2).toInt
    omega
theorem uM_named (L : Nat) (xs : Nat → Int32) {m d : Nat} (hd : 6 ≤ d) (a : Int32) {b B : Int} {s : Sg} {g : a2_G} {r : a2_A} {j : Nat} (h : Mst b s [] g r) (hb : g fM_bad = 0) (hs : s.1 = (g fM_at).toInt) (hlt : (g fM_at).toInt < (g fM_n).toInt) (hu : UI s.1 g r) (hi : In g r j a) (h8 : 8 ≤ a.toInt) (h11 : a.toInt ≤ 11) (hB : b + 8 ≤ B) (hB1 : B ≤ 1900) (hB2 : b ≤ 1860) : wp (ev L xs (m + 1) d nM_named [.ref cM, .int a] g r) (kCL b B s (g fM_n)) kN := by
  obtain ⟨d, rfl⟩ : ∃ e, d = e + 1 := ⟨d - 1, by omega⟩
  have q := h.q
  have wv := h.W.2
  have sv := Sv.rf (B := B) hb h
  have ein := i32_inc (x := g fM_at) (by omega)
  have i9 : (9 : Int32).toInt = 9 := rfl
  have f85 : ∀ x3 g2 r2, Sv (b - 8) B s [] g r g2 r2 → g2 fM_bad = 0 → (g fM_at).toInt + 2 ≤ (g2 fM_at).toInt → wp (BM_named_85 L xs (m + 1) d m a (g fM_at) x3 g2 r2) (kCL b B s (g fM_n)) kN := by
    intro x3 g2 r2 h2 b2 w2
    have m2 := (h2.gd b2).2
    have q2 := m2.q
    have ui2 := hu.kp h2.1.z.1 h2.1.2.1
    have in2 := hi.kp h2.1.z.1
    have wv2 := m2.W.2
    have ev2 := h2.1.1.2 fM_values (by decide)
    have f97 : ∀ x4, wp (BM_named_97 L xs (m + 1) d m a (g fM_at) x3 x4 g2 r2) (kCL b B s (g fM_n)) kN := by
      intro x4
      unfold BM_named_97
      refine wp_in (m2.1.1.at 1) h.a0 (by omega) ?_
      refine wp_vK (tM_make L xs (by omega) _ _ _ m2 (by omega)) (fun t g3 r3 et n3 b3 t3 s3 k3 => ?_)
      have F3 := n3.x.z.1
      have ui3 := ui2.kp F3 n3.2.1
      have in3 := in2.kp F3
      have it : Mi g3 t := ⟨by rw [et]; omega, by rw [et]; omega⟩
      have q3 := k3.q
      have i8 : In8 t := ⟨it.1, by have := it.2; omega⟩
      obtain ⟨us3, un3, -⟩ := ui3.st in3
      obtain ⟨u1, u2, u3⟩ := us3.2.2.2.2.1 h8 h11
      have ir := k3.1.2.1.its j
      have f173 : ∀ g4 r4, En g3 r3 g4 r4 → g4 fM_bad = g3 fM_bad → g4 fM_at = g3 fM_at → Mst (b - 8 + 1 + 0) s [] g4 r4 → wp (BM_named_173 L xs (m + 1) d m a (g fM_at) x3 t g4 r4) (kCL b B s (g fM_n)) kN := by
        intro g4 r4 n4 b4 t4 k4
        have F := n4.x.z.1
        have ui4 := ui3.kp F n4.2.1
        have in4 := in3.kp F
        obtain ⟨us4, -, -⟩ := ui4.st in4
        obtain ⟨v1, v2, v3⟩ := us4.2.2.2.2.1 h8 h11
        have it4 : Mi g4 t := it.mo n4.2.1
        have hb4 : g4 fM_bad = 0 := (b4.trans b3).trans b2
        have at4 : (g4 fM_at).toInt = (g2 fM_at).toInt := by rw [t4, t3]
        have nn4 : g4 fM_n = g fM_n := ((n4.1.1 fM_n (by decide)).trans (n3.1.1 fM_n (by decide))).trans (h2.1.1.1 fM_n (by decide))
        have f201 : ∀ x6 x5, Mi g4 x6 → In8 x6 → Mi g4 x5 → In8 x5 → wp (BM_named_201 L xs (m + 1) d m a (g fM_at) x3 t x5 (upd g4 fM_section x6) r4) (kCL b B s (g fM_n)) kN := by
          intro x6 x5 hx6 h6 hx5 h5
          have k5 := (k4.upx fM_section x6 (by decide) (fun _ => h6)).upx fM_paragraph x5 (by decide) (fun _ => h5)
          have usn : ∀ st' : Int32, 8 ≤ st'.toInt → st'.toInt ≤ 11 → (st'.toInt = 9 → a.toInt = 9) → US (upd (upd g4 fM_section x6) fM_paragraph x5) r4 st' ((r4 fM_its).2 j).toInt.toNat := fun st' s1 s2 s9 => ⟨fun e => by omega, fun _ e => by omega, fun _ e => by omega, fun _ e => by omega, fun _ _ => ⟨v1, hx6, hx5⟩, fun e => us4.2.2.2.2.2 (s9 e)⟩
          unfold BM_named_201 BM_named_216
          refine wp_if (fun h9 => ?_) (fun _ => ?_)
          · rw [c2_eq] at h9
            refine ⟨rfl, nn4, Or.inr ⟨hb4, k5.le (by omega), ?_, by show s.1 < (g4 fM_at).toInt; omega⟩⟩
            exact ui4.tw in4 (st' := a) (by show s.1 ≤ (g4 fM_at).toInt; omega) rfl rfl (Int.le_refl _) rfl rfl (fun _ _ => rfl) in4.2 (usn a h8 h11 id)
          · refine tM_toE L xs (by omega) (t := s.1) (g0 := g) k5 (by omega) ui4 in4 nn4 rfl rfl (Int.le_refl _) rfl rfl rfl hb4 (by show s.1 ≤ (g4 fM_at).toInt; omega) (by show s.1 < (g4 fM_at).toInt; omega) (usn 11 (by decide) (by decide) (fun e => absurd e (by decide)))
        have i8s := k4.1.2.2.1.1 fM_section (by decide)
        unfold BM_named_173 BM_named_187
        refine wp_if (fun _ => ?_) (fun _ => ?_)
        · exact wp_if (fun _ => f201 _ _ v2 i8s it4 i8) (fun _ => f201 _ _ v2 i8s k4.m0 in8_0)
        · exact wp_if (fun _ => f201 _ _ it4 i8 it4 i8) (fun _ => f201 _ _ it4 i8 k4.m0 in8_0)
      have f168 : ∀ x5, Mi g3 x5 → wp (BM_named_168 L xs (m + 1) d m a (g fM_at) x3 t x5 g3 r3) (kCL b B s (g fM_n)) kN := by
        intro x5 hx5
        unfold BM_named_168
        exact wp_nH (tM_attach L xs (by omega) k3 hx5 it (by omega)) (fun g4 r4 n4 b4 t4 k4 => f173 _ _ n4 b4 t4 k4)
      have f136 : ∀ x5, Mi g3 x5 → wp (BM_named_136 L xs (m + 1) d m a (g fM_at) x3 t x5 g3 r3) (kCL b B s (g fM_n)) kN := f168
      refine wp_if (fun _ => ?_) (fun _ => ?_)
      · refine wp_if (fun _ => ?_) (fun _ => f168 _ u2)
        refine wp_vP (tM_here L xs (by omega) k3 ui3 in3) (fun v hv => ?_)
        subst hv
        refine wp_in (k3.1.1.at 17) ir.1 (by omega) ?_
        exact f168 _ u1
      · refine wp_if (fun _ => ?_) (fun h9 => ?_)
        · refine wp_vP (tM_here L xs (by omega) k3 ui3 in3) (fun v hv => ?_)
          subst hv
          refine wp_in (k3.1.1.at 17) ir.1 (by omega) ?_
          exact f136 _ u1
        · rw [c2_ne, Decidable.not_not] at h9
          exact f136 _ (us3.2.2.2.2.2 (by rw [h9]; rfl))
    unfold BM_named_85
    exact wp_if (fun _ => f97 _) (fun _ => f97 _)
  have f62 : ∀ x3, (g fM_at).toInt + 1 < (g fM_n).toInt → wp (BM_named_62 L xs (m + 1) d m a (g fM_at) x3 g r) (kCL b B s (g fM_n)) kN := by
    intro x3 hl
    obtain ⟨p1, p2, p3⟩ := h.ps2 hb hl
    have h1 : Sv (b - 8) B s [] g r (upd g fM_at (g fM_at + 2)) r := sv.en hb p3 hb p1
    have p2' : (upd g fM_at (g fM_at + 2) fM_at).toInt = (g fM_at).toInt + 2 := p2
    unfold BM_named_62
    refine wp_if (fun _ => f85 _ _ _ h1 hb (by omega)) (fun _ => ?_)
    refine wp_vSv (uM_mustBe L xs (by omega) _ h1 (by omega)) (fun g4 r4 b4 h4 l4 => wp_f (by decide) (h4.cb hu b4)) (fun g4 r4 b4 h4 l4 => ?_)
    refine wp_t (by decide) ?_
    have w4 := (l4.2.2 b4).2
    exact f85 _ _ _ (h4.le (by omega)) b4 (by omega)
  have f49 : ∀ x3, wp (BM_named_49 L xs (m + 1) d m a (g fM_at) x3 g r) (kCL b B s (g fM_n)) kN := by
    intro x3
    unfold BM_named_49
    refine wp_vF (uM_fail L xs (by omega) _ _ (b' := b) (P' := []) sv (by omega) (fun _ => ⟨by omega, by omega, by omega⟩)) (fun g3 r3 b3 h3 l3 => ?_)
    exact h3.cb hu b3
  rw [qM_named]
  refine wp_vB (tM_isWord L xs (by omega) _ h (by omega)) ?_ (fun f => wp_t (by decide) (f62 _ (by have := Mw_lt f; omega)))
  refine wp_f (by decide) ?_
  refine wp_vB (tM_isKind L xs (by omega) _ h (by omega)) (wp_t (by decide) (f49 _)) (fun f => ?_)
  have flt := Mk_lt f
  refine wp_f (by decide) ?_
  refine wp_if (fun _ => f62 _ (by omega)) (fun _ => ?_)
  exact wp_if (fun _ => f62 _ (by omega)) (fun _ => f49 _)
/-- a fault that leaves the clause good -/
theorem tM_note (L : Nat) (xs : Nat → Int32) {m d : Nat} (hd : 1 ≤ d) (n w : Int32) {b : Int} {s : Sg} {P : List Nat} {g : a2_G} {r : a2_A} (h : Mst b s P g r) (hb : g fM_bad = 0) : wp (ev L xs (m + 1) d nM_note [.ref cM, .int n, .int w] g r) (fun o g' r' => o = none ∧ En g r g' r' ∧ g' fM_bad = g fM_bad ∧ g' fM_at = g fM_at ∧ Mst b s P g' r') kN := by
  obtain ⟨d, rfl⟩ : ∃ e, d = e + 1 := ⟨d - 1, by omega⟩
  have q := h.q
  have F := h.F
  rw [M_note L xs m d F.1 F.2.1 F.2.2.1 F.2.2.2]
  by_cases hf : g fM_faults = 20
  · rw [if_pos hf]
    exact ⟨rfl, En.rf, rfl, rfl, h⟩
  · rw [if_neg hf]
    have hf' : (g fM_faults).toInt ≠ 20 := fun e => hf (Int32.toInt_inj.mp e)
    have e := i32_inc (x := g fM_faults) (by omega)
    refine ⟨rfl, ⟨((Fm.rf.up (by decide)).aw (by decide)).aw (by decide), Int.le_refl _, Int.le_refl _⟩, rfl, rfl, ⟨⟨(h.1.1.aw _ _ _).aw _ _ _, ((h.1.2.1.aw _ _ _ (fun hk => absurd hk (by decide)) (fun hk => absurd hk (by decide))).aw _ _ _ (fun hk => absurd hk (by decide)) (fun hk => absurd hk (by decide))), h.1.2.2.1.up _ _ (fun hk => absurd hk (by decide)), q.1, q.2.1, ?_, ?_⟩, ⟨⟨h.2.1.1.1, (by have q2 := h.2.1.1; show s.2 ≤ (g fM_faults + 1).toInt; omega), h.2.1.1.2.2⟩, h.2.1.2.1, h.2.1.2.2.1, h.2.1.2.2.2.1, Or.inl ⟨hb, h.an hb⟩⟩, h.2.2.eq rfl rfl rfl rfl⟩⟩
    · show 0 ≤ (g fM_faults + 1).toInt
      omega
    · show (g fM_faults + 1).toInt ≤ 20
      omega
theorem UI.cl {t t' : Int} {g : a2_G} {r : a2_A} {j : Nat} {st : Int32} (h : UI t g r) (hi : In g r j st) (ht : t ≤ t') : UI t' (upd g fM_open (g fM_open - 1)) r := by
  obtain ⟨h1, h2, h3, h4⟩ := h
  have o := hi.1
  have e : (upd g fM_open (g fM_open - 1) fM_open).toInt = (j : Int) := by
    show (g fM_open - 1).toInt = _
    rw [i32_dec (by omega)]
    omega
  refine ⟨⟨by omega, by omega, h1.2.2.1, by have := h1.2.2.2; show 3 * (g fM_units).toInt ≤ _; omega⟩, fun i hi' => h2 i (by omega), fun i hi' => h3 i (by omega), fun i hi' => ?_⟩
  have e12 : (12 : Int32).toInt = 12 := rfl
  rw [h3 i (by omega)]
  exact ⟨fun e => by omega, fun _ e => by omega, fun _ e => by omega, fun _ e => by omega, fun _ e => by omega, fun e => by omega⟩
theorem uM_ended (L : Nat) (xs : Nat → Int32) {m d : Nat} (hd : 5 ≤ d) (a : Int32) {b B : Int} {s : Sg} {g0 g : a2_G} {r0 r : a2_A} {j : Nat} (h : Sv b B s [] g0 r0 g r) (hb : g fM_bad = 0) (hl : Lk 1 g0 g) (hs : s.1 = (g0 fM_at).toInt) (hu : UI s.1 g0 r0) (hi : In g0 r0 j a) (hB : b + 8 ≤ B) (hB1 : B ≤ 1900) (hB2 : b ≤ 1860) : wp (ev L xs (m + 1) d nM_ended [.ref cM, .int a] g r) (kCL b B s (g0 fM_n)) kN := by
  obtain ⟨d, rfl⟩ : ∃ e, d = e + 1 := ⟨d - 1, by omega⟩
  have m0 := (h.gd hb).2
  have q := m0.q
  have w0 := (hl.2.2 hb).2
  have ui0 := h.ui hu
  have in0 := hi.kp h.1.z.1
  have o0 := in0.1
  have o1 := ui0.1
  have f67 : ∀ x2, wp (BM_ended_67 L xs (m + 1) d m a x2 g r) (kCL b B s (g0 fM_n)) kN := by
    intro x2
    unfold BM_ended_67
    refine wp_vF (uM_failH L xs (by omega) _ (b' := b) (P' := []) h (by omega)) (fun g3 r3 b3 h3 l3 => ?_)
    exact h3.cb hu b3
  have f78 : ∀ x2, (x2 = 0 → a.toInt = 9) → (g fM_at).toInt < (g fM_n).toInt → wp (BM_ended_78 L xs (m + 1) d m a x2 g r) (kCL b B s (g0 fM_n)) kN := by
    intro x2 hx2 hlt
    obtain ⟨h1, l1, e1⟩ := h.ps hb hlt
    have l01 := hl.tr l1 (Int.le_refl _)
    unfold BM_ended_78 BM_ended_169
    refine wp_if (fun _ => ?_) (fun hc => ?_)
    · refine wp_vSv (uM_mustBe L xs (by omega) _ h1 (by omega)) (fun g2 r2 b2 h2 l2 => wp_f (by decide) (h2.cb hu b2)) (fun g2 r2 b2 h2 l2 => ?_)
      refine wp_t (by decide) ?_
      have w2 := ((l01.tr l2 (Int.le_refl _)).2.2 b2).2
      refine wp_vSv (uM_mustBe L xs (by omega) _ h2 (by omega)) (fun g3 r3 b3 h3 l3 => wp_f (by decide) (h3.cb hu b3)) (fun g3 r3 b3 h3 l3 => ?_)
      refine wp_t (by decide) ?_
      have w3 := (l3.2.2 b3).2
      have m3 := (h3.gd b3).2
      have q2 := (h2.gd b2).2.q
      have an2 := (h2.gd b2).2.an b2
      have ed : (g2 fM_at - 1).toInt = (g2 fM_at).toInt - 1 := i32_dec (by omega)
      have ui3 := h3.ui hu
      have in3 := hi.kp h3.1.z.1
      have o3 := in3.1
      have o4 := ui3.1
      have eo : (g3 fM_open - 1).toInt = j := by rw [i32_dec (by omega)]; omega
      refine wp_in (m3.1.1.at 1) (by omega) (by omega) ?_
      refine wp_in (m3.1.1.at 19) (by omega) (by omega) ?_
      have en3 := h3.1.1.1 fM_n (by decide)
      have ks : ∀ g4 r4, Mst b s [] g4 r4 → Mst b s [] (upd g4 fM_open (g4 fM_open - 1)) r4 := fun g4 r4 k => k.upx fM_open _ (by decide) (fun hk => absurd hk (by decide))
      refine wp_if (fun _ => ?_) (fun _ => ?_)
      · exact ⟨rfl, en3, Or.inr ⟨b3, ks _ _ (m3.le (by omega)), ui3.cl in3 (by show s.1 ≤ (g3 fM_at).toInt; omega), by show s.1 < (g3 fM_at).toInt; omega⟩⟩
      · refine wp_n (tM_note L xs (by omega) _ _ m3 b3) (fun _ _ _ hx => hx.elim) ?_
        rintro o g4 r4 ⟨rfl, n4, b4, t4, k4⟩
        refine ⟨rfl, rfl, (n4.1.1 fM_n (by decide)).trans en3, Or.inr ⟨b4.trans b3, ks _ _ (k4.le (by omega)), (ui3.kp n4.x.z.1 n4.2.1).cl (in3.kp n4.x.z.1) ?_, ?_⟩⟩
        · show s.1 ≤ (g4 fM_at).toInt
          rw [t4]
          omega
        · show s.1 < (g4 fM_at).toInt
          rw [t4]
          omega
    · rw [c2_ne, Decidable.not_not] at hc
      have a9 := hx2 hc
      refine wp_vSv (uM_mustBe L xs (by omega) _ h1 (by omega)) (fun g2 r2 b2 h2 l2 => wp_f (by decide) (h2.cb hu b2)) (fun g2 r2 b2 h2 l2 => ?_)
      refine wp_t (by decide) ?_
      have w2 := ((l01.tr l2 (Int.le_refl _)).2.2 b2).2
      have m2 := (h2.gd b2).2
      have ui2 := h2.ui hu
      have in2 := hi.kp h2.1.z.1
      obtain ⟨us2, -, -⟩ := ui2.st in2
      have k3 := (m2.upx fM_section 0 (by decide) (fun _ => in8_0)).upx fM_paragraph 0 (by decide) (fun _ => in8_0)
      refine tM_toE L xs (by omega) (t := s.1) (g0 := g0) k3 (by omega) ui2 in2 (h2.1.1.1 fM_n (by decide)) rfl rfl (Int.le_refl _) rfl rfl rfl b2 (by show s.1 ≤ (g2 fM_at).toInt; omega) (by show s.1 < (g2 fM_at).toInt; omega) ?_
      exact ⟨fun e => absurd e (by decide), fun _ e => absurd e (by decide), fun _ e => absurd e (by decide), fun _ e => absurd e (by decide), fun _ _ => ⟨(us2.2.2.2.2.1 (by omega) (by omega)).1, k3.m0, k3.m0⟩, fun e => absurd e (by decide)⟩
  have f42 : a.toInt = 9 ∨ a ≠ 9 → wp (BM_ended_42 L xs (m + 1) d m a g r) (kCL b B s (g0 fM_n)) kN := by
    intro h9
    unfold BM_ended_42 BM_ended_43
    refine wp_f (by decide) ?_
    refine wp_if (fun _ => f67 _) (fun hc => ?_)
    rw [c2_ne, Decidable.not_not] at hc
    refine wp_vB (tM_isWord L xs (by omega) _ m0 m0.a0) (wp_f (by decide) (f67 _)) (fun f => ?_)
    exact wp_t (by decide) (f78 _ (fun _ => by rw [hc]; rfl) (Mw_lt f))
  have f32 : ∀ x2, wp (BM_ended_32 L xs (m + 1) d m a x2 (g fM_at) g r) (kCL b B s (g0 fM_n)) kN := by
    intro x2
    unfold BM_ended_32
    refine wp_vB (tM_isWord L xs (by omega) _ m0 m0.a0) (wp_t (by decide) (f42 (by by_cases e : a = 9; exact Or.inl (by rw [e]; rfl); exact Or.inr e))) (fun f => ?_)
    refine wp_f (by decide) ?_
    unfold BM_ended_43
    refine wp_t (by decide) ?_
    exact f78 _ (fun e => absurd e (by decide)) (Mw_lt f)
  have eo : (g fM_open - 1).toInt = j := by rw [i32_dec (by omega)]; omega
  rw [qM_ended]
  refine wp_if (fun hc => ?_) (fun _ => ?_)
  · rw [c2_eq] at hc
    exact f42 (Or.inl (by rw [hc]; rfl))
  · refine wp_in (m0.1.1.at 21) (by omega) (by omega) ?_
    exact wp_if (fun _ => f32 _) (fun _ => f32 _)
