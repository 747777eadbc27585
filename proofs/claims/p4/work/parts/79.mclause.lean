/-! The model's clauses, I. -/
theorem MR.its {r : a2_A} (h : MR r) (i : Nat) : 0 ≤ ((r fM_its).2 i).toInt ∧ ((r fM_its).2 i).toInt < 600 := h.2 i
theorem Mst.m0 {b : Int} {s : Sg} {P : List Nat} {g : a2_G} {r : a2_A} (h : Mst b s P g r) : Mi g 0 := ⟨Int.le_refl 0, by have := h.q; rw [i32_0]; omega⟩
/-- to, at the end of a clause -/
theorem tM_toE (L : Nat) (xs : Nat → Int32) {m d : Nat} (hd : 1 ≤ d) {a : Int32} {b b' B t : Int} {s : Sg} {g0 g g1 : a2_G} {r r1 : a2_A} {j : Nat} {st : Int32} {n : Int32} (h : Mst b s [] g1 r1) (hb' : b ≤ b') (hu : UI t g r) (hi : In g r j st) (e0 : g1 fM_n = n) (e1 : g1 fM_open = g fM_open) (e2 : g1 fM_units = g fM_units) (e3 : (g fM_nodes).toInt ≤ (g1 fM_nodes).toInt) (e4 : r1 fM_its = r fM_its) (e5 : r1 fM_unitNode = r fM_unitNode) (e6 : r1 fM_state = r fM_state) (hb : g1 fM_bad = 0) (ht : t ≤ (g1 fM_at).toInt) (hs : s.1 < (g1 fM_at).toInt) (hus : US g1 r1 a ((r fM_its).2 j).toInt.toNat) : wp (fn_n (ev L xs (m + 1) d nM_to [.ref cM, .int a] g1 r1) fun g r => some (.inl none, g, r)) (kCL b' B s n) kN := by
  have o := hu.1
  refine wp_n (tM_to L xs hd a (t := t) h (j := j) (by rw [e1]; omega) (by rw [e1]; exact hi.1)) (fun _ _ _ hx => hx.elim) ?_
  rintro o g2 r2 ⟨rfl, rfl, rfl⟩
  refine ⟨rfl, rfl, e0, Or.inr ⟨hb, (h.awx fM_state j a (by decide) (fun hk => absurd hk (by decide))).le hb', ?_, hs⟩⟩
  refine hu.tw hi ht e1 e2 e3 e4 e5 (fun i hij => ?_) ?_ hus
  · rw [aw_nt hij, e6]
  · exact aw_at
theorem uM_select (L : Nat) (xs : Nat → Int32) {m d : Nat} (hd : 6 ≤ d) (a : Int32) {b B : Int} {s : Sg} {g0 g : a2_G} {r0 r : a2_A} {j : Nat} {st : Int32} (h : Sv b B s [] g0 r0 g r) (hl : Lk 1 g0 g) (hs : s.1 = (g0 fM_at).toInt) (hu : UI s.1 g0 r0) (hi : In g0 r0 j st) (h2 : st.toInt = 2) (hB : b + 8 ≤ B) (hB1 : B ≤ 1900) (hB2 : b ≤ 1860) : wp (ev L xs (m + 1) d nM_select [.ref cM, .int a] g r) (kCL b B s (g0 fM_n)) kN := by
  obtain ⟨d, rfl⟩ : ∃ e, d = e + 1 := ⟨d - 1, by omega⟩
  have w0 := hl.2.1
  rw [qM_select]
  refine wp_vSv (uM_mustBe L xs (by omega) _ h (by omega)) (fun g1 r1 b1 h1 l1 => wp_f (by decide) (h1.cb hu b1)) (fun g1 r1 b1 h1 l1 => ?_)
  refine wp_t (by decide) ?_
  have hl1 := hl.tr l1 (Int.le_refl _)
  have q1 := h1.q b1
  have w1 := (hl1.2.2 b1).2
  have hat0 : 0 ≤ (g0 fM_at).toInt := by
    have := (h1.gd b1).2.q
    omega
  refine wp_vP (uM_passed L xs (by omega) h1 b1 (by omega)) (fun v _ => ?_)
  have m1 := (h1.gd b1).2
  refine wp_vK (tM_make L xs (by omega) _ _ _ m1 (by omega)) (fun t g2 r2 et n2 b2 t2 s2 k2 => ?_)
  have q2 := m1.q
  have b2 : g2 fM_bad = 0 := b2.trans b1
  have h2' : Sv (b - 3) B s [t.toInt.toNat] g0 r0 g2 r2 := h1.en b1 n2 b2 (k2.le (by omega))
  have it : Mi g2 t := ⟨by rw [et]; omega, by rw [et]; omega⟩
  have hl2 : Lk 1 g0 g2 := hl1.tr (q := 0) ⟨n2.2.1, n2.2.2, fun _ => ⟨b1, by rw [t2]; omega⟩⟩ (by omega)
  have f233 : ∀ x3 x4 x5 g3 r3, Sv (b - 3) B s [t.toInt.toNat] g0 r0 g3 r3 → Lk 1 g0 g3 → Mi g3 t → wp (BM_select_233_1 L xs (m + 1) d m a t x3 x4 x5 g3 r3) (kCL b B s (g0 fM_n)) kN := by
    intro x3 x4 x5 g3 r3 h3 l3 i3
    unfold BM_select_233_1 BM_select_255_1
    refine wp_vSv (uM_mustBe L xs (by omega) _ h3 (by omega)) (fun g4 r4 b4 h4 l4 => wp_t (by decide) (h4.cb hu b4)) (fun g4 r4 b4 h4 l4 => ?_)
    refine wp_f (by decide) ?_
    have m4 := (h4.gd b4).2
    have q4 := m4.q
    have ui4 := h4.ui hu
    have in4 := hi.kp h4.1.z.1
    obtain ⟨us4, -, -⟩ := ui4.st in4
    refine wp_vP (tM_here L xs (by omega) m4 ui4 in4) (fun v hv => ?_)
    subst hv
    have ir := m4.1.2.1.its j
    refine wp_in (m4.1.1.at 15) ir.1 (by omega) ?_
    refine wp_nH (tM_attach L xs (by omega) m4 (us4.1 h2) (l4.mi i3) (by omega)) (fun g5 r5 n5 b5 t5 k5 => ?_)
    have w4 := ((l3.tr l4 (Int.le_refl _)).2.2 b4).2
    exact ⟨rfl, (n5.1.1 fM_n (by decide)).trans (h4.1.1.1 fM_n (by decide)), Or.inr ⟨b5.trans b4, k5.le (by omega), (ui4.kp n5.x.z.1 n5.2.1).le (by rw [t5]; omega), by rw [t5]; omega⟩⟩
  have f190 : ∀ x3 x4 x5 g3 r3, Sv (b - 3) B s [t.toInt.toNat] g0 r0 g3 r3 → Lk 1 g0 g3 → Mi g3 t → wp (BM_select_190_1 L xs (m + 1) d m a t x3 x4 x5 g3 r3) (kCL b B s (g0 fM_n)) kN := by
    intro x3 x4 x5 g3 r3 h3 l3 i3
    unfold BM_select_190_1
    refine wp_vSm (uM_meets L xs (by omega) _ h3) (wp_t (by decide) (f233 _ _ _ _ _ h3 l3 i3)) (fun g4 r4 b4 h4 l4 => ?_)
    refine wp_f (by decide) ?_
    have l34 := l3.tr l4 (Int.le_refl _)
    have fm : ∀ v68 g5 r5, Sv (b - 7) B s [t.toInt.toNat] g0 r0 g5 r5 → Lk 1 g0 g5 → Mi g5 t → wp (fn_v (ev L xs (m + 1) d nM_mustBe [.ref cM, .int 1] g5 r5) fun v71 g69 r70 => (if am_c2 .eq v71 0 = true then (BM_select_233_1 L xs (m + 1) d m a t v68 (g3 fM_at) x5 g69 r70) else (fn_v (ev L xs (m + 1) d nM_passed [.ref cM] g69 r70) fun v74 g72 r73 => (fn_n (ev L xs (m + 1) d nM_child4 [.ref cM, .int t, .int 6, .int v74, .int (g3 fM_at)] g72 r73) fun g75 r76 => (BM_select_233_1 L xs (m + 1) d m a t v68 (g3 fM_at) x5 g75 r76))))) (kCL b B s (g0 fM_n)) kN := by
      intro v68 g5 r5 h5 l5 i5
      refine wp_vSv (uM_mustBe L xs (by omega) _ h5 (by omega)) (fun g6 r6 b6 h6 l6 => wp_t (by decide) (f233 _ _ _ _ _ (h6.le (by omega)) (l5.tr l6 (by omega)) (l6.mi i5))) (fun g6 r6 b6 h6 l6 => ?_)
      refine wp_f (by decide) ?_
      have w6 := ((l5.tr l6 (Int.le_refl _)).2.2 b6).2
      refine wp_vP (uM_passed L xs (by omega) h6 b6 (by omega)) (fun v _ => ?_)
      refine wp_nC (uM_child4 L xs (by omega) _ _ _ h6 b6 (l6.mi i5) (by omega)) (fun g7 r7 b7 e7 h7 l7 => ?_)
      exact f233 _ _ _ _ _ (h7.le (by omega)) (((l5.tr l6 (Int.le_refl _)).tr l7 (Int.le_refl _)).le (by omega)) (l7.mi (l6.mi i5))
    exact wp_vSm (uM_meets L xs (by omega) _ h4) (fm _ _ _ (h4.le (by omega)) (l34.le (by omega)) (l4.mi i3)) (fun g5 r5 b5 h5 l5 => fm _ _ _ (h5.le (by omega)) ((l34.tr l5 (Int.le_refl _)).le (by omega)) (l5.mi (l4.mi i3)))
  have f190' : ∀ x3 x4 g3 r3, Sv (b - 3) B s [t.toInt.toNat] g0 r0 g3 r3 → Lk 1 g0 g3 → Mi g3 t → wp (BM_select_190 L xs (m + 1) d m a t x3 x4 g3 r3) (kCL b B s (g0 fM_n)) kN := fun x3 x4 g3 r3 h3 l3 i3 => f190 x3 x4 0 g3 r3 h3 l3 i3
  have f72 : ∀ x3 g3 r3, Sv (b - 3) B s [t.toInt.toNat] g0 r0 g3 r3 → Lk 1 g0 g3 → Mi g3 t → wp (BM_select_72 L xs (m + 1) d m a t x3 g3 r3) (kCL b B s (g0 fM_n)) kN := by
    intro x3 g3 r3 h3 l3 i3
    unfold BM_select_72
    refine wp_nS (uM_operandOf L xs (by omega) h3 i3 (by omega) (by omega)) (fun g4 r4 h4 l4 => ?_)
    have l34 := l3.tr l4 (Int.le_refl _)
    refine wp_vSm (uM_meets L xs (by omega) _ h4) (wp_t (by decide) (f190' _ _ _ _ (h4.le (by omega)) (l34.le (by omega)) (l4.mi i3))) (fun g5 r5 b5 h5 l5 => ?_)
    refine wp_f (by decide) ?_
    have l35 := l34.tr l5 (Int.le_refl _)
    have i5 := l5.mi (l4.mi i3)
    have fk : ∀ v48 g6 r6, Sv (b - 6) B s [t.toInt.toNat] g0 r0 g6 r6 → g6 fM_bad = 0 → Lk 1 g0 g6 → Mi g6 t → wp (fn_v (ev L xs (m + 1) d nM_isKind [.ref cM, .int (g6 fM_at), .int 0] g6 r6) fun v51 g49 r50 => (if am_c2 .eq v51 0 = true then (BM_select_134 L xs (m + 1) d m a t v48 (g4 fM_at) g49 r50) else (if am_inr (g49 fM_at) (r50 fM_values).1 = true then (fn_v (ev L xs (m + 1) d nM_in [.int ((r50 fM_values).2 ((g49 fM_at) : Int32).toNatClampNeg), .int 8, .int 10] g49 r50) fun v81 g79 r80 => (if am_c2 .eq v81 0 = true then (BM_select_134 L xs (m + 1) d m a t v48 (g4 fM_at) g79 r80) else (BM_select_135 L xs (m + 1) d m a t v48 (g4 fM_at) 1 g79 r80))) else none))) (kCL b B s (g0 fM_n)) kN := by
      intro v48 g6 r6 h6 b6 l6 i6
      have m6 := (h6.gd b6).2
      have wv := m6.W.2
      have f134 : wp (BM_select_134 L xs (m + 1) d m a t v48 (g4 fM_at) g6 r6) (kCL b B s (g0 fM_n)) kN := by
        unfold BM_select_134 BM_select_135 BM_select_162
        refine wp_t (by decide) ?_
        refine wp_t (by decide) ?_
        refine wp_vF (uM_failH L xs (by omega) _ (b' := b - 3) (P' := [t.toInt.toNat]) h6 (by omega)) (fun g7 r7 b7 h7 l7 => ?_)
        exact f190 _ _ _ _ _ h7 (l6.tr l7 (by omega)) (l7.mi i6)
      refine wp_vB (tM_isKind L xs (by omega) _ m6 m6.a0) (wp_t (by decide) f134) (fun f => ?_)
      have flt := Mk_lt f
      refine wp_f (by decide) ?_
      refine wp_in rfl m6.a0 (by omega) ?_
      refine wp_vB (tM_in L xs (by omega) _ _ _) (wp_t (by decide) f134) (fun f2 => ?_)
      refine wp_f (by decide) ?_
      unfold BM_select_135
      refine wp_f (by decide) ?_
      refine wp_in rfl m6.a0 (by omega) ?_
      refine wp_nC (uM_child4 L xs (by omega) _ _ _ h6 b6 i6 (by omega)) (fun g7 r7 b7 e7 h7 l7 => ?_)
      unfold BM_select_162
      refine wp_f (by decide) ?_
      have en7 := (h7.1.1.1 fM_n (by decide)).trans (h6.1.1.1 fM_n (by decide)).symm
      obtain ⟨h8, l8, -⟩ := h7.ps b7 (by rw [e7, en7]; exact flt)
      exact f190 _ _ _ _ _ (h8.le (by omega)) (((l6.tr l7 (Int.le_refl _)).tr l8 (Int.le_refl _)).le (by omega)) (l8.mi (l7.mi i6))
    exact wp_vSm (uM_meets L xs (by omega) _ h5) (fk _ _ _ (h5.le (by omega)) b5 (l35.le (by omega)) i5) (fun g6 r6 b6 h6 l6 => fk _ _ _ (h6.le (by omega)) b6 ((l35.tr l6 (Int.le_refl _)).le (by omega)) (l6.mi i5))
  refine wp_vSv (uM_must L xs (by omega) _ h2' (by omega)) (fun g3 r3 b3 h3 l3 => wp_f (by decide) (h3.cb hu b3)) (fun g3 r3 b3 h3 l3 => ?_)
  refine wp_t (by decide) ?_
  have l23 := hl2.tr l3 (Int.le_refl _)
  have fk : ∀ v15 g4 r4, Sv (b - 3) B s [t.toInt.toNat] g0 r0 g4 r4 → g4 fM_bad = 0 → Lk 1 g0 g4 → Mi g4 t → wp (fn_v (ev L xs (m + 1) d nM_isKind [.ref cM, .int (g4 fM_at), .int 1] g4 r4) fun v18 g16 r17 => (if am_c2 .ne v18 0 = true then (BM_select_72 L xs (m + 1) d m a t v15 g16 r17) else (fn_v (ev L xs (m + 1) d nM_isKind [.ref cM, .int (g16 fM_at), .int 3] g16 r17) fun v84 g82 r83 => (if am_c2 .ne v84 0 = true then (BM_select_72 L xs (m + 1) d m a t v15 g82 r83) else (fn_v (ev L xs (m + 1) d nM_fail [.ref cM, .int 1, .int (g82 fM_at)] g82 r83) fun v87 g85 r86 => (some (.inl none, g85, r86))))))) (kCL b B s (g0 fM_n)) kN := by
    intro v15 g4 r4 h4 b4 l4 i4
    have m4 := (h4.gd b4).2
    refine wp_vB (tM_isKind L xs (by omega) _ m4 m4.a0) ?_ (fun f => wp_t (by decide) (f72 _ _ _ h4 l4 i4))
    refine wp_f (by decide) ?_
    refine wp_vB (tM_isKind L xs (by omega) _ m4 m4.a0) ?_ (fun f => wp_t (by decide) (f72 _ _ _ h4 l4 i4))
    refine wp_f (by decide) ?_
    refine wp_vF (uM_failH L xs (by omega) _ (b' := b) (P' := []) h4 (by omega)) (fun g5 r5 b5 h5 l5 => ?_)
    exact h5.cb hu b5
  exact wp_vSm (uM_meets L xs (by omega) _ h3) (fk _ _ _ (h3.le (by omega)) b3 (l23.le (by omega)) (l3.mi it)) (fun g4 r4 b4 h4 l4 => fk _ _ _ (h4.le (by omega)) b4 ((l23.tr l4 (Int.le_refl _)).le (by omega)) (l4.mi (l3.mi it)))
theorem uM_described (L : Nat) (xs : Nat → Int32) {m d : Nat} (hd : 5 ≤ d) (a : Int32) {b B : Int} {s : Sg} {g0 g : a2_G} {r0 r : a2_A} {j : Nat} {st : Int32} (h : Sv b B s [] g0 r0 g r) (hl : Lk 1 g0 g) (hs : s.1 = (g0 fM_at).toInt) (hu : UI s.1 g0 r0) (hi : In g0 r0 j st) (h4 : 4 ≤ st.toInt) (h5 : st.toInt ≤ 5) (hB : b + 8 ≤ B) (hB1 : B ≤ 1900) (hB2 : b ≤ 1860) : wp (ev L xs (m + 1) d nM_described [.ref cM, .int a] g r) (kCL b B s (g0 fM_n)) kN := by
  obtain ⟨d, rfl⟩ : ∃ e, d = e + 1 := ⟨d - 1, by omega⟩
  have w0 := hl.2.1
  rw [qM_described]
  refine wp_vSv (uM_mustBe L xs (by omega) _ h (by omega)) (fun g1 r1 b1 h1 l1 => wp_f (by decide) (h1.cb hu b1)) (fun g1 r1 b1 h1 l1 => ?_)
  refine wp_t (by decide) ?_
  have hl1 := hl.tr l1 (Int.le_refl _)
  have q1 := h1.q b1
  have w1 := (hl1.2.2 b1).2
  have m1 := (h1.gd b1).2
  have q2 := m1.q
  refine wp_vP (uM_passed L xs (by omega) h1 b1 (by omega)) (fun v _ => ?_)
  refine wp_vK (tM_make L xs (by omega) _ _ _ m1 (by omega)) (fun t g2 r2 et n2 b2 t2 s2 k2 => ?_)
  have b2 : g2 fM_bad = 0 := b2.trans b1
  have h2' : Sv (b - 3) B s [t.toInt.toNat] g0 r0 g2 r2 := h1.en b1 n2 b2 (k2.le (by omega))
  have it : Mi g2 t := ⟨by rw [et]; omega, by rw [et]; omega⟩
  have hl2 : Lk 1 g0 g2 := hl1.tr (q := 0) ⟨n2.2.1, n2.2.2, fun _ => ⟨b1, by rw [t2]; omega⟩⟩ (by omega)
  refine wp_vSv (uM_mustBe L xs (by omega) _ h2' (by omega)) (fun g3 r3 b3 h3 l3 => wp_f (by decide) (h3.cb hu b3)) (fun g3 r3 b3 h3 l3 => ?_)
  refine wp_t (by decide) ?_
  have m3 := (h3.gd b3).2
  have q3 := m3.q
  have ui3 := h3.ui hu
  have in3 := hi.kp h3.1.z.1
  obtain ⟨us3, -, -⟩ := ui3.st in3
  have w3 := ((hl2.tr l3 (Int.le_refl _)).2.2 b3).2
  have i3 := l3.mi it
  refine wp_nH (tM_attach L xs (by omega) m3 (us3.2.2.1 h4 h5) i3 (by omega)) (fun g5 r5 n5 b5 t5 k5 => ?_)
  have i8 : In8 t := ⟨i3.1, by have := i3.2; omega⟩
  have F := n5.x.z.1
  have k6 := ((k5.upx fM_holder t (by decide) (fun _ => i8)).upx fM_items 0 (by decide) (fun hk => absurd hk (by decide))).upx fM_latest 0 (by decide) (fun _ => in8_0)
  have mo : ∀ {x : Int32}, Mi g3 x → Mi (upd (upd (upd g5 fM_holder t) fM_items 0) fM_latest 0) x := fun hx => ⟨hx.1, by show _ < (g5 fM_nodes).toInt; have := hx.2; have := n5.2.1; omega⟩
  refine tM_toE L xs (by omega) (t := s.1) (g0 := g0) k6 (by omega) ui3 in3 ((F.1 fM_n (by decide)).trans (h3.1.1.1 fM_n (by decide))) (F.1 fM_open (by decide)) (F.1 fM_units (by decide)) n5.2.1 (F.2 fM_its (by decide)) (F.2 fM_unitNode (by decide)) (F.2 fM_state (by decide)) (b5.trans b3) (by show s.1 ≤ (g5 fM_at).toInt; rw [t5]; omega) (by show s.1 < (g5 fM_at).toInt; rw [t5]; omega) ?_
  have e5 : (5 : Int32).toInt = 5 := rfl
  refine ⟨fun e => absurd e (by decide), fun _ _ => ?_, fun _ _ => ?_, fun _ _ => ⟨mo i3, k6.m0, Int.le_refl 0, (by show (0 : Int32).toInt ≤ 49; decide), fun i hi' => ?_⟩, fun e _ => absurd e (by decide), fun e => absurd e (by decide)⟩
  · show Mi _ ((r5 fM_data).2 _)
    rw [F.2 fM_data (by decide)]
    exact mo (us3.2.1 (by omega) (by omega))
  · show Mi _ (g5 fM_files)
    rw [F.1 fM_files (by decide)]
    exact mo (us3.2.2.1 h4 h5)
  · have : (i : Int) < (0 : Int32).toInt := hi'
    rw [i32_0] at this
    omega
theorem uM_begun (L : Nat) (xs : Nat → Int32) {m d : Nat} (hm : 4294967296 ≤ m) (hd : 6 ≤ d) (a : Int32) {b B : Int} {s : Sg} {g0 g : a2_G} {r0 r : a2_A} {j : Nat} {st : Int32} (h : Sv b B s [] g0 r0 g r) (hl : Lk 1 g0 g) (hs : s.1 = (g0 fM_at).toInt) (hu : UI s.1 g0 r0) (hi : In g0 r0 j st) (hB : b + 8 ≤ B) (hB1 : B ≤ 1900) (hB2 : b ≤ 1860) : wp (ev L xs (m + 1) d nM_begun [.ref cM, .int a] g r) (kCL b B s (g0 fM_n)) kN := by
  obtain ⟨d, rfl⟩ : ∃ e, d = e + 1 := ⟨d - 1, by omega⟩
  rw [qM_begun]
  refine wp_vSv (uM_must L xs (by omega) _ h (by omega)) (fun g1 r1 b1 h1 l1 => wp_f (by decide) (h1.cb hu b1)) (fun g1 r1 b1 h1 l1 => ?_)
  refine wp_t (by decide) ?_
  have hl1 := hl.tr l1 (Int.le_refl _)
  have m1 := (h1.gd b1).2
  have q2 := m1.q
  refine wp_vK (tM_make L xs (by omega) _ _ _ m1 (by omega)) (fun t g2 r2 et n2 b2 t2 s2 k2 => ?_)
  have b2 : g2 fM_bad = 0 := b2.trans b1
  have h2' : Sv (b - 3) B s [t.toInt.toNat] g0 r0 g2 r2 := h1.en b1 n2 b2 (k2.le (by omega))
  have it : Mi g2 t := ⟨by rw [et]; omega, by rw [et]; omega⟩
  have hl2 : Lk 1 g0 g2 := hl1.tr (q := 0) ⟨n2.2.1, n2.2.2, fun _ => ⟨b1, by rw [t2]; omega⟩⟩ (by omega)
  have f34 : ∀ g3 r3, Sv (b - 3) B s [t.toInt.toNat] g0 r0 g3 r3 → Lk 1 g0 g3 → Mi g3 t → wp (BM_begun_34 L xs (m + 1) d m a t g3 r3) (kCL b B s (g0 fM_n)) kN := by
    intro g3 r3 h3 l3 i3
    unfold BM_begun_34
    refine wp_vSv (uM_mustBe L xs (by omega) _ h3 (by omega)) (fun g4 r4 b4 h4 l4 => wp_f (by decide) (h4.cb hu b4)) (fun g4 r4 b4 h4 l4 => ?_)
    refine wp_t (by decide) ?_
    have m4 := (h4.gd b4).2
    have q4 := m4.q
    have ui4 := h4.ui hu
    have in4 := hi.kp h4.1.z.1
    obtain ⟨us4, un4, -⟩ := ui4.st in4
    have i4 := l4.mi i3
    have i8 : In8 t := ⟨i4.1, by have := i4.2; omega⟩
    refine wp_vP (tM_here L xs (by omega) m4 ui4 in4) (fun v hv => ?_)
    subst hv
    have ir := m4.1.2.1.its j
    refine wp_in (m4.1.1.at 14) ir.1 (by omega) ?_
    refine wp_nH (tM_attach L xs (by omega) m4 un4 i4 (by omega)) (fun g5 r5 n5 b5 t5 k5 => ?_)
    have F := n5.x.z.1
    have ui5 := ui4.kp F n5.2.1
    have in5 := in4.kp F
    refine wp_vP (tM_here L xs (by omega) k5 ui5 in5) (fun v hv => ?_)
    subst hv
    have ir5 := k5.1.2.1.its j
    refine wp_in (k5.1.1.at 17) ir5.1 (by omega) ?_
    have w4 := ((l3.tr l4 (Int.le_refl _)).2.2 b4).2
    have k6 := (((k5.upx fM_section 0 (by decide) (fun _ => in8_0)).upx fM_paragraph 0 (by decide) (fun _ => in8_0)).upx fM_declaratives 0 (by decide) (fun _ => in8_0)).awx fM_procedure ((r5 fM_its).2 j).toNatClampNeg t (by decide) (fun _ => i8)
    refine tM_toE L xs (by omega) (t := s.1) (g0 := g0) k6 (by omega) ui5 in5 ((F.1 fM_n (by decide)).trans (h4.1.1.1 fM_n (by decide))) rfl rfl (Int.le_refl _) rfl rfl rfl (b5.trans b4) (by show s.1 ≤ (g5 fM_at).toInt; rw [t5]; omega) (by show s.1 < (g5 fM_at).toInt; rw [t5]; omega) ?_
    refine ⟨fun e => absurd e (by decide), fun _ e => absurd e (by decide), fun _ e => absurd e (by decide), fun _ e => absurd e (by decide), fun _ _ => ⟨?_, k6.m0, k6.m0⟩, fun e => absurd e (by decide)⟩
    show Mi _ ((aw r5 fM_procedure ((r5 fM_its).2 j).toInt.toNat t fM_procedure).2 ((r5 fM_its).2 j).toInt.toNat)
    rw [aw_at]
    exact ⟨i4.1, by show _ < (g5 fM_nodes).toInt; have := i4.2; have := n5.2.1; omega⟩
  refine wp_vSm (uM_meets L xs (by omega) _ h2') (wp_t (by decide) (f34 _ _ h2' hl2 it)) (fun g3 r3 b3 h3 l3 => ?_)
  refine wp_f (by decide) ?_
  refine wp_nS (uM_names L xs hm (by omega) _ h3 (l3.mi it) (by omega) (by omega)) (fun g4 r4 h4 l4 => ?_)
  exact f34 _ _ (h4.le (by omega)) (((hl2.tr l3 (Int.le_refl _)).tr l4 (Int.le_refl _)).le (by omega)) (l4.mi (l3.mi it))
