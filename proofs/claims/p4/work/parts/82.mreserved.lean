/-! The model's clause. -/
def may (x1 x2 : Int32) : Prop := x2.toInt = 0 ∨ x2.toInt = 2 ∧ x1.toInt = 0 ∨ x2.toInt = 3 ∧ x1.toInt = 0 ∨ x2.toInt = 4 ∧ x1.toInt = 1 ∨ x2.toInt = 5 ∧ x1.toInt = 2 ∨ x2.toInt = 12 ∧ 1 ≤ x1.toInt ∧ x1.toInt ≤ 2 ∨ x2.toInt = 13 ∧ x1.toInt = 3 ∨ x2.toInt = 17 ∧ 4 ≤ x1.toInt ∧ x1.toInt ≤ 5 ∨ x2.toInt = 14 ∧ 3 ≤ x1.toInt ∧ x1.toInt ≤ 5 ∨ x2.toInt = 15 ∧ 3 ≤ x1.toInt ∧ x1.toInt ≤ 6 ∨ x2.toInt = 30 ∧ 1 ≤ x1.toInt ∧ x1.toInt ≤ 7 ∨ x2.toInt = 32 ∧ x1.toInt = 8 ∨ x2.toInt = 33 ∧ 0 < x1.toInt
theorem uM_reserved (L : Nat) (xs : Nat → Int32) {m d : Nat} (hm : 4294967296 ≤ m) (hd : 14 ≤ d) (a a2 : Int32) {b B : Int} {s : Sg} {g : a2_G} {r : a2_A} (h : Mst b s [] g r) (hb : g fM_bad = 0) (hs : s.1 = (g fM_at).toInt) (hlt : (g fM_at).toInt < (g fM_n).toInt) (hu : UI s.1 g r) (hi : 0 ≤ a.toInt → ∃ j, In g r j a) (hB : b + 20 ≤ B) (hB1 : B ≤ 1900) (hB2 : b ≤ 1850) : wp (ev L xs (m + 1) d nM_reserved [.ref cM, .int a, .int a2] g r) (kCL b B s (g fM_n)) kN := by
  obtain ⟨d, rfl⟩ : ∃ e, d = e + 1 := ⟨d - 1, by omega⟩
  have sv := Sv.rf (B := B) hb h
  obtain ⟨h1, l1, e1⟩ := sv.ps hb hlt
  have h1 : Sv b B s [] g r (upd g fM_at (g fM_at + 1)) r := h1.le (by omega)
  have f247 : ∀ x4 x5, (x4 ≠ 0 → 8 ≤ a.toInt ∧ a.toInt ≤ 11) → (x4 = 0 → may a a2) → wp (BM_reserved_247 L xs (m + 1) d m a a2 (g fM_at) x4 x5 g r) (kCL b B s (g fM_n)) kN := by
    intro x4 x5 h4 h5
    unfold BM_reserved_247 BM_reserved_344 BM_reserved_355 BM_reserved_446
    refine wp_if (fun hc => ?_) (fun hc => ?_)
    · rw [c2_eq] at hc
      have hM := h5 hc
      unfold may at hM
      refine wp_if (fun h0 => ?_) (fun h0 => ?_)
      · rw [c2_ne] at h0
        have h0' : a2.toInt ≠ 0 := fun e => h0 (Int32.toInt_inj.mp e)
        obtain ⟨j, hj⟩ := hi (by omega)
        refine wp_if (fun e2 => ?_) (fun e2 => ?_)
        · exact wp_if (fun _ => wp_nL (uM_unitNamed L xs (by omega) _ h1 l1 hs hu hj (by omega) hB1 (by omega))) (fun _ => wp_nL (uM_unitNamed L xs (by omega) _ h1 l1 hs hu hj (by omega) hB1 (by omega)))
        refine wp_if (fun e3 => ?_) (fun e3 => ?_)
        · exact wp_if (fun _ => wp_nL (uM_unitNamed L xs (by omega) _ h1 l1 hs hu hj (by omega) hB1 (by omega))) (fun _ => wp_nL (uM_unitNamed L xs (by omega) _ h1 l1 hs hu hj (by omega) hB1 (by omega)))
        refine wp_if (fun e5 => wp_nL (uM_select L xs (by omega) _ h1 l1 hs hu hj (by omega) (by omega) hB1 (by omega))) (fun e5 => ?_)
        refine wp_if (fun e17 => wp_nL (uM_described L xs (by omega) _ h1 l1 hs hu hj (by omega) (by omega) (by omega) hB1 (by omega))) (fun e17 => ?_)
        refine wp_if (fun e30 => wp_nL (uM_begun L xs hm (by omega) _ h1 l1 hs hu hj (by omega) hB1 (by omega))) (fun e30 => ?_)
        refine wp_if (fun e32 => ?_) (fun e32 => ?_)
        · refine wp_vSv (uM_mustBe L xs (by omega) _ h1 (by omega)) (fun g3 r3 b3 h3 l3 => wp_f (by decide) (h3.cb hu b3)) (fun g3 r3 b3 h3 l3 => ?_)
          refine wp_t (by decide) ?_
          have w3 := ((l1.tr l3 (Int.le_refl _)).2.2 b3).2
          have m3 := (h3.gd b3).2
          have q3 := m3.q
          have ui3 := h3.ui hu
          have in3 := hj.kp h3.1.z.1
          refine wp_vK (tM_make L xs (by omega) _ _ _ m3 (by omega)) (fun t g4 r4 et n4 b4 t4 s4 k4 => ?_)
          have F4 := n4.x.z.1
          have ui4 := ui3.kp F4 n4.2.1
          have in4 := in3.kp F4
          have b4 : g4 fM_bad = 0 := b4.trans b3
          have it : Mi g4 t := ⟨by rw [et]; omega, by rw [et]; omega⟩
          have q4 := k4.q
          have i8 : In8 t := ⟨it.1, by have := it.2; omega⟩
          obtain ⟨us4, un4, -⟩ := ui4.st in4
          obtain ⟨u1, u2, u3⟩ := us4.2.2.2.2.1 (by omega) (by omega)
          have k5 := k4.upx fM_declaratives t (by decide) (fun _ => i8)
          have ui5 : UI s.1 (upd g4 fM_declaratives t) r4 := ui4.tw in4 (st' := a) (Int.le_refl _) rfl rfl (Int.le_refl _) rfl rfl (fun _ _ => rfl) in4.2 ⟨us4.1, us4.2.1, us4.2.2.1, us4.2.2.2.1, us4.2.2.2.2.1, fun _ => it⟩
          have in5 : In (upd g4 fM_declaratives t) r4 j a := in4
          refine wp_vP (tM_here L xs (by omega) k5 ui5 in5) (fun v hv => ?_)
          subst hv
          have ir := k5.1.2.1.its j
          refine wp_in (k5.1.1.at 17) ir.1 (by omega) ?_
          refine wp_nH (tM_attach L xs (by omega) (P := []) k5 u1 it (by omega)) (fun g6 r6 n6 b6 t6 k6 => ?_)
          have F6 := n6.x.z.1
          have ui6 := ui5.kp F6 n6.2.1
          have in6 := in5.kp F6
          obtain ⟨us6, -, -⟩ := ui6.st in6
          have t6' : g6 fM_at = g4 fM_at := t6
          refine tM_toE L xs (by omega) (t := s.1) (g0 := g) k6 (by omega) ui6 in6 ((F6.1 fM_n (by decide)).trans ((F4.1 fM_n (by decide)).trans (h3.1.1.1 fM_n (by decide)))) rfl rfl (Int.le_refl _) rfl rfl rfl (b6.trans b4) (by rw [t6', t4]; omega) (by rw [t6', t4]; omega) ?_
          refine ⟨fun e => absurd e (by decide), fun _ e => absurd e (by decide), fun _ e => absurd e (by decide), fun _ e => absurd e (by decide), fun _ _ => us6.2.2.2.2.1 (by omega) (by omega), fun _ => ?_⟩
          rw [F6.1 fM_declaratives (by decide)]
          exact it.mo n6.2.1
        refine wp_if (fun e33 => wp_nL (uM_ended L xs (by omega) _ h1 hb l1 hs hu hj (by omega) hB1 (by omega))) (fun e33 => ?_)
        refine wp_nL (uM_division2 L xs (by omega) _ _ h1 l1 hs hu hj ?_ (by omega) hB1 (by omega))
        have k4 : (4 : Int32).toInt = 4 := rfl
        have k12 : (12 : Int32).toInt = 12 := rfl
        by_cases e4 : a2 = 4
        · have e4' : a2.toInt = 4 := by rw [e4]; rfl
          exact Or.inl ⟨e4, by omega⟩
        · have e4' : a2.toInt ≠ 4 := fun e => e4 (Int32.toInt_inj.mp e)
          by_cases e12 : a2 = 12
          · have e12' : a2.toInt = 12 := by rw [e12]; rfl
            exact Or.inr (Or.inl ⟨e12, by omega⟩)
          · have e12' : a2.toInt ≠ 12 := fun e => e12 (Int32.toInt_inj.mp e)
            exact Or.inr (Or.inr ⟨e4, e12, by omega⟩)
      · exact wp_nL (uM_identified L xs (by omega) _ h hb hs hlt hu (by omega) hB1 (by omega))
    · rw [c2_eq] at hc
      obtain ⟨h8, h11⟩ := h4 hc
      obtain ⟨j, hj⟩ := hi (by omega)
      exact wp_nL (uM_sentence L xs hm (by omega) _ h hb hs hu hj h8 h11 hB hB1 hB2)
  have tc : ∀ {x y : Int32}, ¬ (am_c2 .ne x y = true) → x.toInt = y.toInt := fun hc => by rw [c2_ne, Decidable.not_not] at hc; rw [hc]
  have te : ∀ {x y : Int32}, am_c2 .eq x y = true → x.toInt = y.toInt := fun hc => by rw [c2_eq] at hc; rw [hc]
  have f45 : ∀ x4, (x4 ≠ 0 → 8 ≤ a.toInt ∧ a.toInt ≤ 11) → wp (BM_reserved_45 L xs (m + 1) d m a a2 (g fM_at) x4 g r) (kCL b B s (g fM_n)) kN := by
    intro x4 h4
    have f219 : ∀ x5, may a a2 → wp (BM_reserved_219 L xs (m + 1) d m a a2 (g fM_at) x4 x5 g r) (kCL b B s (g fM_n)) kN := by
      intro x5 hM
      unfold BM_reserved_219 BM_reserved_224
      refine wp_t (by decide) ?_
      exact f247 _ _ h4 (fun _ => hM)
    have f223 : ∀ x5, wp (BM_reserved_223 L xs (m + 1) d m a a2 (g fM_at) x4 x5 g r) (kCL b B s (g fM_n)) kN := by
      intro x5
      unfold BM_reserved_223 BM_reserved_224
      refine wp_f (by decide) ?_
      refine wp_if (fun hc => ?_) (fun _ => ?_)
      · rw [c2_ne] at hc
        exact f247 _ _ h4 (fun e => absurd e hc)
      · refine wp_vF (uM_failH L xs (by omega) _ (b' := b) (P' := []) sv (by omega)) (fun g3 r3 b3 h3 l3 => ?_)
        exact h3.cb hu b3
    have f209 : ∀ x5, wp (BM_reserved_209 L xs (m + 1) d m a a2 (g fM_at) x4 x5 g r) (kCL b B s (g fM_n)) kN := by
      intro x5
      unfold BM_reserved_209
      refine wp_if (fun _ => f223 _) (fun h33 => ?_)
      refine wp_if (fun _ => f223 _) (fun hc => f219 _ ?_)
      rw [c2_le, i32_0] at hc
      have := tc h33
      have k33 : (33 : Int32).toInt = 33 := rfl
      unfold may
      omega
    have f197 : ∀ x5, wp (BM_reserved_197 L xs (m + 1) d m a a2 (g fM_at) x4 x5 g r) (kCL b B s (g fM_n)) kN := by
      intro x5
      unfold BM_reserved_197
      refine wp_if (fun _ => f209 _) (fun h32 => ?_)
      refine wp_if (fun hc => f219 _ ?_) (fun _ => f209 _)
      have h1 := tc h32
      have h2 := te hc
      have k32 : (32 : Int32).toInt = 32 := rfl
      have k8 : (8 : Int32).toInt = 8 := rfl
      unfold may
      omega
    have f181 : ∀ x5, wp (BM_reserved_181 L xs (m + 1) d m a a2 (g fM_at) x4 x5 g r) (kCL b B s (g fM_n)) kN := by
      intro x5
      unfold BM_reserved_181
      refine wp_if (fun _ => f197 _) (fun h30 => ?_)
      refine wp_vB (tM_in L xs (by omega) _ _ _) (wp_f (by decide) (f197 _)) (fun f => wp_t (by decide) (f219 _ ?_))
      have h1 := tc h30
      have k30 : (30 : Int32).toInt = 30 := rfl
      have k1 : (1 : Int32).toInt = 1 := rfl
      have k7 : (7 : Int32).toInt = 7 := rfl
      unfold may
      omega
    have f165 : ∀ x5, wp (BM_reserved_165 L xs (m + 1) d m a a2 (g fM_at) x4 x5 g r) (kCL b B s (g fM_n)) kN := by
      intro x5
      unfold BM_reserved_165
      refine wp_if (fun _ => f181 _) (fun h30 => ?_)
      refine wp_vB (tM_in L xs (by omega) _ _ _) (wp_f (by decide) (f181 _)) (fun f => wp_t (by decide) (f219 _ ?_))
      have h1 := tc h30
      have k30 : (15 : Int32).toInt = 15 := rfl
      have k1 : (3 : Int32).toInt = 3 := rfl
      have k7 : (6 : Int32).toInt = 6 := rfl
      unfold may
      omega
    have f150 : ∀ x5, wp (BM_reserved_150 L xs (m + 1) d m a a2 (g fM_at) x4 x5 g r) (kCL b B s (g fM_n)) kN := by
      intro x5
      unfold BM_reserved_150
      refine wp_if (fun _ => f165 _) (fun h30 => ?_)
      refine wp_vB (tM_in L xs (by omega) _ _ _) (wp_f (by decide) (f165 _)) (fun f => wp_t (by decide) (f219 _ ?_))
      have h1 := tc h30
      have k30 : (14 : Int32).toInt = 14 := rfl
      have k1 : (3 : Int32).toInt = 3 := rfl
      have k7 : (5 : Int32).toInt = 5 := rfl
      unfold may
      omega
    have f128 : ∀ x5, (x5 ≠ 0 → may a a2) → wp (BM_reserved_128 L xs (m + 1) d m a a2 (g fM_at) x4 x5 g r) (kCL b B s (g fM_n)) kN := by
      intro x5 hx5
      unfold BM_reserved_128
      refine wp_if (fun hc => f219 _ (hx5 (by rw [c2_ne] at hc; exact hc))) (fun _ => ?_)
      refine wp_if (fun _ => f150 _) (fun h30 => ?_)
      refine wp_vB (tM_in L xs (by omega) _ _ _) (wp_f (by decide) (f150 _)) (fun f => wp_t (by decide) (f219 _ ?_))
      have h1 := tc h30
      have k30 : (17 : Int32).toInt = 17 := rfl
      have k1 : (4 : Int32).toInt = 4 := rfl
      have k7 : (5 : Int32).toInt = 5 := rfl
      unfold may
      omega
    have f123 : may a a2 → wp (BM_reserved_123 L xs (m + 1) d m a a2 (g fM_at) x4 g r) (kCL b B s (g fM_n)) kN := fun hM => f128 1 (fun _ => hM)
    have f127 : wp (BM_reserved_127 L xs (m + 1) d m a a2 (g fM_at) x4 g r) (kCL b B s (g fM_n)) kN := f128 0 (fun e => absurd rfl e)
    have f112 : wp (BM_reserved_112 L xs (m + 1) d m a a2 (g fM_at) x4 g r) (kCL b B s (g fM_n)) kN := by
      unfold BM_reserved_112
      refine wp_if (fun _ => f127) (fun h13 => ?_)
      refine wp_if (fun _ => f127) (fun hc => f123 ?_)
      have h1 := tc h13
      have h2 := tc hc
      have k13 : (13 : Int32).toInt = 13 := rfl
      have k3 : (3 : Int32).toInt = 3 := rfl
      unfold may
      omega
    have f97 : wp (BM_reserved_97 L xs (m + 1) d m a a2 (g fM_at) x4 g r) (kCL b B s (g fM_n)) kN := by
      unfold BM_reserved_97
      refine wp_if (fun _ => f112) (fun h30 => ?_)
      refine wp_vB (tM_in L xs (by omega) _ _ _) (wp_f (by decide) f112) (fun f => wp_t (by decide) (f123 ?_))
      have h1 := tc h30
      have k30 : (12 : Int32).toInt = 12 := rfl
      have k1 : (1 : Int32).toInt = 1 := rfl
      have k7 : (2 : Int32).toInt = 2 := rfl
      unfold may
      omega
    have f87 : wp (BM_reserved_87 L xs (m + 1) d m a a2 (g fM_at) x4 g r) (kCL b B s (g fM_n)) kN := by
      unfold BM_reserved_87
      refine wp_if (fun _ => f97) (fun h5 => ?_)
      refine wp_if (fun hc => f123 ?_) (fun _ => f97)
      have h1 := tc h5
      have h2 := te hc
      have k13 : (5 : Int32).toInt = 5 := rfl
      have k3 : (2 : Int32).toInt = 2 := rfl
      unfold may
      omega
    have f77 : wp (BM_reserved_77 L xs (m + 1) d m a a2 (g fM_at) x4 g r) (kCL b B s (g fM_n)) kN := by
      unfold BM_reserved_77
      refine wp_if (fun _ => f87) (fun h5 => ?_)
      refine wp_if (fun hc => f123 ?_) (fun _ => f87)
      have h1 := tc h5
      have h2 := te hc
      have k13 : (4 : Int32).toInt = 4 := rfl
      have k3 : (1 : Int32).toInt = 1 := rfl
      unfold may
      omega
    have f60 : wp (BM_reserved_60 L xs (m + 1) d m a a2 (g fM_at) x4 g r) (kCL b B s (g fM_n)) kN := by
      unfold BM_reserved_60
      refine wp_if (fun _ => f77) (fun h5 => ?_)
      refine wp_if (fun _ => f77) (fun hc => ?_)
      refine wp_if (fun _ => f123 ?_) (fun _ => f77)
      have h1 := tc h5
      have h2 := tc hc
      have k13 : (3 : Int32).toInt = 3 := rfl
      have k3 : (0 : Int32).toInt = 0 := rfl
      unfold may
      omega
    unfold BM_reserved_45
    refine wp_if (fun hc => f123 ?_) (fun _ => ?_)
    · have h2 := te hc
      have k3 : (0 : Int32).toInt = 0 := rfl
      unfold may
      omega
    · refine wp_if (fun _ => f60) (fun h5 => ?_)
      refine wp_if (fun hc => f123 ?_) (fun _ => f60)
      have h1 := tc h5
      have h2 := te hc
      have k13 : (2 : Int32).toInt = 2 := rfl
      have k3 : (0 : Int32).toInt = 0 := rfl
      unfold may
      omega
  have f44 : wp (BM_reserved_44 L xs (m + 1) d m a a2 (g fM_at) g r) (kCL b B s (g fM_n)) kN := f45 0 (fun e => absurd rfl e)
  rw [qM_reserved]
  refine wp_vB (tM_begins L xs (by omega) h h.a0) (wp_t (by decide) f44) (fun _ => ?_)
  refine wp_f (by decide) ?_
  refine wp_vB (tM_in L xs (by omega) _ _ _) (wp_t (by decide) f44) (fun f => ?_)
  refine wp_f (by decide) ?_
  have f40 : wp (BM_reserved_40 L xs (m + 1) d m a a2 (g fM_at) g r) (kCL b B s (g fM_n)) kN := f45 1 (fun _ => f)
  refine wp_if (fun _ => f40) (fun _ => ?_)
  exact wp_if (fun _ => f44) (fun _ => f40)
theorem uM_clause (L : Nat) (xs : Nat → Int32) {m d : Nat} (hm : 4294967296 ≤ m) (hd : 15 ≤ d) {b B : Int} {s : Sg} {g : a2_G} {r : a2_A} (h : Mst b s [] g r) (hb : g fM_bad = 0) (hs : s.1 = (g fM_at).toInt) (hlt : (g fM_at).toInt < (g fM_n).toInt) (hu : UI s.1 g r) (hB : b + 20 ≤ B) (hB1 : B ≤ 1900) (hB2 : b ≤ 1850) : wp (ev L xs (m + 1) d nM_clause [.ref cM] g r) (kCL b B s (g fM_n)) kN := by
  obtain ⟨d, rfl⟩ : ∃ e, d = e + 1 := ⟨d - 1, by omega⟩
  have q := h.q
  have w1 := h.W.1
  have w2 := h.W.2
  have sv := Sv.rf (B := B) hb h
  have o1 := hu.1
  have f22 : ∀ x1, (0 ≤ x1.toInt → ∃ j, In g r j x1) → wp (BM_clause_22 L xs (m + 1) d m x1 g r) (kCL b B s (g fM_n)) kN := by
    intro x1 hi
    have f85 : wp (BM_clause_85 L xs (m + 1) d m x1 g r) (kCL b B s (g fM_n)) kN := by
      unfold BM_clause_85 BM_clause_124
      refine wp_in rfl h.a0 (by omega) ?_
      refine wp_if (fun _ => ?_) (fun _ => ?_)
      · refine wp_in rfl h.a0 (by omega) ?_
        exact wp_nL (uM_reserved L xs hm (by omega) _ _ h hb hs hlt hu hi hB hB1 hB2)
      · refine wp_vF (uM_failH L xs (by omega) _ (b' := b) (P' := []) sv (by omega)) (fun g3 r3 b3 h3 l3 => ?_)
        exact h3.cb hu b3
    have k8 : (8 : Int32).toInt = 8 := rfl
    have k11 : (11 : Int32).toInt = 11 := rfl
    have k5 : (5 : Int32).toInt = 5 := rfl
    have k7 : (7 : Int32).toInt = 7 := rfl
    have f53 : wp (BM_clause_53 L xs (m + 1) d m x1 g r) (kCL b B s (g fM_n)) kN := by
      unfold BM_clause_53 BM_clause_124
      refine wp_in rfl h.a0 (by omega) ?_
      refine wp_if (fun _ => f85) (fun _ => ?_)
      refine wp_vB (tM_in L xs (by omega) _ _ _) (wp_t (by decide) f85) (fun f => ?_)
      refine wp_f (by decide) ?_
      obtain ⟨j, hj⟩ := hi (by omega)
      exact wp_nL (uM_named L xs (by omega) _ h hb hs hlt hu hj (by omega) (by omega) (by omega) hB1 (by omega))
    unfold BM_clause_22 BM_clause_124
    refine wp_in rfl h.a0 (by omega) ?_
    refine wp_if (fun _ => f53) (fun _ => ?_)
    refine wp_vB (tM_in L xs (by omega) _ _ _) (wp_t (by decide) f53) (fun f => ?_)
    refine wp_f (by decide) ?_
    obtain ⟨j, hj⟩ := hi (by omega)
    exact wp_nL (uM_item L xs hm (by omega) h hb hs hlt hu hj (by omega) (by omega) (by omega) hB1 (by omega))
  rw [qM_clause]
  refine wp_if (fun hc => ?_) (fun _ => f22 _ (fun e => absurd e (by decide)))
  rw [c2_ne] at hc
  have onz : (g fM_open).toInt ≠ 0 := fun e => hc (Int32.toInt_inj.mp e)
  have eo : (g fM_open - 1).toInt = (g fM_open).toInt - 1 := i32_dec (by omega)
  refine wp_in (h.1.1.at 18) (by omega) (by omega) ?_
  refine f22 _ (fun _ => ⟨((g fM_open).toInt - 1).toNat, by omega, ?_⟩)
  rw [nc_eq, eo]
