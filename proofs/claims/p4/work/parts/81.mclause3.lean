/-! The model's clauses, III. -/
theorem uM_unitNamed (L : Nat) (xs : Nat → Int32) {m d : Nat} (hd : 5 ≤ d) (a : Int32) {b B : Int} {s : Sg} {g0 g : a2_G} {r0 r : a2_A} {j : Nat} {st : Int32} (h : Sv b B s [] g0 r0 g r) (hl : Lk 1 g0 g) (hs : s.1 = (g0 fM_at).toInt) (hu : UI s.1 g0 r0) (hi : In g0 r0 j st) (hB : b + 8 ≤ B) (hB1 : B ≤ 1900) (hB2 : b ≤ 1860) : wp (ev L xs (m + 1) d nM_unitNamed [.ref cM, .int a] g r) (kCL b B s (g0 fM_n)) kN := by
  obtain ⟨d, rfl⟩ : ∃ e, d = e + 1 := ⟨d - 1, by omega⟩
  rw [qM_unitNamed]
  refine wp_vSv (uM_mustBe L xs (by omega) _ h (by omega)) (fun g1 r1 b1 h1 l1 => wp_f (by decide) (h1.cb hu b1)) (fun g1 r1 b1 h1 l1 => ?_)
  refine wp_t (by decide) ?_
  have l01 := hl.tr l1 (Int.le_refl _)
  have w1 := (l01.2.2 b1).2
  have q1 := (h1.gd b1).2.q
  refine wp_vP (uM_passed L xs (by omega) h1 b1 (by omega)) (fun v _ => ?_)
  refine wp_vSv (uM_mustBe L xs (by omega) _ h1 (by omega)) (fun g2 r2 b2 h2 l2 => wp_f (by decide) (h2.cb hu b2)) (fun g2 r2 b2 h2 l2 => ?_)
  refine wp_t (by decide) ?_
  have w2 := (l2.2.2 b2).2
  have m2 := (h2.gd b2).2
  have q2 := m2.q
  have ui2 := h2.ui hu
  have in2 := hi.kp h2.1.z.1
  obtain ⟨us2, un2, -⟩ := ui2.st in2
  have u1 := un2.1
  have u2 := un2.2
  have ir := m2.1.2.1.its j
  have o2 := in2.1
  have o3 := ui2.1
  have eo : (g2 fM_open - 1).toInt = j := by rw [i32_dec (by omega)]; omega
  have f45 : ∀ x3, wp (BM_unitNamed_45 L xs (m + 1) d m a v x3 ((r2 fM_unitNode).2 ((r2 fM_its).2 j).toNatClampNeg) g2 r2) (kCL b B s (g0 fM_n)) kN := by
    intro x3
    unfold BM_unitNamed_45
    refine wp_in (m2.1.1.at 4) u1 (by show _ < 8000; rw [nc_eq]; omega) ?_
    have k3 := m2.awx fM_kind ((r2 fM_unitNode).2 ((r2 fM_its).2 j).toNatClampNeg).toNatClampNeg x3 (by decide) (fun hk => absurd hk (by decide))
    have ui3 : UI s.1 g2 (aw r2 fM_kind ((r2 fM_unitNode).2 ((r2 fM_its).2 j).toNatClampNeg).toNatClampNeg x3) := ui2.kp (Fm.rf.aw (by decide)) (Int.le_refl _)
    have in3 : In g2 (aw r2 fM_kind ((r2 fM_unitNode).2 ((r2 fM_its).2 j).toNatClampNeg).toNatClampNeg x3) j st := in2.kp (Fm.rf.aw (by decide))
    refine wp_vP (tM_here L xs (by omega) k3 ui3 in3) (fun v2 hv => ?_)
    subst hv
    refine wp_in (k3.1.1.at 14) ir.1 (by show _ < 600; exact ir.2) ?_
    refine wp_in (k3.1.1.at 5) u1 (by show _ < 8000; have := u2; exact Int.lt_of_lt_of_le u2 (by omega)) ?_
    refine wp_in (k3.1.1.at 19) (by omega) (by omega) ?_
    refine wp_in (k3.1.1.at 21) (by omega) (by omega) ?_
    have k4 := ((k3.awx fM_value ((r2 fM_unitNode).2 ((r2 fM_its).2 j).toNatClampNeg).toNatClampNeg v (by decide) (fun hk => absurd hk (by decide))).awx fM_unit (g2 fM_open - 1).toNatClampNeg v (by decide) (fun hk => absurd hk (by decide))).awx fM_function (g2 fM_open - 1).toNatClampNeg (vp_nar .boolean a) (by decide) (fun hk => absurd hk (by decide))
    refine tM_toE L xs (by omega) (t := s.1) (g0 := g0) k4 (by omega) ui3 in3 (h2.1.1.1 fM_n (by decide)) rfl rfl (Int.le_refl _) rfl rfl rfl b2 (by omega) (by omega) ?_
    exact ⟨fun e => absurd e (by decide), fun e => absurd e (by decide), fun e => absurd e (by decide), fun e => absurd e (by decide), fun e => absurd e (by decide), fun e => absurd e (by decide)⟩
  refine wp_vP (tM_here L xs (by omega) m2 ui2 in2) (fun v2 hv => ?_)
  subst hv
  refine wp_in (m2.1.1.at 14) ir.1 (by omega) ?_
  exact wp_if (fun _ => f45 _) (fun _ => f45 _)
theorem Mst.its {b : Int} {s : Sg} {P : List Nat} {g : a2_G} {r : a2_A} (h : Mst b s P g r) (i : Nat) (x : Int32) (hx : 0 ≤ x.toInt ∧ x.toInt < 600) : Mst b s P g (aw r fM_its i x) := ⟨⟨h.1.1.aw _ _ _, h.1.2.1.aw _ _ _ (fun hk => absurd hk (by decide)) (fun _ => hx), h.1.2.2⟩, h.2.1, h.2.2.eq rfl rfl rfl rfl⟩
theorem uM_identified (L : Nat) (xs : Nat → Int32) {m d : Nat} (hd : 6 ≤ d) (a : Int32) {b B : Int} {s : Sg} {g : a2_G} {r : a2_A} (h : Mst b s [] g r) (hb : g fM_bad = 0) (hs : s.1 = (g fM_at).toInt) (hlt : (g fM_at).toInt < (g fM_n).toInt) (hu : UI s.1 g r) (hB : b + 8 ≤ B) (hB1 : B ≤ 1900) (hB2 : b ≤ 1860) : wp (ev L xs (m + 1) d nM_identified [.ref cM, .int a] g r) (kCL b B s (g fM_n)) kN := by
  obtain ⟨d, rfl⟩ : ∃ e, d = e + 1 := ⟨d - 1, by omega⟩
  have q := h.q
  have o1 := hu.1
  have sv := Sv.rf (B := B) hb h
  have f61 : ∀ x2, wp (BM_identified_61 L xs (m + 1) d m a x2 g r) (kCL b B s (g fM_n)) kN := by
    intro x2
    unfold BM_identified_61 BM_identified_71
    refine wp_if (fun _ => ?_) (fun _ => ?_)
    · refine wp_vF (uM_failH L xs (by omega) _ (b' := b) (P' := []) sv (by omega)) (fun g3 r3 b3 h3 l3 => ?_)
      exact h3.cb hu b3
    · refine wp_vF (uM_failH L xs (by omega) _ (b' := b) (P' := []) sv (by omega)) (fun g3 r3 b3 h3 l3 => ?_)
      exact h3.cb hu b3
  have f47 : ∀ x2, wp (BM_identified_47 L xs (m + 1) d m a x2 g r) (kCL b B s (g fM_n)) kN := by
    intro x2
    unfold BM_identified_47
    refine wp_if (fun _ => f61 _) (fun _ => ?_)
    refine wp_if (fun h10 => ?_) (fun _ => f61 _)
    rw [c2_ne] at h10
    have ho10 : (g fM_open).toInt ≠ 10 := fun e => h10 (Int32.toInt_inj.mp e)
    obtain ⟨h1, l1, e1⟩ := sv.ps hb hlt
    unfold BM_identified_111
    refine wp_vSv (uM_must L xs (by omega) _ h1 (by omega)) (fun g2 r2 b2 h2 l2 => wp_t (by decide) (h2.cb hu b2)) (fun g2 r2 b2 h2 l2 => ?_)
    refine wp_f (by decide) ?_
    have l12 := l1.tr l2 (Int.le_refl _)
    refine wp_vSv (uM_mustBe L xs (by omega) _ h2 (by omega)) (fun g3 r3 b3 h3 l3 => wp_f (by decide) (h3.cb hu b3)) (fun g3 r3 b3 h3 l3 => ?_)
    refine wp_t (by decide) ?_
    have w3 := ((l12.tr l3 (Int.le_refl _)).2.2 b3).2
    have m3 := (h3.gd b3).2
    have q3 := m3.q
    have ui3 := h3.ui hu
    refine wp_vK (tM_make L xs (by omega) _ _ _ m3 (by omega)) (fun t g4 r4 et n4 b4 t4 s4 k4 => ?_)
    have F4 := n4.x.z.1
    have ui4 := ui3.kp F4 n4.2.1
    have b4 : g4 fM_bad = 0 := b4.trans b3
    have it : Mi g4 t := ⟨by rw [et]; omega, by rw [et]; omega⟩
    have q4 := k4.q
    have i8 : In8 t := ⟨it.1, by have := it.2; omega⟩
    have at4 : (g4 fM_at).toInt = (g3 fM_at).toInt := by rw [t4]
    have en4 : g4 fM_n = g fM_n := (F4.1 fM_n (by decide)).trans (h3.1.1.1 fM_n (by decide))
    have eo4 : g4 fM_open = g fM_open := (F4.1 fM_open (by decide)).trans (h3.1.1.1 fM_open (by decide))
    have f172 : ∀ g5 r5 (b5' : Int) x3, Mst b5' s [] g5 r5 → b5' ≤ b → g5 fM_n = g fM_n → g5 fM_bad = 0 → g5 fM_at = g4 fM_at → g5 fM_open = g4 fM_open → g5 fM_units = g4 fM_units → (g4 fM_nodes).toInt ≤ (g5 fM_nodes).toInt → r5 fM_its = r4 fM_its → r5 fM_unitNode = r4 fM_unitNode → (∀ i : Nat, (i : Int) < (g4 fM_open).toInt → (r5 fM_state).2 i = 12) → wp (BM_identified_172 L xs (m + 1) d m a x2 x3 t g5 r5) (kCL b B s (g fM_n)) kN := by
      intro g5 r5 b5' x3 k5 hb5' e0 e1 e2 e3 e4 e5 e6 e7 e8
      have o5 := ui4.1
      rw [← e3, ← e4] at o5
      have oi : (g5 fM_open).toInt ≠ 10 := by rw [e3, eo4]; exact ho10
      have ou : (g5 fM_open).toNatClampNeg = (g5 fM_open).toInt.toNat := rfl
      have uu : (g5 fM_units).toNatClampNeg = (g5 fM_units).toInt.toNat := rfl
      have us : (g5 fM_units).toInt < 600 := by omega
      unfold BM_identified_172
      refine wp_in (k5.1.1.at 14) (by omega) (by omega) ?_
      refine wp_in (k5.1.1.at 15) (by omega) (by omega) ?_
      refine wp_in (k5.1.1.at 16) (by omega) (by omega) ?_
      refine wp_in (k5.1.1.at 17) (by omega) (by omega) ?_
      refine wp_in (k5.1.1.at 18) (by omega) (by omega) ?_
      refine wp_in (k5.1.1.at 20) (by omega) (by omega) ?_
      refine wp_in (k5.1.1.at 21) (by omega) (by omega) ?_
      refine wp_in (k5.1.1.at 22) (by omega) (by omega) ?_
      rw [ou, uu]
      have k6 := ((((((((k5.awx fM_unitNode (g5 fM_units).toInt.toNat t (by decide) (fun _ => i8)).awx fM_environment (g5 fM_units).toInt.toNat 0 (by decide) (fun _ => in8_0)).awx fM_data (g5 fM_units).toInt.toNat 0 (by decide) (fun _ => in8_0)).awx fM_procedure (g5 fM_units).toInt.toNat 0 (by decide) (fun _ => in8_0)).awx fM_state (g5 fM_open).toInt.toNat 0 (by decide) (fun hk => absurd hk (by decide))).its (g5 fM_open).toInt.toNat (g5 fM_units) ⟨by omega, us⟩).awx fM_function (g5 fM_open).toInt.toNat (vp_nar .boolean 0) (by decide) (fun hk => absurd hk (by decide))).awx fM_had (g5 fM_open).toInt.toNat (vp_nar .boolean 0) (by decide) (fun hk => absurd hk (by decide)))
      have k7 := (k6.upx fM_open (g5 fM_open + 1) (by decide) (fun hk => absurd hk (by decide))).upx fM_units (g5 fM_units + 1) (by decide) (fun hk => absurd hk (by decide))
      have eo5 : (g5 fM_open + 1).toInt = (g5 fM_open).toInt + 1 := i32_inc (by omega)
      have eu5 : (g5 fM_units + 1).toInt = (g5 fM_units).toInt + 1 := i32_inc (by omega)
      have at5 : (g5 fM_at).toInt = (g3 fM_at).toInt := by rw [e2]; exact at4
      refine ⟨rfl, e0, Or.inr ⟨e1, k7.le hb5', ⟨?_, ?_, ?_, ?_⟩, by show s.1 < (g5 fM_at).toInt; omega⟩⟩
      · show 0 ≤ (g5 fM_open + 1).toInt ∧ (g5 fM_open + 1).toInt ≤ 10 ∧ 0 ≤ (g5 fM_units + 1).toInt ∧ 3 * (g5 fM_units + 1).toInt ≤ (g5 fM_at).toInt
        omega
      · intro i hi'
        have hi2 : (i : Int) < (g5 fM_open + 1).toInt := hi'
        show ((aw r5 fM_its (g5 fM_open).toInt.toNat (g5 fM_units) fM_its).2 i).toInt < (g5 fM_units + 1).toInt ∧ Mi g5 ((aw r5 fM_unitNode (g5 fM_units).toInt.toNat t fM_unitNode).2 ((aw r5 fM_its (g5 fM_open).toInt.toNat (g5 fM_units) fM_its).2 i).toInt.toNat)
        by_cases ei : i = (g5 fM_open).toInt.toNat
        · subst ei
          rw [aw_at, aw_at]
          exact ⟨by omega, it.mo e5⟩
        · rw [aw_nt ei]
          obtain ⟨z1, z2⟩ := ui4.2.1 i (by rw [← e3]; omega)
          rw [← e6, ← e4] at z1
          rw [← e6, ← e7] at z2
          have z3 := k5.1.2.1.its i
          rw [aw_nt (by omega)]
          exact ⟨by omega, z2.mo e5⟩
      · intro i hi'
        have hi2 : (i : Int) + 1 < (g5 fM_open + 1).toInt := hi'
        show (aw r5 fM_state (g5 fM_open).toInt.toNat 0 fM_state).2 i = 12
        rw [aw_nt (by omega)]
        exact e8 i (by rw [← e3]; omega)
      · intro i hi'
        have hi2 : (i : Int) + 1 = (g5 fM_open + 1).toInt := hi'
        have ei : i = (g5 fM_open).toInt.toNat := by omega
        show US _ _ ((aw r5 fM_state (g5 fM_open).toInt.toNat 0 fM_state).2 i) _
        rw [ei, aw_at]
        exact ⟨fun e => absurd e (by decide), fun e => absurd e (by decide), fun e => absurd e (by decide), fun e => absurd e (by decide), fun e => absurd e (by decide), fun e => absurd e (by decide)⟩
    have f142 : ∀ x3 x5, Mi g4 x5 → wp (BM_identified_142 L xs (m + 1) d m a x2 x3 t x5 g4 r4) (kCL b B s (g fM_n)) kN := by
      intro x3 x5 hx5
      unfold BM_identified_142
      refine wp_nH (tM_attach L xs (by omega) k4 hx5 it (by omega)) (fun g5 r5 n5 b5 t5 k5 => ?_)
      have F5 := n5.x.z.1
      have ui5 := ui4.kp F5 n5.2.1
      have o5 := ui5.1
      have e3 := F5.1 fM_open (by decide)
      refine wp_if (fun hc => ?_) (fun hc => ?_)
      · rw [c2_le, i32_0] at hc
        exact f172 g5 r5 _ _ k5 (by omega) ((F5.1 fM_n (by decide)).trans en4) (b5.trans b4) t5 e3 (F5.1 fM_units (by decide)) n5.2.1 (F5.2 fM_its (by decide)) (F5.2 fM_unitNode (by decide)) (fun i hi' => by rw [← e3] at hi'; omega)
      · rw [c2_le, i32_0] at hc
        have oj : (g5 fM_open).toInt = (((g5 fM_open).toInt - 1).toNat : Int) + 1 := by omega
        refine wp_n (tM_to L xs (by omega) 12 (t := s.1) k5 (j := ((g5 fM_open).toInt - 1).toNat) ⟨o5.1, o5.2.1⟩ oj) (fun _ _ _ hx => hx.elim) ?_
        rintro o g6 r6 ⟨rfl, rfl, rfl⟩
        refine ⟨rfl, ?_⟩
        have k6 := k5.awx fM_state ((g6 fM_open).toInt - 1).toNat 12 (by decide) (fun hk => absurd hk (by decide))
        have eo6 : (g6 fM_open - 1).toInt = (g6 fM_open).toInt - 1 := i32_dec (by omega)
        refine wp_in (k6.1.1.at 22) (by omega) (by omega) ?_
        have k7 := k6.awx fM_had (g6 fM_open - 1).toNatClampNeg (vp_nar .boolean 1) (by decide) (fun hk => absurd hk (by decide))
        refine f172 g6 _ _ _ k7 (by omega) ((F5.1 fM_n (by decide)).trans en4) (b5.trans b4) t5 e3 (F5.1 fM_units (by decide)) n5.2.1 (F5.2 fM_its (by decide)) (F5.2 fM_unitNode (by decide)) (fun i hi' => ?_)
        rw [← e3] at hi'
        show (aw r5 fM_state ((g6 fM_open).toInt - 1).toNat 12 fM_state).2 i = 12
        by_cases ei : i = ((g6 fM_open).toInt - 1).toNat
        · rw [ei, aw_at]
        · rw [aw_nt ei]
          exact ui5.2.2.1 i (by omega)
    refine wp_if (fun hc => ?_) (fun _ => f142 _ _ k4.m0)
    rw [c2_ne] at hc
    have o4 := ui4.1
    have onz : (g4 fM_open).toInt ≠ 0 := fun e => hc (Int32.toInt_inj.mp e)
    have in4 : In g4 r4 ((g4 fM_open).toInt - 1).toNat ((r4 fM_state).2 ((g4 fM_open).toInt - 1).toNat) := ⟨by omega, rfl⟩
    refine wp_vP (tM_here L xs (by omega) k4 ui4 in4) (fun v hv => ?_)
    subst hv
    have ir := k4.1.2.1.its ((g4 fM_open).toInt - 1).toNat
    refine wp_in (k4.1.1.at 14) ir.1 (by omega) ?_
    exact f142 _ _ (ui4.st in4).2.1
  rw [qM_identified]
  refine wp_if (fun _ => f47 _) (fun hc => ?_)
  rw [c2_eq] at hc
  have onz : (g fM_open).toInt ≠ 0 := fun e => hc (Int32.toInt_inj.mp e)
  have eo : (g fM_open - 1).toInt = (g fM_open).toInt - 1 := i32_dec (by omega)
  refine wp_in (h.1.1.at 21) (by omega) (by omega) ?_
  refine wp_if (fun _ => f47 _) (fun _ => ?_)
  refine wp_vB (tM_in L xs (by omega) _ _ _) ?_ (fun f => wp_t (by decide) (f47 _))
  refine wp_f (by decide) ?_
  exact wp_vB (tM_in L xs (by omega) _ _ _) (wp_t (by decide) (f47 _)) (fun f => wp_f (by decide) (f47 _))
theorem uM_division2 (L : Nat) (xs : Nat → Int32) {m d : Nat} (hd : 6 ≤ d) (a a2 : Int32) {b B : Int} {s : Sg} {g0 g : a2_G} {r0 r : a2_A} {j : Nat} {st : Int32} (h : Sv b B s [] g0 r0 g r) (hl : Lk 1 g0 g) (hs : s.1 = (g0 fM_at).toInt) (hu : UI s.1 g0 r0) (hi : In g0 r0 j st) (hr : a = 4 ∧ st.toInt = 1 ∨ a = 12 ∧ 1 ≤ st.toInt ∧ st.toInt ≤ 2 ∨ a ≠ 4 ∧ a ≠ 12 ∧ 3 ≤ st.toInt ∧ st.toInt ≤ 6) (hB : b + 8 ≤ B) (hB1 : B ≤ 1900) (hB2 : b ≤ 1860) : wp (ev L xs (m + 1) d nM_division2 [.ref cM, .int a, .int a2] g r) (kCL b B s (g0 fM_n)) kN := by
  obtain ⟨d, rfl⟩ : ∃ e, d = e + 1 := ⟨d - 1, by omega⟩
  have f28 : ∀ x3 x4, (x3 = 0 ↔ (a ≠ 4 ∧ a ≠ 12)) → wp (BM_division2_28 L xs (m + 1) d m a a2 x3 x4 g r) (kCL b B s (g0 fM_n)) kN := by
    intro x3 x4 hx3
    unfold BM_division2_28 BM_division2_42
    refine wp_vSv (uM_must L xs (by omega) _ h (by omega)) (fun g2 r2 b2 h2 l2 => wp_t (by decide) (h2.cb hu b2)) (fun g2 r2 b2 h2 l2 => ?_)
    refine wp_f (by decide) ?_
    have l12 := hl.tr l2 (Int.le_refl _)
    refine wp_vSv (uM_mustBe L xs (by omega) _ h2 (by omega)) (fun g3 r3 b3 h3 l3 => wp_f (by decide) (h3.cb hu b3)) (fun g3 r3 b3 h3 l3 => ?_)
    refine wp_t (by decide) ?_
    have w3 := ((l12.tr l3 (Int.le_refl _)).2.2 b3).2
    have m3 := (h3.gd b3).2
    have q3 := m3.q
    have ui3 := h3.ui hu
    have in3 := hi.kp h3.1.z.1
    have f88 : ∀ x4, wp (BM_division2_88 L xs (m + 1) d m a a2 x3 x4 g3 r3) (kCL b B s (g0 fM_n)) kN := by
      intro x4
      unfold BM_division2_88
      refine wp_vK (tM_make L xs (by omega) _ _ _ m3 (by omega)) (fun t g4 r4 et n4 b4 t4 s4 k4 => ?_)
      have F4 := n4.x.z.1
      have ui4 := ui3.kp F4 n4.2.1
      have in4 := in3.kp F4
      have b4 : g4 fM_bad = 0 := b4.trans b3
      have it : Mi g4 t := ⟨by rw [et]; omega, by rw [et]; omega⟩
      have q4 := k4.q
      have i8 : In8 t := ⟨it.1, by have := it.2; omega⟩
      obtain ⟨us4, un4, -⟩ := ui4.st in4
      have ir := k4.1.2.1.its j
      have at4 : (g4 fM_at).toInt = (g3 fM_at).toInt := by rw [t4]
      have en4 : g4 fM_n = g0 fM_n := (F4.1 fM_n (by decide)).trans (h3.1.1.1 fM_n (by decide))
      have f123 : ∀ x6, Mi g4 x6 → wp (BM_division2_123 L xs (m + 1) d m a a2 x3 t ((r4 fM_its).2 j) x6 g4 r4) (kCL b B s (g0 fM_n)) kN := by
        intro x6 hx6
        unfold BM_division2_123
        refine wp_nH (tM_attach L xs (by omega) k4 hx6 it (by omega)) (fun g5 r5 n5 b5 t5 k5 => ?_)
        have F5 := n5.x.z.1
        have ui5 := ui4.kp F5 n5.2.1
        have in5 := in4.kp F5
        have it5 : Mi g5 t := it.mo n5.2.1
        obtain ⟨us5, -, -⟩ := ui5.st in5
        have eits := F5.2 fM_its (by decide)
        have at5 : (g5 fM_at).toInt = (g3 fM_at).toInt := by rw [t5]; exact at4
        have en5 : g5 fM_n = g0 fM_n := (F5.1 fM_n (by decide)).trans en4
        have hb5 : g5 fM_bad = 0 := b5.trans b4
        -- the end: items begin anew, a new state
        have fin : ∀ (g6 : a2_G) (r6 : a2_A) (x6 : Int32) (b6 : Int), Mst b6 s [] g6 r6 → b6 ≤ b → g6 fM_n = g0 fM_n → g6 fM_open = g5 fM_open → g6 fM_units = g5 fM_units → g6 fM_nodes = g5 fM_nodes → g6 fM_bad = 0 → g6 fM_at = g5 fM_at → r6 fM_its = r5 fM_its → r6 fM_unitNode = r5 fM_unitNode → r6 fM_state = r5 fM_state → US (upd (upd g6 fM_items 0) fM_latest 0) r6 x6 ((r5 fM_its).2 j).toInt.toNat → wp (BM_division2_232 L xs (m + 1) d m a a2 x3 t ((r4 fM_its).2 j) x6 (upd (upd g6 fM_items 0) fM_latest 0) r6) (kCL b B s (g0 fM_n)) kN := by
          intro g6 r6 x6 b6 k6 hb6 e0 e1 e2 e3 e4 e5 e6 e7 e8 hus
          unfold BM_division2_232
          have k7 := (k6.upx fM_items 0 (by decide) (fun hk => absurd hk (by decide))).upx fM_latest 0 (by decide) (fun _ => in8_0)
          exact tM_toE L xs (by omega) (t := s.1) (g0 := g0) k7 hb6 ui5 in5 e0 e1 e2 (by show _ ≤ (g6 fM_nodes).toInt; rw [e3]; exact Int.le_refl _) e6 e7 e8 e4 (by show s.1 ≤ (g6 fM_at).toInt; rw [e5]; omega) (by show s.1 < (g6 fM_at).toInt; rw [e5]; omega) hus
        have m0 : ∀ {g6 : a2_G}, g6 fM_nodes = g5 fM_nodes → Mi g6 0 := fun e => ⟨Int.le_refl 0, by rw [i32_0, e]; have := k5.q; omega⟩
        have nz : ∀ {i : Nat}, (i : Int) < (0 : Int32).toInt → False := fun hi' => by rw [i32_0] at hi'; omega
        rcases hr with ⟨ra, rs⟩ | ⟨ra, rs⟩ | ⟨ra, rb, rs, rt⟩
        · subst ra
          refine wp_f (by decide) ?_
          refine wp_in (k5.1.1.at 15) ir.1 (by omega) ?_
          unfold BM_division2_142 BM_division2_157 BM_division2_169
          refine wp_t (by decide) ?_
          refine wp_t (by decide) ?_
          refine wp_t (by rw [c2_ne]; exact fun e => (hx3.mp e).1 rfl) ?_
          unfold BM_division2_179
          refine wp_f (by decide) ?_
          have k6 := k5.awx fM_environment ((r4 fM_its).2 j).toNatClampNeg t (by decide) (fun _ => i8)
          refine fin g5 _ 2 _ k6 (by omega) en5 rfl rfl rfl hb5 rfl rfl rfl rfl ⟨fun _ => ?_, fun e => absurd e (by decide), fun e => absurd e (by decide), fun e => absurd e (by decide), fun e => absurd e (by decide), fun e => absurd e (by decide)⟩
          show Mi g5 ((aw r5 fM_environment ((r4 fM_its).2 j).toInt.toNat t fM_environment).2 ((r5 fM_its).2 j).toInt.toNat)
          rw [eits, aw_at]
          exact it5
        · subst ra
          refine wp_t (by decide) ?_
          unfold BM_division2_142
          refine wp_f (by decide) ?_
          refine wp_in (k5.1.1.at 16) ir.1 (by omega) ?_
          unfold BM_division2_157 BM_division2_169
          refine wp_t (by decide) ?_
          refine wp_t (by rw [c2_ne]; exact fun e => (hx3.mp e).2 rfl) ?_
          unfold BM_division2_179
          refine wp_t (by decide) ?_
          refine wp_f (by decide) ?_
          have k6 := k5.awx fM_data ((r4 fM_its).2 j).toNatClampNeg t (by decide) (fun _ => i8)
          refine fin g5 _ 3 _ k6 (by omega) en5 rfl rfl rfl hb5 rfl rfl rfl rfl ⟨fun e => absurd e (by decide), fun _ _ => ?_, fun e => absurd e (by decide), fun e => absurd e (by decide), fun e => absurd e (by decide), fun e => absurd e (by decide)⟩
          show Mi g5 ((aw r5 fM_data ((r4 fM_its).2 j).toInt.toNat t fM_data).2 ((r5 fM_its).2 j).toInt.toNat)
          rw [eits, aw_at]
          exact it5
        · have da5 := us5.2.1 rs (by omega)
          refine wp_t (by rw [c2_ne]; exact ra) ?_
          unfold BM_division2_142
          refine wp_t (by rw [c2_ne]; exact rb) ?_
          have f169 : ∀ (g6 : a2_G), (g6 = g5 ∨ g6 = upd g5 fM_files t ∧ a = 13) → (a = 13 → g6 = upd g5 fM_files t) → wp (BM_division2_169 L xs (m + 1) d m a a2 x3 t ((r4 fM_its).2 j) g6 r5) (kCL b B s (g0 fM_n)) kN := by
            intro g6 hg6 h13
            have k6 : Mst (b - 4 - 4 + 1 + 0) s [] g6 r5 := by
              rcases hg6 with e | ⟨e, -⟩
              · rw [e]
                exact k5
              · rw [e]
                exact k5.upx fM_files t (by decide) (fun _ => i8)
            have k7 := k6.upx fM_holder t (by decide) (fun _ => i8)
            have g0' : g6 fM_n = g5 fM_n ∧ g6 fM_open = g5 fM_open ∧ g6 fM_units = g5 fM_units ∧ g6 fM_nodes = g5 fM_nodes ∧ g6 fM_bad = g5 fM_bad ∧ g6 fM_at = g5 fM_at := by
              rcases hg6 with e | ⟨e, -⟩ <;> (rw [e]; exact ⟨rfl, rfl, rfl, rfl, rfl, rfl⟩)
            obtain ⟨y1, y2, y3, y4, y5, y6⟩ := g0'
            have hold : ∀ st' : Int32, st'.toInt = 6 ∨ st'.toInt = 7 → US (upd (upd (upd g6 fM_holder t) fM_items 0) fM_latest 0) r5 st' ((r5 fM_its).2 j).toInt.toNat := fun st' hst => ⟨fun e => by omega, fun _ _ => ⟨da5.1, by show _ < (g6 fM_nodes).toInt; rw [y4]; exact da5.2⟩, fun _ e => by omega, fun _ _ => ⟨⟨it5.1, by show _ < (g6 fM_nodes).toInt; rw [y4]; exact it5.2⟩, m0 y4, Int.le_refl 0, (by show (0 : Int32).toInt ≤ 49; decide), fun i hi' => (nz hi').elim⟩, fun e => by omega, fun e => by omega⟩
            have hx0 : x3 = 0 := hx3.mpr ⟨ra, rb⟩
            unfold BM_division2_169 BM_division2_179
            refine wp_f (by rw [c2_ne, Decidable.not_not]; exact hx0) ?_
            refine wp_t (by rw [c2_ne]; exact ra) ?_
            refine wp_t (by rw [c2_ne]; exact rb) ?_
            refine wp_if (fun _ => ?_) (fun hc => ?_)
            · refine wp_if (fun _ => ?_) (fun _ => ?_)
              · exact fin (upd g6 fM_holder t) r5 7 _ k7 (by omega) (y1.trans en5) y2 y3 y4 (y5.trans hb5) y6 rfl rfl rfl (hold 7 (Or.inr rfl))
              · exact fin (upd g6 fM_holder t) r5 6 _ k7 (by omega) (y1.trans en5) y2 y3 y4 (y5.trans hb5) y6 rfl rfl rfl (hold 6 (Or.inl rfl))
            · rw [c2_ne, Decidable.not_not] at hc
              refine fin (upd g6 fM_holder t) r5 4 _ k7 (by omega) (y1.trans en5) y2 y3 y4 (y5.trans hb5) y6 rfl rfl rfl ⟨fun e => absurd e (by decide), fun _ _ => ⟨da5.1, by show _ < (g6 fM_nodes).toInt; rw [y4]; exact da5.2⟩, fun _ _ => ?_, fun e => absurd e (by decide), fun e => absurd e (by decide), fun e => absurd e (by decide)⟩
              show Mi _ (g6 fM_files)
              rw [h13 hc]
              exact it5
          unfold BM_division2_157
          refine wp_if (fun hc => ?_) (fun hc => ?_)
          · rw [c2_ne] at hc
            exact f169 g5 (Or.inl rfl) (fun e => absurd e hc)
          · rw [c2_ne, Decidable.not_not] at hc
            exact f169 _ (Or.inr ⟨rfl, hc⟩) (fun _ => rfl)
      refine wp_vP (tM_here L xs (by omega) k4 ui4 in4) (fun v hv => ?_)
      subst hv
      refine wp_if (fun hc => ?_) (fun hc => ?_)
      · rw [c2_eq] at hc
        refine wp_in (k4.1.1.at 16) ir.1 (by omega) ?_
        have hn := hx3.mp hc
        rcases hr with ⟨ra, rs⟩ | ⟨ra, rs⟩ | ⟨ra, rb, rs, rt⟩
        · exact absurd ra hn.1
        · exact absurd ra hn.2
        · exact f123 _ (us4.2.1 rs (by omega))
      · refine wp_in (k4.1.1.at 14) ir.1 (by omega) ?_
        exact f123 _ un4
    refine wp_if (fun _ => ?_) (fun _ => f88 _)
    refine wp_if (fun _ => ?_) (fun _ => f88 _)
    refine wp_if (fun _ => ?_) (fun _ => f88 _)
    exact wp_if (fun _ => f88 _) (fun _ => f88 _)
  have f16 : ∀ x3, (x3 = 0 ↔ (a ≠ 4 ∧ a ≠ 12)) → wp (BM_division2_16 L xs (m + 1) d m a a2 x3 g r) (kCL b B s (g0 fM_n)) kN := by
    intro x3 hx3
    unfold BM_division2_16
    exact wp_if (fun _ => f28 _ _ hx3) (fun _ => f28 _ _ hx3)
  rw [qM_division2]
  unfold BM_division2_11
  refine wp_if (fun hc => ?_) (fun hc => ?_)
  · rw [c2_eq] at hc
    exact f16 1 ⟨fun e => absurd e (by decide), fun e => absurd hc e.1⟩
  · rw [c2_eq] at hc
    refine wp_if (fun hc2 => ?_) (fun hc2 => ?_)
    · rw [c2_ne] at hc2
      exact f16 0 ⟨fun _ => ⟨hc, hc2⟩, fun _ => rfl⟩
    · rw [c2_ne, Decidable.not_not] at hc2
      exact f16 1 ⟨fun e => absurd e (by decide), fun e => absurd hc2 e.2⟩
