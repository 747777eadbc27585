/-! The class's questions that loop; Tree.number; Expressions' join and goDeeper: by hand. -/
theorem sT_childOf34 (L : Nat) (xs : Nat → Int32) {m d : Nat} (hd : 2 ≤ d) (x1 x2 x3 : Int32) {g : a2_G} {r : a2_A} (h : CI g r) : ∀ (n k : Nat) (x4 x5 : Int32), x2.toInt ≤ x5.toInt + n → n < k → wp (BT_childOf_34 L xs (m + 1) d k x1 x2 x3 x4 x5 g r) (kP g r (fun _ => True)) kN := by
  intro n
  induction n with
  | zero =>
    intro k x4 x5 h1 h2
    unfold BT_childOf_34
    refine wp_if (fun _ => ?_) (fun hc => ?_)
    · refine wp_vP (sT_numberOf L xs hd _ h) (fun v1 _ => ?_)
      exact ⟨_, rfl, trivial, rfl, rfl⟩
    · rw [c2_ge] at hc
      exfalso; omega
  | succ n ih =>
    intro k x4 x5 h1 h2
    unfold BT_childOf_34
    refine wp_if (fun _ => ?_) (fun hc => ?_)
    · refine wp_vP (sT_numberOf L xs hd _ h) (fun v1 _ => ?_)
      exact ⟨_, rfl, trivial, rfl, rfl⟩
    · rw [c2_ge] at hc
      have hi := i32_hi x2
      have e := i32_inc (x := x5) (by omega)
      refine wp_vP (sT_get L xs (by omega) _ _ h) (fun v1 _ => ?_)
      obtain ⟨k, rfl⟩ : ∃ q, k = q + 1 := ⟨k - 1, by omega⟩
      rw [lT_childOf_34]
      exact ih k _ _ (by omega) (by omega)
theorem sT_childOf (L : Nat) (xs : Nat → Int32) {m d : Nat} (hm : 4294967296 ≤ m) (hd : 3 ≤ d) (a1 a2 : Int32) {g : a2_G} {r : a2_A} (h : CI g r) : wp (ev L xs (m + 1) d nT_childOf [.ref cT, .int a1, .int a2] g r) (kP g r (fun _ => True)) kN := by
  obtain ⟨d, rfl⟩ : ∃ e, d = e + 1 := ⟨d - 1, by omega⟩
  rw [qT_childOf]
  refine wp_vP (sT_handleOf L xs (by omega) _ h) (fun v1 _ => ?_)
  refine wp_if (fun _ => ?_) (fun _ => ?_)
  · unfold BT_childOf_21
    exact ⟨_, rfl, trivial, rfl, rfl⟩
  · refine wp_vP (sT_get L xs (by omega) _ _ h) (fun v2 _ => ?_)
    refine wp_if (fun _ => ?_) (fun _ => ?_)
    · refine wp_vP (sT_get L xs (by omega) _ _ h) (fun v3 _ => ?_)
      have hi := i32_hi a2
      exact sT_childOf34 L xs (by omega) _ _ _ h 2147483648 m _ _ (by rw [i32_0]; omega) (by omega)
    · unfold BT_childOf_21
      exact ⟨_, rfl, trivial, rfl, rfl⟩
theorem sT_unitAt4 (L : Nat) (xs : Nat → Int32) {m d : Nat} (hd : 2 ≤ d) (x1 : Int32) {g : a2_G} {r : a2_A} (h : CI g r) : ∀ (n k : Nat) (x2 x3 : Int32), (g fT_numbered).toInt ≤ x3.toInt + n → n < k → wp (BT_unitAt_4 L xs (m + 1) d k x1 x2 x3 g r) (kP g r (fun _ => True)) kN := by
  intro n
  induction n with
  | zero =>
    intro k x2 x3 h1 h2
    unfold BT_unitAt_4
    refine wp_if (fun _ => ⟨_, rfl, trivial, rfl, rfl⟩) (fun hc => ?_)
    rw [c2_ge] at hc
    exfalso; omega
  | succ n ih =>
    intro k x2 x3 h1 h2
    unfold BT_unitAt_4
    refine wp_if (fun _ => ⟨_, rfl, trivial, rfl, rfl⟩) (fun hc => ?_)
    rw [c2_ge] at hc
    have hi := i32_hi (g fT_numbered)
    have e := i32_inc (x := x3) (by omega)
    obtain ⟨k, rfl⟩ : ∃ q, k = q + 1 := ⟨k - 1, by omega⟩
    refine wp_vP (sT_handleOf L xs (by omega) _ h) (fun v1 _ => ?_)
    refine wp_vB (sT_isUnit L xs (by omega) _ h) ?_ (fun _ => ?_)
    · refine wp_if (fun _ => ?_) (fun hc => absurd (by decide) hc)
      unfold BT_unitAt_34
      rw [lT_unitAt_4]
      exact ih k _ _ (by omega) (by omega)
    · refine wp_if (fun hc => absurd hc (by decide)) (fun _ => ?_)
      refine wp_if (fun _ => ?_) (fun _ => ⟨_, rfl, trivial, rfl, rfl⟩)
      unfold BT_unitAt_34
      rw [lT_unitAt_4]
      exact ih k _ _ (by omega) (by omega)
theorem sT_unitAt (L : Nat) (xs : Nat → Int32) {m d : Nat} (hm : 4294967296 ≤ m) (hd : 3 ≤ d) (a1 : Int32) {g : a2_G} {r : a2_A} (h : CI g r) : wp (ev L xs (m + 1) d nT_unitAt [.ref cT, .int a1] g r) (kP g r (fun _ => True)) kN := by
  obtain ⟨d, rfl⟩ : ∃ e, d = e + 1 := ⟨d - 1, by omega⟩
  rw [qT_unitAt]
  have hi := i32_hi (g fT_numbered)
  exact sT_unitAt4 L xs (by omega) _ h 2147483648 m _ _ (by rw [i32_0]; omega) (by omega)
theorem sT_childOfKind17 (L : Nat) (xs : Nat → Int32) {m d : Nat} (hd : 2 ≤ d) (x1 x2 x3 : Int32) {g : a2_G} {r : a2_A} (h : CI g r) : ∀ (n k : Nat) (x4 x5 : Int32), 2147483647 ≤ x5.toInt + n → n < k → wp (BT_childOfKind_17 L xs (m + 1) d k x1 x2 x3 x4 x5 g r) (kP g r (fun _ => True)) kN := by
  intro n
  induction n with
  | zero =>
    intro k x4 x5 h1 h2
    unfold BT_childOfKind_17
    refine wp_vP (sT_get L xs (by omega) _ _ h) (fun v1 _ => ?_)
    have hi := i32_hi v1
    refine wp_if (fun _ => ⟨_, rfl, trivial, rfl, rfl⟩) (fun hc => ?_)
    rw [c2_ge] at hc
    exfalso; omega
  | succ n ih =>
    intro k x4 x5 h1 h2
    unfold BT_childOfKind_17
    refine wp_vP (sT_get L xs (by omega) _ _ h) (fun v1 _ => ?_)
    have hi := i32_hi v1
    refine wp_if (fun _ => ⟨_, rfl, trivial, rfl, rfl⟩) (fun hc => ?_)
    rw [c2_ge] at hc
    have e := i32_inc (x := x5) (by omega)
    refine wp_vP (sT_get L xs (by omega) _ _ h) (fun v2 _ => ?_)
    refine wp_if (fun _ => ?_) (fun _ => ?_)
    · refine wp_vP (sT_get L xs (by omega) _ _ h) (fun v3 _ => ?_)
      obtain ⟨k, rfl⟩ : ∃ q, k = q + 1 := ⟨k - 1, by omega⟩
      rw [lT_childOfKind_17]
      exact ih k _ _ (by omega) (by omega)
    · refine wp_vP (sT_numberOf L xs (by omega) _ h) (fun v3 _ => ?_)
      exact ⟨_, rfl, trivial, rfl, rfl⟩
theorem sT_childOfKind (L : Nat) (xs : Nat → Int32) {m d : Nat} (hm : 4294967296 ≤ m) (hd : 3 ≤ d) (a1 a2 : Int32) {g : a2_G} {r : a2_A} (h : CI g r) : wp (ev L xs (m + 1) d nT_childOfKind [.ref cT, .int a1, .int a2] g r) (kP g r (fun _ => True)) kN := by
  obtain ⟨d, rfl⟩ : ∃ e, d = e + 1 := ⟨d - 1, by omega⟩
  rw [qT_childOfKind]
  refine wp_vP (sT_handleOf L xs (by omega) _ h) (fun v1 _ => ?_)
  refine wp_vP (sT_get L xs (by omega) _ _ h) (fun v2 _ => ?_)
  exact sT_childOfKind17 L xs (by omega) _ _ _ h 2147483648 m _ _ (by rw [i32_0]; omega) (by omega)
theorem sT_follower21 (L : Nat) (xs : Nat → Int32) {m d : Nat} (hd : 1 ≤ d) (x1 : Int32) {g : a2_G} {r : a2_A} (h : CI g r) : ∀ (n k : Nat) (x2 x3 : Int32), (g fT_made).toInt ≤ x3.toInt + n → n < k → wp (BT_follower_21 L xs (m + 1) d k x1 x2 x3 g r) (kP g r (fun _ => True)) kN := by
  intro n
  induction n with
  | zero =>
    intro k x2 x3 h1 h2
    unfold BT_follower_21 BT_follower_53
    refine wp_if (fun _ => ?_) (fun hc => ?_)
    · refine wp_vP (sT_get L xs (by omega) _ _ h) (fun v1 _ => ?_)
      exact ⟨_, rfl, trivial, rfl, rfl⟩
    · rw [c2_ge] at hc
      exfalso; omega
  | succ n ih =>
    intro k x2 x3 h1 h2
    unfold BT_follower_21 BT_follower_53
    refine wp_if (fun _ => ?_) (fun hc => ?_)
    · refine wp_vP (sT_get L xs (by omega) _ _ h) (fun v1 _ => ?_)
      exact ⟨_, rfl, trivial, rfl, rfl⟩
    · rw [c2_ge] at hc
      have hi := i32_hi (g fT_made)
      have e := i32_inc (x := x3) (by omega)
      refine wp_vP (sT_get L xs (by omega) _ _ h) (fun v1 _ => ?_)
      refine wp_if (fun _ => ?_) (fun _ => ?_)
      · refine wp_vP (sT_get L xs (by omega) _ _ h) (fun v2 _ => ?_)
        exact ⟨_, rfl, trivial, rfl, rfl⟩
      · refine wp_vP (sT_get L xs (by omega) _ _ h) (fun v2 _ => ?_)
        obtain ⟨k, rfl⟩ : ∃ q, k = q + 1 := ⟨k - 1, by omega⟩
        rw [lT_follower_21]
        exact ih k _ _ (by omega) (by omega)
theorem sT_follower (L : Nat) (xs : Nat → Int32) {m d : Nat} (hm : 4294967296 ≤ m) (hd : 2 ≤ d) (a1 : Int32) {g : a2_G} {r : a2_A} (h : CI g r) : wp (ev L xs (m + 1) d nT_follower [.ref cT, .int a1] g r) (kP g r (fun _ => True)) kN := by
  obtain ⟨d, rfl⟩ : ∃ e, d = e + 1 := ⟨d - 1, by omega⟩
  rw [qT_follower]
  refine wp_vP (sT_get L xs (by omega) _ _ h) (fun v1 _ => ?_)
  refine wp_if (fun _ => ?_) (fun _ => ?_)
  · have hi := i32_hi (g fT_made)
    exact sT_follower21 L xs (by omega) _ h 2147483648 m _ _ (by rw [i32_0]; omega) (by omega)
  · refine wp_vP (sT_get L xs (by omega) _ _ h) (fun v2 _ => ?_)
    exact ⟨_, rfl, trivial, rfl, rfl⟩
theorem sT_number9_1 (L : Nat) (xs : Nat → Int32) {m d : Nat} (hm : 4294967296 ≤ m) (hd : 3 ≤ d) {b : Int} {g0 : a2_G} {r0 : a2_A} : ∀ (n k : Nat) (x1 x2 x3 : Int32) (g : a2_G) (r : a2_A), 20000 ≤ x2.toInt + n → n < k → Cs b g r → Fr g0 r0 g r → wp (BT_number_9_1 L xs (m + 1) d k x1 x2 x3 g r) (kTn b g0 r0) kN := by
  intro n
  induction n with
  | zero =>
    intro k x1 x2 x3 g r h1 h2 h hf
    have c := h.1.2.2.1
    unfold BT_number_9_1 BT_number_114_1
    refine wp_if (fun _ => ⟨rfl, h, hf⟩) (fun hc => ?_)
    rw [c2_ge] at hc
    exfalso; omega
  | succ n ih =>
    intro k x1 x2 x3 g r h1 h2 h hf
    have c := h.1.2.2.1
    unfold BT_number_9_1 BT_number_114_1
    refine wp_if (fun _ => ⟨rfl, h, hf⟩) (fun hc => ?_)
    rw [c2_ge] at hc
    have e := i32_inc (x := x2) (by omega)
    obtain ⟨k, rfl⟩ : ∃ q, k = q + 1 := ⟨k - 1, by omega⟩
    refine wp_if (fun _ => ⟨rfl, h, hf⟩) (fun _ => ?_)
    refine wp_nT (sT_set L xs (by omega) _ _ _ h) (fun g1 r1 h1 q1 => ?_)
    refine wp_nT (sT_set L xs (by omega) _ _ _ h1) (fun g2 r2 h2 q2 => ?_)
    refine wp_vP (sT_get L xs (by omega) _ _ h2.1) (fun v3 _ => ?_)
    refine wp_vP (sT_get L xs (by omega) _ _ h2.1) (fun v4 _ => ?_)
    refine wp_nT (sT_set L xs (by omega) _ _ _ h2) (fun g5 r5 h5 q5 => ?_)
    have f5 := ((hf.trans q1).trans q2).trans q5
    have fin : ∀ (y4 y5 y3 y6 : Int32), wp (BT_number_91 L xs (m + 1) d (k + 1) x1 x2 y3 y4 y5 (upd g5 fT_greatestLevel y6) r5) (kTn b g0 r0) kN := by
      intro y4 y5 y3 y6
      unfold BT_number_91
      refine wp_vP (sT_follower L xs hm (by omega) _ (show CI (upd (upd (upd g5 fT_greatestLevel y6) fT_units (y5 + y4)) fT_numbered (x2 + 1)) r5 from h5.1)) (fun v6 _ => ?_)
      rw [lT_number_9_1]
      exact ih k _ _ _ _ _ (by omega) (by omega) h5 f5
    refine wp_vB (sT_isUnit L xs (by omega) _ (show CI (upd g5 fT_greatestLevel _) r5 from h5.1)) ?_ (fun _ => ?_)
    · exact wp_if (fun _ => fin _ _ _ _) (fun _ => fin _ _ _ _)
    · exact wp_if (fun _ => fin _ _ _ _) (fun _ => fin _ _ _ _)
theorem sT_number9 (L : Nat) (xs : Nat → Int32) {m d : Nat} (hm : 4294967296 ≤ m) (hd : 3 ≤ d) {b : Int} {g0 : a2_G} {r0 : a2_A} (n k : Nat) (x1 x2 : Int32) (g : a2_G) (r : a2_A) (h1 : 20000 ≤ x2.toInt + n) (h2 : n < k) (h : Cs b g r) (hf : Fr g0 r0 g r) : wp (BT_number_9 L xs (m + 1) d k x1 x2 g r) (kTn b g0 r0) kN := by
  have c := h.1.2.2.1
  unfold BT_number_9 BT_number_114
  refine wp_if (fun _ => ⟨rfl, h, hf⟩) (fun hc => ?_)
  rw [c2_ge] at hc
  have e := i32_inc (x := x2) (by omega)
  obtain ⟨k, rfl⟩ : ∃ q, k = q + 1 := ⟨k - 1, by omega⟩
  refine wp_if (fun _ => ⟨rfl, h, hf⟩) (fun _ => ?_)
  refine wp_nT (sT_set L xs (by omega) _ _ _ h) (fun g1 r1 h1 q1 => ?_)
  refine wp_nT (sT_set L xs (by omega) _ _ _ h1) (fun g2 r2 h2 q2 => ?_)
  refine wp_vP (sT_get L xs (by omega) _ _ h2.1) (fun v3 _ => ?_)
  refine wp_vP (sT_get L xs (by omega) _ _ h2.1) (fun v4 _ => ?_)
  refine wp_nT (sT_set L xs (by omega) _ _ _ h2) (fun g5 r5 h5 q5 => ?_)
  have f5 := ((hf.trans q1).trans q2).trans q5
  have fin : ∀ (y4 y5 y3 y6 : Int32), wp (BT_number_91 L xs (m + 1) d (k + 1) x1 x2 y3 y4 y5 (upd g5 fT_greatestLevel y6) r5) (kTn b g0 r0) kN := by
    intro y4 y5 y3 y6
    unfold BT_number_91
    refine wp_vP (sT_follower L xs hm (by omega) _ (show CI (upd (upd (upd g5 fT_greatestLevel y6) fT_units (y5 + y4)) fT_numbered (x2 + 1)) r5 from h5.1)) (fun v6 _ => ?_)
    rw [lT_number_9_1]
    exact sT_number9_1 L xs hm hd (n - 1) k _ _ _ _ _ (by omega) (by omega) h5 f5
  refine wp_vB (sT_isUnit L xs (by omega) _ (show CI (upd g5 fT_greatestLevel _) r5 from h5.1)) ?_ (fun _ => ?_)
  · exact wp_if (fun _ => fin _ _ _ _) (fun _ => fin _ _ _ _)
  · exact wp_if (fun _ => fin _ _ _ _) (fun _ => fin _ _ _ _)
theorem sT_number (L : Nat) (xs : Nat → Int32) {m d : Nat} (hm : 4294967296 ≤ m) (hd : 4 ≤ d) {b : Int} {g : a2_G} {r : a2_A} (h : Cs b g r) : wp (ev L xs (m + 1) d nT_number [.ref cT] g r) (kTn b g r) kN := by
  obtain ⟨d, rfl⟩ : ∃ e, d = e + 1 := ⟨d - 1, by omega⟩
  rw [qT_number]
  refine wp_vP (sT_get L xs (by omega) _ _ h.1) (fun v1 _ => ?_)
  exact sT_number9 L xs hm (by omega) 20000 m _ _ _ _ (by rw [i32_0]; omega) (by omega) h Fr.rf
theorem sX_join (L : Nat) (xs : Nat → Int32) {m d : Nat} (hm : 4294967296 ≤ m) (hd : 2 ≤ d) (a1 a2 a3 : Int32) {b : Int} {g : a2_G} {r : a2_A} (h : Cs b g r) (hb : b ≤ 3250) : wp (ev L xs (m + 1) d nX_join [.ref cX, .int a1, .int a2, .int a3] g r) (kT (b + 1) g r) kN := by
  obtain ⟨d, rfl⟩ : ∃ e, d = e + 1 := ⟨d - 1, by omega⟩
  rw [qX_join]
  refine wp_vP (sT_get L xs (by omega) _ _ h.1) (fun v1 _ => ?_)
  refine wp_vT (sT_make L xs hm (by omega) _ _ _ h hb) (fun v2 g2 r2 h2 q2 => ?_)
  refine wp_nT (sT_append L xs (by omega) _ _ h2) (fun g3 r3 h3 q3 => ?_)
  exact ⟨_, rfl, h3, q2.trans q3⟩
theorem sX_goDeeper (L : Nat) (xs : Nat → Int32) {m d : Nat} (hd : 2 ≤ d) (a1 : Int32) {b bx : Int} {g : a2_G} {r : a2_A} (h : Cs b g r) (hl : Lt g) (hx : b ≤ bx) : wp (ev L xs (m + 1) d nX_goDeeper [.ref cX, .int a1] g r) (fun o g' r' => o = none ∧ Cs (b - 3) g' r' ∧ a1.toInt ≤ 40) (kX bx) := by
  obtain ⟨d, rfl⟩ : ∃ e, d = e + 1 := ⟨d - 1, by omega⟩
  rw [qX_goDeeper]
  refine wp_if (fun hc => ?_) (fun _ => ?_)
  · rw [c2_le, show (40 : Int32).toInt = 40 from rfl] at hc
    unfold BX_goDeeper_14
    refine wp_nON (sR_advanceL L xs (by omega) h hl) (fun g1 r1 h1 => ?_)
    exact ⟨rfl, h1, hc⟩
  · exact wp_nR (sR_refuse L xs (by omega) _ h (by omega))
