/-! The class's Tree: leaves. -/
theorem i32_m12 {x : Int32} (h0 : 0 ≤ x.toInt) (h1 : x.toInt ≤ 20000) : (x * 12).toInt = 12 * x.toInt := by
  rw [ml_eq (by rw [i32_12]; omega) (by rw [i32_12]; omega), i32_12]
  omega
theorem i32_ac {x y : Int32} (h0 : 0 ≤ x.toInt) (h1 : x.toInt ≤ 1000000) (h2 : 0 ≤ y.toInt) (h3 : y.toInt ≤ 1000) : (x + y).toInt = x.toInt + y.toInt := ad_eq (by omega) (by omega)
theorem sT_get (L : Nat) (xs : Nat → Int32) {m d : Nat} (hd : 1 ≤ d) (a1 a2 : Int32) {g : a2_G} {r : a2_A} (h : CI g r) : wp (ev L xs (m + 1) d nT_get [.ref cT, .int a1, .int a2] g r) (kP g r (fun _ => True)) kN := by
  obtain ⟨d, rfl⟩ : ∃ e, d = e + 1 := ⟨d - 1, by omega⟩
  have c := h.2.2.1
  rw [qT_get]
  simp only [BT_get_36, BT_get_37, c2_lt, c2_ge, inr_eq, nc_eq, i32_0, i32_12]
  refine wp_if (fun _ => ⟨_, rfl, trivial, rfl, rfl⟩) (fun _ => ?_)
  refine wp_if (fun _ => ⟨_, rfl, trivial, rfl, rfl⟩) (fun _ => ?_)
  refine wp_if (fun _ => ⟨_, rfl, trivial, rfl, rfl⟩) (fun _ => ?_)
  refine wp_if (fun _ => ⟨_, rfl, trivial, rfl, rfl⟩) (fun _ => ?_)
  have e1 := i32_m12 (x := a1) (by omega) (by omega)
  have e2 := i32_ac (x := a1 * 12) (y := a2) (by omega) (by omega) (by omega) (by omega)
  exact wp_if (fun _ => ⟨_, rfl, trivial, rfl, rfl⟩) (fun _ => by exfalso; omega)
theorem sT_set (L : Nat) (xs : Nat → Int32) {m d : Nat} (hd : 1 ≤ d) (a1 a2 a3 : Int32) {b : Int} {g : a2_G} {r : a2_A} (h : Cs b g r) : wp (ev L xs (m + 1) d nT_set [.ref cT, .int a1, .int a2, .int a3] g r) (kTn b g r) kN := by
  obtain ⟨d, rfl⟩ : ∃ e, d = e + 1 := ⟨d - 1, by omega⟩
  have c := h.1.2.2.1
  rw [qT_set]
  simp only [BT_set_34, c2_lt, c2_ge, inr_eq, nc_eq, i32_0, i32_12]
  refine wp_if (fun _ => ⟨rfl, h, Fr.rf⟩) (fun _ => ?_)
  refine wp_if (fun _ => ⟨rfl, h, Fr.rf⟩) (fun _ => ?_)
  refine wp_if (fun _ => ⟨rfl, h, Fr.rf⟩) (fun _ => ?_)
  refine wp_if (fun _ => ⟨rfl, h, Fr.rf⟩) (fun _ => ?_)
  have e1 := i32_m12 (x := a1) (by omega) (by omega)
  have e2 := i32_ac (x := a1 * 12) (y := a2) (by omega) (by omega) (by omega) (by omega)
  exact wp_if (fun _ => ⟨rfl, h, Fr.rf⟩) (fun _ => by exfalso; omega)
theorem sT_append81 (L : Nat) (xs : Nat → Int32) {m d k : Nat} {a1 a2 x4 : Int32} {b : Int} {g g0 : a2_G} {r r0 : a2_A} (h : Cs b g r) (hf : Fr g0 r0 g r) (h1 : 0 ≤ a1.toInt) (h2 : a1.toInt < (g fT_made).toInt) (h3 : 0 ≤ a2.toInt) (h4 : a2.toInt < (g fT_made).toInt) : wp (BT_append_81 L xs m d k a1 a2 (a1 * 12) x4 g r) (kTn b g0 r0) kN := by
  have c := h.1.2.2.1
  simp only [BT_append_81, inr_eq, nc_eq]
  have e1 := i32_m12 (x := a1) (by omega) (by omega)
  have e2 := i32_m12 (x := a2) (by omega) (by omega)
  have e3 := i32_ac (x := a1 * 12) (y := 6) (by omega) (by omega) (by decide) (by decide)
  have e4 := i32_ac (x := a1 * 12) (y := 8) (by omega) (by omega) (by decide) (by decide)
  have e5 := i32_ac (x := a2 * 12) (y := 4) (by omega) (by omega) (by decide) (by decide)
  have f6 : (6 : Int32).toInt = 6 := rfl
  have f8 : (8 : Int32).toInt = 8 := rfl
  have f4 : (4 : Int32).toInt = 4 := rfl
  refine wp_if (fun _ => ?_) (fun _ => by exfalso; omega)
  refine wp_if (fun _ => ?_) (fun _ => by exfalso; omega)
  refine wp_if (fun _ => ?_) (fun _ => by exfalso; omega)
  exact wp_if (fun _ => ⟨rfl, h, hf⟩) (fun _ => by exfalso; omega)
theorem sT_append (L : Nat) (xs : Nat → Int32) {m d : Nat} (hd : 1 ≤ d) (a1 a2 : Int32) {b : Int} {g : a2_G} {r : a2_A} (h : Cs b g r) : wp (ev L xs (m + 1) d nT_append [.ref cT, .int a1, .int a2] g r) (kTn b g r) kN := by
  obtain ⟨d, rfl⟩ : ∃ e, d = e + 1 := ⟨d - 1, by omega⟩
  have c := h.1.2.2.1
  rw [qT_append]
  simp only [BT_append_24, BT_append_72, c2_lt, c2_ge, inr_eq, nc_eq, i32_0]
  refine wp_if (fun _ => ⟨rfl, h, Fr.rf⟩) (fun _ => ?_)
  refine wp_if (fun _ => ⟨rfl, h, Fr.rf⟩) (fun _ => ?_)
  refine wp_if (fun _ => ⟨rfl, h, Fr.rf⟩) (fun _ => ?_)
  refine wp_if (fun _ => ?_) (fun _ => ⟨rfl, h, Fr.rf⟩)
  have e1 := i32_m12 (x := a1) (by omega) (by omega)
  have e3 := i32_ac (x := a1 * 12) (y := 6) (by omega) (by omega) (by decide) (by decide)
  have e4 := i32_ac (x := a1 * 12) (y := 5) (by omega) (by omega) (by decide) (by decide)
  have f6 : (6 : Int32).toInt = 6 := rfl
  have f5 : (5 : Int32).toInt = 5 := rfl
  have f7 : (7 : Int32).toInt = 7 := rfl
  refine wp_if (fun _ => ?_) (fun _ => by exfalso; omega)
  refine wp_if (fun _ => ?_) (fun _ => ?_)
  · refine wp_if (fun _ => ?_) (fun _ => by exfalso; omega)
    exact sT_append81 L xs (g := g) (r := a2_ua r fT_cells ((r fT_cells).1, _)) h Fr.rf (by omega) (by omega) (by omega) (by omega)
  · refine wp_if (fun _ => ?_) (fun _ => ?_)
    · refine wp_if (fun _ => ?_) (fun _ => by exfalso; omega)
      exact sT_append81 L xs (g := g) (r := a2_ua r fT_cells ((r fT_cells).1, _)) h Fr.rf (by omega) (by omega) (by omega) (by omega)
    · have e5 := i32_m12 (x := (r fT_cells).2 (a1 * 12 + 6).toInt.toNat) (by omega) (by omega)
      have e6 := i32_ac (x := (r fT_cells).2 (a1 * 12 + 6).toInt.toNat * 12) (y := 7) (by omega) (by omega) (by decide) (by decide)
      refine wp_if (fun _ => ?_) (fun _ => by exfalso; omega)
      exact sT_append81 L xs (g := g) (r := a2_ua r fT_cells ((r fT_cells).1, _)) h Fr.rf (by omega) (by omega) (by omega) (by omega)
/-- the loop in make, and what is behind it -/
theorem sT_make43 (L : Nat) (xs : Nat → Int32) {m d : Nat} (x1 x2 x3 x4 : Int32) {b : Int} {g g0 : a2_G} {r0 : a2_A} (h4 : x4.toInt = 12 * (g fT_made).toInt) (hb : b ≤ 6000) : ∀ (n k : Nat) (x5 : Int32) (r : a2_A), 0 ≤ x5.toInt → 12 ≤ x5.toInt + n → n < k → CI g r → (g fT_made).toInt ≤ 3 * (g fR_at).toInt + b → 12 * (g fT_made).toInt + 12 ≤ (r fT_cells).1 → Fr g0 r0 g r → wp (BT_make_43 L xs m d k x1 x2 x3 x4 x5 g r) (kT (b + 1) g0 r0) kN := by
  intro n
  induction n with
  | zero =>
    intro k x5 r h5 h6 hk h hs hc hf
    have c := h.2.2.1
    simp only [BT_make_43, c2_ge, inr_eq, nc_eq, i32_12]
    refine wp_if (fun _ => ?_) (fun _ => by exfalso; omega)
    have e0 := i32_ac (x := x4) (y := 0) (by omega) (by omega) (by decide) (by decide)
    have e1 := i32_ac (x := x4) (y := 1) (by omega) (by omega) (by decide) (by decide)
    have e2 := i32_ac (x := x4) (y := 2) (by omega) (by omega) (by decide) (by decide)
    have e8 := i32_ac (x := x4) (y := 8) (by omega) (by omega) (by decide) (by decide)
    have e9 := i32_ac (x := x4) (y := 9) (by omega) (by omega) (by decide) (by decide)
    rw [i32_0] at e0
    rw [i32_1] at e1
    rw [show (2 : Int32).toInt = 2 from rfl] at e2
    rw [show (8 : Int32).toInt = 8 from rfl] at e8
    rw [show (9 : Int32).toInt = 9 from rfl] at e9
    refine wp_if (fun _ => ?_) (fun _ => by exfalso; omega)
    refine wp_if (fun _ => ?_) (fun _ => by exfalso; omega)
    refine wp_if (fun _ => ?_) (fun _ => by exfalso; omega)
    refine wp_if (fun _ => ?_) (fun _ => by exfalso; omega)
    refine wp_if (fun _ => ?_) (fun _ => by exfalso; omega)
    have e := i32_inc (x := g fT_made) (by omega)
    refine ⟨_, rfl, ⟨⟨h.1, h.2.1, ⟨?_, ?_, c.2.2.1, c.2.2.2⟩, h.2.2.2⟩, ?_⟩, hf⟩
    · show 0 ≤ (g fT_made + 1).toInt
      omega
    · show 12 * (g fT_made + 1).toInt ≤ (r fT_cells).1
      omega
    · show (g fT_made + 1).toInt ≤ 3 * (g fR_at).toInt + (b + 1)
      omega
  | succ n ih =>
    intro k x5 r h5 h6 hk h hs hc hf
    have c := h.2.2.1
    simp only [BT_make_43, c2_ge, inr_eq, nc_eq, i32_12]
    refine wp_if (fun _ => ?_) (fun _ => ?_)
    · have e0 := i32_ac (x := x4) (y := 0) (by omega) (by omega) (by decide) (by decide)
      have e1 := i32_ac (x := x4) (y := 1) (by omega) (by omega) (by decide) (by decide)
      have e2 := i32_ac (x := x4) (y := 2) (by omega) (by omega) (by decide) (by decide)
      have e8 := i32_ac (x := x4) (y := 8) (by omega) (by omega) (by decide) (by decide)
      have e9 := i32_ac (x := x4) (y := 9) (by omega) (by omega) (by decide) (by decide)
      rw [i32_0] at e0
      rw [i32_1] at e1
      rw [show (2 : Int32).toInt = 2 from rfl] at e2
      rw [show (8 : Int32).toInt = 8 from rfl] at e8
      rw [show (9 : Int32).toInt = 9 from rfl] at e9
      refine wp_if (fun _ => ?_) (fun _ => by exfalso; omega)
      refine wp_if (fun _ => ?_) (fun _ => by exfalso; omega)
      refine wp_if (fun _ => ?_) (fun _ => by exfalso; omega)
      refine wp_if (fun _ => ?_) (fun _ => by exfalso; omega)
      refine wp_if (fun _ => ?_) (fun _ => by exfalso; omega)
      have e := i32_inc (x := g fT_made) (by omega)
      refine ⟨_, rfl, ⟨⟨h.1, h.2.1, ⟨?_, ?_, c.2.2.1, c.2.2.2⟩, h.2.2.2⟩, ?_⟩, hf⟩
      · show 0 ≤ (g fT_made + 1).toInt
        omega
      · show 12 * (g fT_made + 1).toInt ≤ (r fT_cells).1
        omega
      · show (g fT_made + 1).toInt ≤ 3 * (g fR_at).toInt + (b + 1)
        omega
    · have e := i32_inc (x := x5) (by omega)
      have e2 := i32_ac (x := x4) (y := x5) (by omega) (by omega) (by omega) (by omega)
      refine wp_if (fun _ => ?_) (fun _ => by exfalso; omega)
      obtain ⟨k, rfl⟩ : ∃ q, k = q + 1 := ⟨k - 1, by omega⟩
      rw [lT_make_43]
      exact ih k (x5 + 1) (a2_ua r fT_cells ((r fT_cells).1, _)) (by omega) (by omega) (by omega) h hs hc hf
theorem sT_make (L : Nat) (xs : Nat → Int32) {m d : Nat} (hm : 4294967296 ≤ m) (hd : 1 ≤ d) (a1 a2 a3 : Int32) {b : Int} {g : a2_G} {r : a2_A} (h : Cs b g r) (hb : b ≤ 3250) : wp (ev L xs (m + 1) d nT_make [.ref cT, .int a1, .int a2, .int a3] g r) (kT (b + 1) g r) kN := by
  obtain ⟨d, rfl⟩ : ∃ e, d = e + 1 := ⟨d - 1, by omega⟩
  have c0 := h.1.1
  have c := h.1.2.2.1
  have hs := h.2
  have e1 := i32_m12 (x := g fT_made) (by omega) (by omega)
  have e2 := i32_ac (x := g fT_made * 12) (y := 12) (by omega) (by omega) (by decide) (by decide)
  rw [i32_12] at e2
  have e3 : (Int32.ofNat (r fT_cells).1).toInt = (r fT_cells).1 := on_eq (by omega)
  have e4 : (2 * Int32.ofNat (r fT_cells).1).toInt = 2 * (r fT_cells).1 := by
    rw [ml_eq (by rw [e3, show (2 : Int32).toInt = 2 from rfl]; omega) (by rw [e3, show (2 : Int32).toInt = 2 from rfl]; omega), e3]
    rfl
  rw [qT_make]
  simp only [BT_make_40, c2_le, nc_eq, e3, Int32.lt_iff_toInt_lt, i32_0, e4]
  refine wp_if (fun _ => ?_) (fun _ => ?_)
  · exact sT_make43 L xs a1 a2 a3 (g fT_made * 12) e1 (by omega) 12 m 0 r (by rw [i32_0]; omega) (by rw [i32_0]; omega) (by omega) h.1 hs (by omega) Fr.rf
  · refine wp_if (fun _ => ?_) (fun hn => absurd ?_ hn)
    · refine sT_make43 L xs a1 a2 a3 (g fT_made * 12) e1 (by omega) 12 m 0 _ (by rw [i32_0]; omega) (by rw [i32_0]; omega) (by omega) ?_ hs ?_ Fr.rf
      · refine ⟨h.1.1, h.1.2.1, ⟨c.1, ?_, ?_, ?_⟩, h.1.2.2.2⟩
        · show 12 * (g fT_made).toInt ≤ ((2 * ((r fT_cells).1 : Int)).toNat : Int)
          omega
        · show 1152 ≤ (2 * ((r fT_cells).1 : Int)).toNat
          omega
        · show (2 * ((r fT_cells).1 : Int)).toNat ≤ 190000
          omega
      · show 12 * (g fT_made).toInt + 12 ≤ ((2 * ((r fT_cells).1 : Int)).toNat : Int)
        omega
    · exact ⟨by omega, by omega, by omega, by omega, by omega, by omega⟩
theorem sT_start (L : Nat) (xs : Nat → Int32) {m d : Nat} (hm : 4294967296 ≤ m) (hd : 2 ≤ d) {g : a2_G} {r : a2_A} (h : CI g r) : wp (ev L xs (m + 1) d nT_start [.ref cT] g r) (fun o g' r' => o = none ∧ Cs 1 g' r') kN := by
  obtain ⟨d, rfl⟩ : ∃ e, d = e + 1 := ⟨d - 1, by omega⟩
  have c := h.2.2.1
  have c0 := h.1
  rw [qT_start]
  have f : Cs 0 (upd (upd (upd (upd g fT_made 0) fT_numbered 0) fT_units 0) fT_greatestLevel 0) r := ⟨⟨h.1, h.2.1, ⟨Int.le_refl 0, show 12 * (0 : Int) ≤ (r fT_cells).1 by omega, c.2.2⟩, h.2.2.2⟩, show (0 : Int) ≤ 3 * (g fR_at).toInt + 0 by omega⟩
  refine wp_v (sT_make L xs hm (by omega) _ _ _ f (by omega)) (fun _ _ _ hx => hx) ?_
  rintro _ g1 r1 ⟨v, rfl, h1, -⟩
  exact ⟨v, rfl, rfl, h1⟩
/-! Items' open rows. -/
theorem sI_keptOpen53 (L : Nat) (xs : Nat → Int32) {m d : Nat} (x1 : Int32) {g : a2_G} {r : a2_A} (h : CI g r) : ∀ (n k : Nat) (x2 : Int32), x2.toInt ≤ n → n < k → wp (BI_keptOpen_53 L xs m d k x1 x2 g r) (kP g r (fun _ => True)) kN := by
  have c := h.2.2.2.2
  intro n
  induction n with
  | zero =>
    intro k x2 h1 h2
    simp only [BI_keptOpen_53, BI_keptOpen_83, c2_le, i32_0]
    exact wp_if (fun _ => ⟨_, rfl, trivial, rfl, rfl⟩) (fun _ => by exfalso; omega)
  | succ n ih =>
    intro k x2 h1 h2
    have k49 : (49 : Int32).toInt = 49 := rfl
    unfold BI_keptOpen_53 BI_keptOpen_83
    refine wp_if (fun _ => ⟨_, rfl, trivial, rfl, rfl⟩) (fun ha => ?_)
    refine wp_if (fun _ => ⟨_, rfl, trivial, rfl, rfl⟩) (fun hb => ?_)
    rw [c2_le, i32_0] at ha
    rw [c2_gt, k49] at hb
    have f : am_inr (x2 - 1) (r fI_openLevels).1 = true := by
      have e := i32_dec (x := x2) (by omega)
      rw [inr_eq]
      omega
    refine wp_if (fun _ => ?_) (fun hi => absurd f hi)
    refine wp_if (fun _ => ?_) (fun _ => ⟨_, rfl, trivial, rfl, rfl⟩)
    obtain ⟨k, rfl⟩ : ∃ q, k = q + 1 := ⟨k - 1, by omega⟩
    rw [lI_keptOpen_53]
    have f2 : (x2 + (-1)).toInt ≤ (n : Int) := by
      rw [i32_dec' (by omega)]
      omega
    have f3 : n < k := by omega
    generalize x2 + (-1) = y at f2 ⊢
    exact ih k y f2 f3
theorem sI_keptOpen (L : Nat) (xs : Nat → Int32) {m d : Nat} (hm : 4294967296 ≤ m) (hd : 1 ≤ d) (a1 : Int32) {g : a2_G} {r : a2_A} (h : CI g r) : wp (ev L xs (m + 1) d nI_keptOpen [.ref cI, .int a1] g r) (kP g r (fun _ => True)) kN := by
  obtain ⟨d, rfl⟩ : ∃ e, d = e + 1 := ⟨d - 1, by omega⟩
  have c := h.2.2.2.2
  rw [qI_keptOpen]
  unfold BI_keptOpen_11 BI_keptOpen_46 BI_keptOpen_34
  refine wp_if (fun _ => ⟨_, rfl, trivial, rfl, rfl⟩) (fun _ => ?_)
  refine wp_if (fun _ => ?_) (fun _ => ⟨_, rfl, trivial, rfl, rfl⟩)
  refine wp_if (fun _ => ?_) (fun _ => ?_)
  · refine wp_if (fun _ => ⟨_, rfl, trivial, rfl, rfl⟩) (fun _ => ?_)
    refine wp_if (fun _ => ?_) (fun _ => ⟨_, rfl, trivial, rfl, rfl⟩)
    exact sI_keptOpen53 L xs a1 h 49 m (g fI_openSize) (by omega) (by omega)
  · exact wp_if (fun _ => ⟨_, rfl, trivial, rfl, rfl⟩) (fun _ => ⟨_, rfl, trivial, rfl, rfl⟩)
theorem sI_place (L : Nat) (xs : Nat → Int32) {m d : Nat} (hd : 2 ≤ d) (a1 a2 a3 : Int32) {b : Int} {g : a2_G} {r : a2_A} (h : Cs b g r) : wp (ev L xs (m + 1) d nI_place [.ref cI, .int a1, .int a2, .int a3] g r) (kO b) kN := by
  obtain ⟨d, rfl⟩ : ∃ e, d = e + 1 := ⟨d - 1, by omega⟩
  have c := h.1.2.2.2.2
  have f : ∀ (x4 x5 : Int32), wp (BI_place_41 L xs (m + 1) d m a1 a2 a3 x4 x5 g r) (kO b) kN := by
    intro x4 x5
    simp only [BI_place_41, BI_place_82, c2_lt, c2_ge, inr_eq, nc_eq, i32_0, show (49 : Int32).toInt = 49 from rfl]
    refine wp_n (sT_append L xs (by omega) _ _ h) (fun _ _ _ hx => hx) ?_
    rintro _ g1 r1 ⟨rfl, h1, -⟩
    have c1 := h1.1.2.2.2.2
    refine ⟨rfl, ?_⟩
    refine wp_if (fun _ => ⟨rfl, h1⟩) (fun _ => ?_)
    refine wp_if (fun _ => ⟨rfl, h1⟩) (fun _ => ?_)
    refine wp_if (fun _ => ⟨rfl, h1⟩) (fun _ => ?_)
    have e := i32_inc (x := a3) (by omega)
    refine wp_if (fun _ => ?_) (fun _ => by exfalso; omega)
    refine wp_if (fun _ => ?_) (fun _ => by exfalso; omega)
    exact ⟨rfl, CI_os h1.1 (by omega) (by omega), h1.2⟩
  rw [qI_place]
  simp only [BI_place_14, BI_place_15, c2_le, c2_gt, inr_eq, nc_eq, i32_0, show (49 : Int32).toInt = 49 from rfl]
  refine wp_if (fun _ => wp_if (fun _ => f _ _) (fun hn => absurd rfl hn)) (fun _ => ?_)
  refine wp_if (fun _ => wp_if (fun _ => f _ _) (fun hn => absurd rfl hn)) (fun _ => ?_)
  have e := i32_dec (x := a3) (by omega)
  refine wp_if (fun _ => f _ _) (fun _ => ?_)
  exact wp_if (fun _ => f _ _) (fun _ => by exfalso; omega)
/-! Row.add, Row.recover. -/
theorem sR_recover17 (L : Nat) (xs : Nat → Int32) {m d : Nat} (hd : 1 ≤ d) {b : Int} {r : a2_A} : ∀ (n k : Nat) (x1 : Int32) (g : a2_G), x1 = g fR_at → (g fR_size).toInt ≤ x1.toInt + n → n < k → Cs b g r → wp (BR_recover_17 L xs (m + 1) d k x1 g r) (kO b) kN := by
  intro n
  induction n with
  | zero =>
    intro k x1 g e0 h1 h2 h
    simp only [BR_recover_17, BR_recover_51, c2_ge]
    refine wp_if (fun _ => ?_) (fun _ => by exfalso; omega)
    refine wp_n (sR_advance L xs hd h) (fun _ _ _ hx => hx) ?_
    rintro _ g1 r1 ⟨rfl, h1⟩
    exact ⟨rfl, rfl, h1⟩
  | succ n ih =>
    intro k x1 g e0 h1 h2 h
    have c := h.1.1
    simp only [BR_recover_17, BR_recover_51, c2_ge, inr_eq, nc_eq]
    refine wp_if (fun _ => ?_) (fun _ => ?_)
    · refine wp_n (sR_advance L xs hd h) (fun _ _ _ hx => hx) ?_
      rintro _ g1 r1 ⟨rfl, h1⟩
      exact ⟨rfl, rfl, h1⟩
    · subst e0
      refine wp_if (fun _ => ?_) (fun _ => by exfalso; omega)
      refine wp_if (fun _ => ?_) (fun _ => ?_)
      · refine wp_n (sR_advance L xs hd h) (fun _ _ _ hx => hx) ?_
        rintro _ g1 r1 ⟨rfl, h1⟩
        exact ⟨rfl, rfl, h1⟩
      · obtain ⟨k, rfl⟩ : ∃ q, k = q + 1 := ⟨k - 1, by omega⟩
        rw [lR_recover_17]
        have e := i32_inc (x := g fR_at) (by omega)
        exact ih k _ (upd g fR_at (g fR_at + 1)) rfl (by show (g fR_size).toInt ≤ _; omega) (by omega) ((Cs_at h (by unfold Lt; omega)).le (by omega))
theorem sR_recover (L : Nat) (xs : Nat → Int32) {m d : Nat} (hm : 4294967296 ≤ m) (hd : 2 ≤ d) {b : Int} {g : a2_G} {r : a2_A} (h : Cs b g r) : wp (ev L xs (m + 1) d nR_recover [.ref cR] g r) (kO b) kN := by
  obtain ⟨d, rfl⟩ : ∃ e, d = e + 1 := ⟨d - 1, by omega⟩
  rw [qR_recover]
  refine wp_n (sR_note L xs (by omega) _ _ h) (fun _ _ _ hx => hx) ?_
  rintro _ g1 r1 ⟨rfl, h1, -⟩
  have c := h1.1.1
  exact ⟨rfl, sR_recover17 L xs (by omega) 1500 m _ g1 rfl (by omega) (by omega) h1⟩
theorem sR_add (L : Nat) (xs : Nat → Int32) {m d : Nat} (hd : 1 ≤ d) (a1 a2 : Int32) {g : a2_G} {r : a2_A} (h : CI g r) (hs : (g fR_size).toInt < 1500) : wp (ev L xs (m + 1) d nR_add [.ref cR, .int a1, .int a2] g r) (fun o g' r' => o = some (.int (g fR_size + 1)) ∧ CI g' r' ∧ g' fR_size = g fR_size + 1) kN := by
  obtain ⟨d, rfl⟩ : ∃ e, d = e + 1 := ⟨d - 1, by omega⟩
  have c := h.1
  have e3 : (Int32.ofNat (r fR_kinds).1).toInt = (r fR_kinds).1 := on_eq (by omega)
  have e5 : (r fR_values).1 = (r fR_kinds).1 := c.2.2.2.2.1
  have e4 : (2 * g fR_size).toInt = 2 * (g fR_size).toInt := by
    rw [ml_eq (by rw [show (2 : Int32).toInt = 2 from rfl]; omega) (by rw [show (2 : Int32).toInt = 2 from rfl]; omega)]
    rfl
  have e := i32_inc (x := g fR_size) (by omega)
  rw [qR_add]
  simp only [BR_add_46, c2_lt, inr_eq, nc_eq, e3, Int32.lt_iff_toInt_lt, i32_0, e4]
  refine wp_if (fun _ => ?_) (fun _ => ?_)
  · refine wp_if (fun _ => ?_) (fun _ => by exfalso; omega)
    refine wp_if (fun _ => ?_) (fun _ => by exfalso; omega)
    refine ⟨rfl, ⟨⟨c.1, ?_, ?_, ?_, c.2.2.2.2⟩, h.2⟩, rfl⟩
    · show (g fR_at).toInt ≤ (g fR_size + 1).toInt
      omega
    · show (g fR_size + 1).toInt ≤ 1500
      omega
    · show (g fR_size + 1).toInt ≤ (r fR_kinds).1
      omega
  · refine wp_if (fun _ => ?_) (fun hn => absurd ?_ hn)
    · refine wp_if (fun _ => ?_) (fun hn => absurd ?_ hn)
      · have f1 : (a2_ua (a2_ua r fR_kinds (a2_cp (2 * (g fR_size).toInt).toNat (r fR_kinds))) fR_values (a2_cp (2 * (g fR_size).toInt).toNat (r fR_values)) fR_kinds).1 = (2 * (g fR_size).toInt).toNat := rfl
        have f2 : (a2_ua (a2_ua r fR_kinds (a2_cp (2 * (g fR_size).toInt).toNat (r fR_kinds))) fR_values (a2_cp (2 * (g fR_size).toInt).toNat (r fR_values)) fR_values).1 = (2 * (g fR_size).toInt).toNat := rfl
        refine wp_if (fun _ => ?_) (fun _ => by exfalso; omega)
        refine wp_if (fun _ => ?_) (fun _ => by exfalso; omega)
        refine ⟨rfl, ⟨⟨c.1, ?_, ?_, ?_, rfl, ?_, ?_⟩, h.2⟩, rfl⟩
        · show (g fR_at).toInt ≤ (g fR_size + 1).toInt
          omega
        · show (g fR_size + 1).toInt ≤ 1500
          omega
        · show (g fR_size + 1).toInt ≤ ((2 * (g fR_size).toInt).toNat : Int)
          omega
        · show 64 ≤ (2 * (g fR_size).toInt).toNat
          omega
        · show (2 * (g fR_size).toInt).toNat ≤ 3000
          omega
      · exact ⟨by omega, by omega, by omega, by omega, by omega, by omega⟩
    · exact ⟨by omega, by omega, by omega, by omega, by omega, by omega⟩
