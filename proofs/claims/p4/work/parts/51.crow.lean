/-! The class's Row, Units: leaves. -/
theorem CI_at {g : a2_G} {r : a2_A} {x : Int32} (h : CI g r) (h0 : 0 ≤ x.toInt) (h1 : x.toInt ≤ (g fR_size).toInt) : CI (upd g fR_at x) r := ⟨⟨h0, h1, h.1.2.2⟩, h.2⟩
theorem CI_fs {g : a2_G} {r : a2_A} {x : Int32} (h : CI g r) (h0 : 0 ≤ x.toInt) (h1 : x.toInt ≤ 20) : CI (upd g fR_faultSize x) r := ⟨h.1, ⟨h0, h1, h.2.1.2.2⟩, h.2.2⟩
theorem CI_us {g : a2_G} {r : a2_A} {x : Int32} (h : CI g r) (h0 : 0 ≤ x.toInt) (h1 : x.toInt ≤ 10) : CI (upd g fU_size x) r := ⟨h.1, h.2.1, h.2.2.1, ⟨h0, h1, h.2.2.2.1.2.2⟩, h.2.2.2.2⟩
theorem CI_os {g : a2_G} {r : a2_A} {x : Int32} (h : CI g r) (h0 : 0 ≤ x.toInt) (h1 : x.toInt ≤ 49) : CI (upd g fI_openSize x) r := ⟨h.1, h.2.1, h.2.2.1, h.2.2.2.1, ⟨h0, h1, h.2.2.2.2.2.2⟩⟩
theorem sR_isKind (L : Nat) (xs : Nat → Int32) {m d : Nat} (hd : 1 ≤ d) (a1 : Int32) {g : a2_G} {r : a2_A} (h : CI g r) : wp (ev L xs (m + 1) d nR_isKind [.ref cR, .int a1] g r) (kB g r (Lt g)) kN := by
  obtain ⟨d, rfl⟩ : ∃ e, d = e + 1 := ⟨d - 1, by omega⟩
  obtain ⟨⟨c1, c2, c3, c4, c5, c6, c7⟩, -⟩ := h
  rw [qR_isKind]
  simp only [BR_isKind_28, BR_isKind_29, c2_ge, c2_ne, inr_eq, nc_eq]
  repeat' refine wp_if (fun _ => ?_) (fun _ => ?_)
  all_goals first
    | exact ⟨_, rfl, Or.inl rfl, rfl, rfl⟩
    | exact ⟨_, rfl, Or.inr ⟨rfl, by unfold Lt; omega⟩, rfl, rfl⟩
    | (exfalso; omega)
    | (exfalso; simp_all; done)
theorem sR_isReserved (L : Nat) (xs : Nat → Int32) {m d : Nat} (hd : 1 ≤ d) (a1 a2 : Int32) {g : a2_G} {r : a2_A} (h : CI g r) : wp (ev L xs (m + 1) d nR_isReserved [.ref cR, .int a1, .int a2] g r) (kB g r (a2 = 0 → Rw g r a1)) kN := by
  obtain ⟨d, rfl⟩ : ∃ e, d = e + 1 := ⟨d - 1, by omega⟩
  obtain ⟨⟨c1, c2, c3, c4, c5, c6, c7⟩, -⟩ := h
  rw [qR_isReserved]
  simp only [BR_isReserved_42, BR_isReserved_43, c2_ge, c2_ne, c2_lt, inr_eq, nc_eq, i32_0]
  repeat' refine wp_if (fun _ => ?_) (fun _ => ?_)
  all_goals first
    | exact ⟨_, rfl, Or.inl rfl, rfl, rfl⟩
    | (refine ⟨_, rfl, Or.inr ⟨rfl, fun e => ?_⟩, rfl, rfl⟩
       subst e
       simp only [Int32.add_zero, Decidable.not_not] at *
       exact ⟨by unfold Lt; omega, by assumption, by assumption⟩)
    | (exfalso; omega)
    | (exfalso; simp_all; done)
theorem sR_isSign (L : Nat) (xs : Nat → Int32) {m d : Nat} (hd : 1 ≤ d) (a1 a2 : Int32) {g : a2_G} {r : a2_A} (h : CI g r) : wp (ev L xs (m + 1) d nR_isSign [.ref cR, .int a1, .int a2] g r) (kB g r (a2 = 0 → Lt g)) kN := by
  obtain ⟨d, rfl⟩ : ∃ e, d = e + 1 := ⟨d - 1, by omega⟩
  obtain ⟨⟨c1, c2, c3, c4, c5, c6, c7⟩, -⟩ := h
  rw [qR_isSign]
  simp only [BR_isSign_43, BR_isSign_44, c2_ge, c2_ne, c2_lt, inr_eq, nc_eq, i32_0]
  repeat' refine wp_if (fun _ => ?_) (fun _ => ?_)
  all_goals first
    | exact ⟨_, rfl, Or.inl rfl, rfl, rfl⟩
    | (refine ⟨_, rfl, Or.inr ⟨rfl, fun e => ?_⟩, rfl, rfl⟩
       subst e
       simp only [Int32.add_zero] at *
       unfold Lt
       omega)
    | (exfalso; omega)
    | (exfalso; simp_all; done)
theorem sR_isOperand (L : Nat) (xs : Nat → Int32) {m d : Nat} (hd : 1 ≤ d) {g : a2_G} {r : a2_A} (h : CI g r) : wp (ev L xs (m + 1) d nR_isOperand [.ref cR] g r) (kB g r (Lt g)) kN := by
  obtain ⟨d, rfl⟩ : ∃ e, d = e + 1 := ⟨d - 1, by omega⟩
  obtain ⟨⟨c1, c2, c3, c4, c5, c6, c7⟩, -⟩ := h
  rw [qR_isOperand]
  simp only [BR_isOperand_50, BR_isOperand_54, BR_isOperand_55, c2_ge, c2_ne, c2_eq, inr_eq, nc_eq]
  repeat' refine wp_if (fun _ => ?_) (fun _ => ?_)
  all_goals first
    | exact ⟨_, rfl, Or.inl rfl, rfl, rfl⟩
    | exact ⟨_, rfl, Or.inr ⟨rfl, by unfold Lt; omega⟩, rfl, rfl⟩
    | (exfalso; omega)
    | (exfalso; simp_all; done)
theorem sR_isComparingWord (L : Nat) (xs : Nat → Int32) {m d : Nat} (hd : 1 ≤ d) (a1 : Int32) {g : a2_G} {r : a2_A} (h : CI g r) : wp (ev L xs (m + 1) d nR_isComparingWord [.ref cR, .int a1] g r) (kB g r True) kN := by
  obtain ⟨d, rfl⟩ : ∃ e, d = e + 1 := ⟨d - 1, by omega⟩
  obtain ⟨⟨c1, c2, c3, c4, c5, c6, c7⟩, -⟩ := h
  rw [qR_isComparingWord]
  simp only [BR_isComparingWord_19, BR_isComparingWord_109, BR_isComparingWord_108, BR_isComparingWord_104, BR_isComparingWord_90, BR_isComparingWord_74, BR_isComparingWord_73, BR_isComparingWord_46, BR_isComparingWord_45, c2_ge, c2_gt, c2_ne, c2_eq, c2_lt, inr_eq, nc_eq, i32_0]
  repeat' refine wp_if (fun _ => ?_) (fun _ => ?_)
  all_goals first
    | exact ⟨_, rfl, Or.inl rfl, rfl, rfl⟩
    | exact ⟨_, rfl, Or.inr ⟨rfl, trivial⟩, rfl, rfl⟩
    | (exfalso; omega)
    | (exfalso; simp_all; done)
theorem sR_kind (L : Nat) (xs : Nat → Int32) {m d : Nat} (hd : 1 ≤ d) {g : a2_G} {r : a2_A} (h : CI g r) : wp (ev L xs (m + 1) d nR_kind [.ref cR] g r) (kP g r (fun _ => True)) kN := by
  obtain ⟨d, rfl⟩ : ∃ e, d = e + 1 := ⟨d - 1, by omega⟩
  obtain ⟨⟨c1, c2, c3, c4, c5, c6, c7⟩, -⟩ := h
  rw [qR_kind]
  simp only [BR_kind_24, c2_ge, inr_eq, nc_eq]
  repeat' refine wp_if (fun _ => ?_) (fun _ => ?_)
  all_goals first
    | exact ⟨_, rfl, trivial, rfl, rfl⟩
    | (exfalso; omega)
theorem sR_value (L : Nat) (xs : Nat → Int32) {m d : Nat} (hd : 1 ≤ d) {g : a2_G} {r : a2_A} (h : CI g r) : wp (ev L xs (m + 1) d nR_value [.ref cR] g r) (kP g r (fun _ => True)) kN := by
  obtain ⟨d, rfl⟩ : ∃ e, d = e + 1 := ⟨d - 1, by omega⟩
  obtain ⟨⟨c1, c2, c3, c4, c5, c6, c7⟩, -⟩ := h
  rw [qR_value]
  simp only [BR_value_24, c2_ge, inr_eq, nc_eq]
  repeat' refine wp_if (fun _ => ?_) (fun _ => ?_)
  all_goals first
    | exact ⟨_, rfl, trivial, rfl, rfl⟩
    | (exfalso; omega)
theorem sR_place (L : Nat) (xs : Nat → Int32) {m d : Nat} (hd : 1 ≤ d) {g : a2_G} {r : a2_A} (_h : CI g r) : wp (ev L xs (m + 1) d nR_place [.ref cR] g r) (kP g r (fun _ => True)) kN := by
  obtain ⟨d, rfl⟩ : ∃ e, d = e + 1 := ⟨d - 1, by omega⟩
  rw [qR_place]
  exact ⟨_, rfl, trivial, rfl, rfl⟩
theorem sR_faultCount (L : Nat) (xs : Nat → Int32) {m d : Nat} (hd : 1 ≤ d) {g : a2_G} {r : a2_A} (_h : CI g r) : wp (ev L xs (m + 1) d nR_faultCount [.ref cR] g r) (kP g r (fun _ => True)) kN := by
  obtain ⟨d, rfl⟩ : ∃ e, d = e + 1 := ⟨d - 1, by omega⟩
  rw [qR_faultCount]
  exact ⟨_, rfl, trivial, rfl, rfl⟩
theorem sR_wordCount (L : Nat) (xs : Nat → Int32) {m d : Nat} (hd : 1 ≤ d) {g : a2_G} {r : a2_A} (_h : CI g r) : wp (ev L xs (m + 1) d nR_wordCount [.ref cR] g r) (kP g r (fun _ => True)) kN := by
  obtain ⟨d, rfl⟩ : ∃ e, d = e + 1 := ⟨d - 1, by omega⟩
  rw [qR_wordCount]
  exact ⟨_, rfl, trivial, rfl, rfl⟩
theorem sR_faultNumber (L : Nat) (xs : Nat → Int32) {m d : Nat} (hd : 1 ≤ d) (a1 : Int32) {g : a2_G} {r : a2_A} (h : CI g r) : wp (ev L xs (m + 1) d nR_faultNumber [.ref cR, .int a1] g r) (kP g r (fun _ => True)) kN := by
  obtain ⟨d, rfl⟩ : ∃ e, d = e + 1 := ⟨d - 1, by omega⟩
  obtain ⟨-, ⟨c1, c2, c3, c4⟩, -⟩ := h
  rw [qR_faultNumber]
  simp only [BR_faultNumber_21, BR_faultNumber_22, c2_ge, c2_lt, inr_eq, nc_eq, i32_0]
  repeat' refine wp_if (fun _ => ?_) (fun _ => ?_)
  all_goals first
    | exact ⟨_, rfl, trivial, rfl, rfl⟩
    | (exfalso; omega)
theorem sR_faultPlace (L : Nat) (xs : Nat → Int32) {m d : Nat} (hd : 1 ≤ d) (a1 : Int32) {g : a2_G} {r : a2_A} (h : CI g r) : wp (ev L xs (m + 1) d nR_faultPlace [.ref cR, .int a1] g r) (kP g r (fun _ => True)) kN := by
  obtain ⟨d, rfl⟩ : ∃ e, d = e + 1 := ⟨d - 1, by omega⟩
  obtain ⟨-, ⟨c1, c2, c3, c4⟩, -⟩ := h
  rw [qR_faultPlace]
  simp only [BR_faultPlace_21, BR_faultPlace_22, c2_ge, c2_lt, inr_eq, nc_eq, i32_0]
  repeat' refine wp_if (fun _ => ?_) (fun _ => ?_)
  all_goals first
    | exact ⟨_, rfl, trivial, rfl, rfl⟩
    | (exfalso; omega)
theorem sR_goesOn (L : Nat) (xs : Nat → Int32) {m d : Nat} (hd : 1 ≤ d) {g : a2_G} {r : a2_A} (_h : CI g r) : wp (ev L xs (m + 1) d nR_goesOn [.ref cR] g r) (kB g r (Lt g)) kN := by
  obtain ⟨d, rfl⟩ : ∃ e, d = e + 1 := ⟨d - 1, by omega⟩
  rw [qR_goesOn]
  simp only [BR_goesOn_24, BR_goesOn_25, c2_ge]
  repeat' refine wp_if (fun _ => ?_) (fun _ => ?_)
  all_goals first
    | exact ⟨_, rfl, Or.inl rfl, rfl, rfl⟩
    | exact ⟨_, rfl, Or.inr ⟨rfl, by unfold Lt; omega⟩, rfl, rfl⟩
    | (exfalso; simp_all; done)
/-- a refusal always throws -/
theorem sR_refuse (L : Nat) (xs : Nat → Int32) {m d : Nat} (hd : 1 ≤ d) (a1 : Int32) {b bx : Int} {g : a2_G} {r : a2_A} (h : Cs b g r) (hx : b ≤ bx) : wp (ev L xs (m + 1) d nR_refuse [.ref cR, .int a1] g r) (fun _ _ _ => False) (kX bx) := by
  obtain ⟨d, rfl⟩ : ∃ e, d = e + 1 := ⟨d - 1, by omega⟩
  rw [qR_refuse]
  exact ⟨rfl, h.le hx⟩
theorem Cs_at {b : Int} {g : a2_G} {r : a2_A} (h : Cs b g r) (hl : Lt g) : Cs (b - 3) (upd g fR_at (g fR_at + 1)) r := by
  obtain ⟨h1, h2⟩ := h
  have c := h1.1
  unfold Lt at hl
  have e := i32_inc (x := g fR_at) (by omega)
  refine ⟨CI_at h1 (by omega) (by omega), ?_⟩
  show (g fT_made).toInt ≤ 3 * (g fR_at + 1).toInt + (b - 3)
  omega
theorem sR_advance (L : Nat) (xs : Nat → Int32) {m d : Nat} (hd : 1 ≤ d) {b : Int} {g : a2_G} {r : a2_A} (h : Cs b g r) : wp (ev L xs (m + 1) d nR_advance [.ref cR] g r) (kO b) kN := by
  obtain ⟨d, rfl⟩ : ∃ e, d = e + 1 := ⟨d - 1, by omega⟩
  rw [qR_advance]
  simp only [BR_advance_21, c2_ge]
  refine wp_if (fun _ => ?_) (fun _ => ?_)
  · exact ⟨rfl, h⟩
  · exact ⟨rfl, (Cs_at h (by unfold Lt; omega)).le (by omega)⟩
/-- .. where a word is left -/
theorem sR_advanceL (L : Nat) (xs : Nat → Int32) {m d : Nat} (hd : 1 ≤ d) {b : Int} {g : a2_G} {r : a2_A} (h : Cs b g r) (hl : Lt g) : wp (ev L xs (m + 1) d nR_advance [.ref cR] g r) (kO (b - 3)) kN := by
  obtain ⟨d, rfl⟩ : ∃ e, d = e + 1 := ⟨d - 1, by omega⟩
  rw [qR_advance]
  simp only [BR_advance_21, c2_ge]
  refine wp_if (fun _ => ?_) (fun _ => ?_)
  · exfalso
    unfold Lt at hl
    omega
  · exact ⟨rfl, Cs_at h hl⟩
theorem sR_skip (L : Nat) (xs : Nat → Int32) {m d : Nat} (hd : 1 ≤ d) (a1 : Int32) {b : Int} {g : a2_G} {r : a2_A} (h : Cs b g r) : wp (ev L xs (m + 1) d nR_skip [.ref cR, .int a1] g r) (kS b g r a1) kN := by
  obtain ⟨d, rfl⟩ : ∃ e, d = e + 1 := ⟨d - 1, by omega⟩
  obtain ⟨⟨c1, c2, c3, c4, c5, c6, c7⟩, -⟩ := h.1
  rw [qR_skip]
  simp only [BR_skip_40, BR_skip_41, BR_skip_56, c2_ge, c2_ne, c2_eq, inr_eq, nc_eq]
  repeat' refine wp_if (fun _ => ?_) (fun _ => ?_)
  all_goals first
    | (refine ⟨_, rfl, Or.inl ⟨rfl, rfl, rfl, ?_⟩⟩; rintro ⟨f1, f2, f3⟩; unfold Lt at f1; omega)
    | (refine ⟨_, rfl, Or.inl ⟨rfl, rfl, rfl, ?_⟩⟩; rintro ⟨f1, f2, f3⟩; contradiction)
    | exact ⟨_, rfl, Or.inr ⟨rfl, Cs_at h (by unfold Lt; omega)⟩⟩
    | (exfalso; omega)
    | (exfalso; simp_all; done)
/-- .. where its answer isn't asked for -/
theorem sR_skipW (L : Nat) (xs : Nat → Int32) {m d : Nat} (hd : 1 ≤ d) (a1 : Int32) {b : Int} {g : a2_G} {r : a2_A} (h : Cs b g r) : wp (ev L xs (m + 1) d nR_skip [.ref cR, .int a1] g r) (kV b) kN := by
  refine wp_mono (sR_skip L xs hd a1 h) ?_ (fun _ _ _ hx => hx)
  rintro o g' r' ⟨v, rfl, ⟨-, rfl, rfl, -⟩ | ⟨-, h2⟩⟩
  · exact ⟨v, rfl, h⟩
  · exact ⟨v, rfl, h2.le (by omega)⟩
theorem sR_note (L : Nat) (xs : Nat → Int32) {m d : Nat} (hd : 1 ≤ d) (a1 a2 : Int32) {b : Int} {g : a2_G} {r : a2_A} (h : Cs b g r) : wp (ev L xs (m + 1) d nR_note [.ref cR, .int a1, .int a2] g r) (kTn b g r) kN := by
  obtain ⟨d, rfl⟩ : ∃ e, d = e + 1 := ⟨d - 1, by omega⟩
  have c := h.1.2.1
  rw [qR_note]
  simp only [BR_note_39, c2_ge, inr_eq, nc_eq, show (20 : Int32).toInt = 20 from rfl]
  refine wp_if (fun _ => ?_) (fun _ => ?_)
  · exact ⟨rfl, h, Fr.rf⟩
  · have e := i32_inc (x := g fR_faultSize) (by omega)
    refine wp_if (fun _ => ?_) (fun _ => ?_)
    · refine wp_if (fun _ => ?_) (fun _ => ?_)
      · exact ⟨rfl, ⟨CI_fs h.1 (by omega) (by omega), h.2⟩, Fr.rf⟩
      · exfalso; omega
    · exfalso; omega
theorem sR_start (L : Nat) (xs : Nat → Int32) {m d : Nat} (hd : 1 ≤ d) {g : a2_G} {r : a2_A} (h : CI g r) : wp (ev L xs (m + 1) d nR_start [.ref cR] g r) (fun o g' r' => o = none ∧ CI g' r') kN := by
  obtain ⟨d, rfl⟩ : ∃ e, d = e + 1 := ⟨d - 1, by omega⟩
  rw [qR_start]
  exact ⟨rfl, CI_fs (CI_at h (by rw [i32_0]; omega) (by rw [i32_0]; have := h.1; omega)) (by rw [i32_0]; omega) (by rw [i32_0]; omega)⟩
theorem sR_clear (L : Nat) (xs : Nat → Int32) {m d : Nat} (hd : 1 ≤ d) {g : a2_G} {r : a2_A} (h : CI g r) : wp (ev L xs (m + 1) d nR_clear [.ref cR] g r) (fun o g' r' => o = none ∧ CI g' r' ∧ g' fR_size = 0) kN := by
  obtain ⟨d, rfl⟩ : ∃ e, d = e + 1 := ⟨d - 1, by omega⟩
  rw [qR_clear]
  have c := h.1
  have f : CI (upd (upd g fR_size 0) fR_at 0) r := ⟨⟨Int.le_refl 0, Int.le_refl 0, show (0 : Int) ≤ 1500 by omega, show (0 : Int) ≤ (r fR_kinds).1 by omega, c.2.2.2.2⟩, h.2⟩
  exact ⟨rfl, f, rfl⟩
theorem sU_openCount (L : Nat) (xs : Nat → Int32) {m d : Nat} (hd : 1 ≤ d) {g : a2_G} {r : a2_A} (_h : CI g r) : wp (ev L xs (m + 1) d nU_openCount [.ref cU] g r) (kP g r (fun _ => True)) kN := by
  obtain ⟨d, rfl⟩ : ∃ e, d = e + 1 := ⟨d - 1, by omega⟩
  rw [qU_openCount]
  exact ⟨_, rfl, trivial, rfl, rfl⟩
theorem sU_isFull (L : Nat) (xs : Nat → Int32) {m d : Nat} (hd : 1 ≤ d) {g : a2_G} {r : a2_A} (_h : CI g r) : wp (ev L xs (m + 1) d nU_isFull [.ref cU] g r) (kB g r True) kN := by
  obtain ⟨d, rfl⟩ : ∃ e, d = e + 1 := ⟨d - 1, by omega⟩
  rw [qU_isFull]
  simp only [BU_isFull_14]
  repeat' refine wp_if (fun _ => ?_) (fun _ => ?_)
  all_goals first
    | exact ⟨_, rfl, Or.inl rfl, rfl, rfl⟩
    | exact ⟨_, rfl, Or.inr ⟨rfl, trivial⟩, rfl, rfl⟩
    | (exfalso; simp_all; done)
theorem sU_state (L : Nat) (xs : Nat → Int32) {m d : Nat} (hd : 1 ≤ d) {g : a2_G} {r : a2_A} (h : CI g r) : wp (ev L xs (m + 1) d nU_state [.ref cU] g r) (kP g r (fun _ => True)) kN := by
  obtain ⟨d, rfl⟩ : ∃ e, d = e + 1 := ⟨d - 1, by omega⟩
  have c := h.2.2.2.1
  rw [qU_state]
  simp only [BU_state_22, c2_le, inr_eq, nc_eq, i32_0]
  refine wp_if (fun _ => ?_) (fun _ => ?_)
  · exact ⟨_, rfl, trivial, rfl, rfl⟩
  · have e := i32_dec (x := g fU_size) (by omega)
    refine wp_if (fun _ => ?_) (fun _ => ?_)
    · exact ⟨_, rfl, trivial, rfl, rfl⟩
    · exfalso; omega
theorem sU_kind (L : Nat) (xs : Nat → Int32) {m d : Nat} (hd : 1 ≤ d) {g : a2_G} {r : a2_A} (h : CI g r) : wp (ev L xs (m + 1) d nU_kind [.ref cU] g r) (kP g r (fun _ => True)) kN := by
  obtain ⟨d, rfl⟩ : ∃ e, d = e + 1 := ⟨d - 1, by omega⟩
  have c := h.2.2.2.1
  rw [qU_kind]
  simp only [BU_kind_22, c2_le, inr_eq, nc_eq, i32_0]
  refine wp_if (fun _ => ?_) (fun _ => ?_)
  · exact ⟨_, rfl, trivial, rfl, rfl⟩
  · have e := i32_dec (x := g fU_size) (by omega)
    refine wp_if (fun _ => ?_) (fun _ => ?_)
    · exact ⟨_, rfl, trivial, rfl, rfl⟩
    · exfalso; omega
theorem sU_name (L : Nat) (xs : Nat → Int32) {m d : Nat} (hd : 1 ≤ d) {g : a2_G} {r : a2_A} (h : CI g r) : wp (ev L xs (m + 1) d nU_name [.ref cU] g r) (kP g r (fun _ => True)) kN := by
  obtain ⟨d, rfl⟩ : ∃ e, d = e + 1 := ⟨d - 1, by omega⟩
  have c := h.2.2.2.1
  rw [qU_name]
  simp only [BU_name_22, c2_le, inr_eq, nc_eq, i32_0]
  refine wp_if (fun _ => ?_) (fun _ => ?_)
  · exact ⟨_, rfl, trivial, rfl, rfl⟩
  · have e := i32_dec (x := g fU_size) (by omega)
    refine wp_if (fun _ => ?_) (fun _ => ?_)
    · exact ⟨_, rfl, trivial, rfl, rfl⟩
    · exfalso; omega
theorem sU_handle (L : Nat) (xs : Nat → Int32) {m d : Nat} (hd : 1 ≤ d) {g : a2_G} {r : a2_A} (h : CI g r) : wp (ev L xs (m + 1) d nU_handle [.ref cU] g r) (kP g r (fun _ => True)) kN := by
  obtain ⟨d, rfl⟩ : ∃ e, d = e + 1 := ⟨d - 1, by omega⟩
  have c := h.2.2.2.1
  rw [qU_handle]
  simp only [BU_handle_22, c2_le, inr_eq, nc_eq, i32_0]
  refine wp_if (fun _ => ?_) (fun _ => ?_)
  · exact ⟨_, rfl, trivial, rfl, rfl⟩
  · have e := i32_dec (x := g fU_size) (by omega)
    refine wp_if (fun _ => ?_) (fun _ => ?_)
    · exact ⟨_, rfl, trivial, rfl, rfl⟩
    · exfalso; omega
theorem sU_setState (L : Nat) (xs : Nat → Int32) {m d : Nat} (hd : 1 ≤ d) (a1 : Int32) {b : Int} {g : a2_G} {r : a2_A} (h : Cs b g r) : wp (ev L xs (m + 1) d nU_setState [.ref cU, .int a1] g r) (kTn b g r) kN := by
  obtain ⟨d, rfl⟩ : ∃ e, d = e + 1 := ⟨d - 1, by omega⟩
  have c := h.1.2.2.2.1
  rw [qU_setState]
  simp only [BU_setState_19, c2_le, inr_eq, nc_eq, i32_0]
  refine wp_if (fun _ => ?_) (fun _ => ?_)
  · exact ⟨rfl, h, Fr.rf⟩
  · have e := i32_dec (x := g fU_size) (by omega)
    refine wp_if (fun _ => ?_) (fun _ => ?_)
    · exact ⟨rfl, h, Fr.rf⟩
    · exfalso; omega
theorem sU_identify (L : Nat) (xs : Nat → Int32) {m d : Nat} (hd : 1 ≤ d) (a1 a2 : Int32) {b : Int} {g : a2_G} {r : a2_A} (h : Cs b g r) : wp (ev L xs (m + 1) d nU_identify [.ref cU, .int a1, .int a2] g r) (kTn b g r) kN := by
  obtain ⟨d, rfl⟩ : ∃ e, d = e + 1 := ⟨d - 1, by omega⟩
  have c := h.1.2.2.2.1
  rw [qU_identify]
  simp only [BU_identify_31, c2_le, inr_eq, nc_eq, i32_0]
  refine wp_if (fun _ => ?_) (fun _ => ?_)
  · exact ⟨rfl, h, Fr.rf⟩
  · have e := i32_dec (x := g fU_size) (by omega)
    refine wp_if (fun _ => ?_) (fun _ => ?_)
    · refine wp_if (fun _ => ?_) (fun _ => ?_)
      · exact ⟨rfl, h, Fr.rf⟩
      · exfalso; omega
    · exfalso; omega
theorem sU_close (L : Nat) (xs : Nat → Int32) {m d : Nat} (hd : 1 ≤ d) {b : Int} {g : a2_G} {r : a2_A} (h : Cs b g r) : wp (ev L xs (m + 1) d nU_close [.ref cU] g r) (kTn b g r) kN := by
  obtain ⟨d, rfl⟩ : ∃ e, d = e + 1 := ⟨d - 1, by omega⟩
  have c := h.1.2.2.2.1
  rw [qU_close]
  simp only [BU_close_17, c2_le, i32_0]
  refine wp_if (fun _ => ?_) (fun _ => ?_)
  · exact ⟨rfl, h, Fr.rf⟩
  · have e := i32_dec (x := g fU_size) (by omega)
    exact ⟨rfl, ⟨CI_us h.1 (by omega) (by omega), h.2⟩, Fr.rf⟩
theorem sU_open (L : Nat) (xs : Nat → Int32) {m d : Nat} (hd : 1 ≤ d) (a1 : Int32) {b : Int} {g : a2_G} {r : a2_A} (h : Cs b g r) : wp (ev L xs (m + 1) d nU_open [.ref cU, .int a1] g r) (kTn b g r) kN := by
  obtain ⟨d, rfl⟩ : ∃ e, d = e + 1 := ⟨d - 1, by omega⟩
  have c := h.1.2.2.2.1
  rw [qU_open]
  simp only [BU_open_59, c2_ge, inr_eq, nc_eq, show (10 : Int32).toInt = 10 from rfl]
  refine wp_if (fun _ => ?_) (fun _ => ?_)
  · exact ⟨rfl, h, Fr.rf⟩
  · have e := i32_inc (x := g fU_size) (by omega)
    refine wp_if (fun _ => ?_) (fun _ => by exfalso; omega)
    refine wp_if (fun _ => ?_) (fun _ => by exfalso; omega)
    refine wp_if (fun _ => ?_) (fun _ => by exfalso; omega)
    refine wp_if (fun _ => ?_) (fun _ => by exfalso; omega)
    exact ⟨rfl, ⟨CI_us h.1 (by omega) (by omega), h.2⟩, Fr.rf⟩
theorem sU_start (L : Nat) (xs : Nat → Int32) {m d : Nat} (hd : 1 ≤ d) {b : Int} {g : a2_G} {r : a2_A} (h : Cs b g r) : wp (ev L xs (m + 1) d nU_start [.ref cU] g r) (kTn b g r) kN := by
  obtain ⟨d, rfl⟩ : ∃ e, d = e + 1 := ⟨d - 1, by omega⟩
  rw [qU_start]
  exact ⟨rfl, ⟨CI_us h.1 (by rw [i32_0]; omega) (by rw [i32_0]; omega), h.2⟩, Fr.rf⟩
theorem sI_startIn (L : Nat) (xs : Nat → Int32) {m d : Nat} (hd : 1 ≤ d) (a1 : Int32) {b : Int} {g : a2_G} {r : a2_A} (h : Cs b g r) : wp (ev L xs (m + 1) d nI_startIn [.ref cI, .int a1] g r) (kTn b g r) kN := by
  obtain ⟨d, rfl⟩ : ∃ e, d = e + 1 := ⟨d - 1, by omega⟩
  rw [qI_startIn]
  have f : CI (upd (upd g fI_holder a1) fI_openSize 0) r := CI_os (g := upd g fI_holder a1) h.1 (by rw [i32_0]; omega) (by rw [i32_0]; omega)
  exact ⟨rfl, ⟨f, h.2⟩, Fr.rf⟩
