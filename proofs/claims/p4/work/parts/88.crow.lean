/-! The class's Row against the reader's words. -/
/-- what a clause began with: how many faults, and all registers -/
abbrev Gh : Type := Int32 × a2_G × a2_A
def cp15 (c : Nat) : Prop := 1 ≤ c ∧ c ≤ 5
def Ro (w : Ws) (f : Gh) (p : Nat) (g : a2_G) (r : a2_A) : Prop := (r fR_kinds).2 = w.1 ∧ (r fR_values).2 = w.2.1 ∧ (g fR_size).toInt = w.2.2 ∧ (g fR_at).toInt = p ∧ p ≤ w.2.2 ∧ w.2.2 ≤ 1500 ∧ g fR_faultSize = f.1 ∧ cpF cp15 f.2.1 f.2.2 g r
theorem cpF.wd {C C' : Nat → Prop} (h : ∀ c, C c → C' c) {g g' : a2_G} {r r' : a2_A} (a : cpF C g r g' r') : cpF C' g r g' r' := ⟨fun k hk => a.1 k (fun e => hk (h _ e)), fun k hk => a.2 k (fun e => hk (h _ e))⟩
/-- where the class's reading stands: at p -/
def Ru (w : Ws) (f : Gh) (p : Nat) (g : a2_G) (r : a2_A) : Prop := Ro w f p g r ∧ Tm g r
theorem Ro.t {w : Ws} {f : Gh} {p : Nat} {g g' : a2_G} {r r' : a2_A} (h : Ro w f p g r) (c : cpF cpTT g r g' r') : Ro w f p g' r' := by
  refine ⟨?_, ?_, ?_, ?_, h.2.2.2.2.1, h.2.2.2.2.2.1, ?_, h.2.2.2.2.2.2.2.trans (c.wd (fun q e => by unfold cpTT at e; unfold cp15; omega))⟩
  · rw [c.2 fR_kinds (by unfold cpTT; decide)]; exact h.1
  · rw [c.2 fR_values (by unfold cpTT; decide)]; exact h.2.1
  · rw [c.1 fR_size (by unfold cpTT; decide)]; exact h.2.2.1
  · rw [c.1 fR_at (by unfold cpTT; decide)]; exact h.2.2.2.1
  · rw [c.1 fR_faultSize (by unfold cpTT; decide)]; exact h.2.2.2.2.2.2.1
theorem Ro.x {w : Ws} {f : Gh} {p : Nat} {g : a2_G} {r : a2_A} (h : Ro w f p g r) {k : Nat} (x : Int32) (hk : k / 100 = 5) : Ro w f p (upd g k x) r := by
  obtain ⟨h1, h2, h3, h4, h5, h6, h7, h8⟩ := h
  have e : ∀ j, j / 100 ≠ 5 → upd g k x j = g j := fun j hj => upd_ne (fun e => hj (e ▸ hk))
  refine ⟨h1, h2, ?_, ?_, h5, h6, ?_, h8.trans (cpF.up (by unfold cp15; omega))⟩
  · rw [e _ (by decide)]; exact h3
  · rw [e _ (by decide)]; exact h4
  · rw [e _ (by decide)]; exact h7
theorem Ru.x {w : Ws} {f : Gh} {p : Nat} {g : a2_G} {r : a2_A} (h : Ru w f p g r) {k : Nat} (x : Int32) (hk : k / 100 = 5) : Ru w f p (upd g k x) r := by
  have e : upd g k x fT_made = g fT_made := upd_ne (fun e => by rw [← e] at hk; exact absurd hk (by decide))
  refine ⟨h.1.x x hk, ?_⟩
  unfold Tm
  rw [e]
  exact h.2
def kE (g : a2_G) (r : a2_A) (v : Int32) : Option Value → a2_G → a2_A → Prop := fun o g' r' => o = some (.int v) ∧ g' = g ∧ r' = r
theorem wk_t {w : Ws} {p : Nat} {k : Int32} (h1 : p < w.2.2) (h2 : w.1 p = k) : wk w p k = true := by
  unfold wk
  rw [decide_eq_true h1, decide_eq_true h2]
  rfl
theorem wk_f {w : Ws} {p : Nat} {k : Int32} (h : ¬ (p < w.2.2 ∧ w.1 p = k)) : wk w p k = false := by
  unfold wk
  rw [← Bool.not_eq_true, Bool.and_eq_true, decide_eq_true_eq, decide_eq_true_eq]
  exact h
theorem wk_iff {w : Ws} {p : Nat} {k : Int32} : wk w p k = true ↔ p < w.2.2 ∧ w.1 p = k := by
  unfold wk
  rw [Bool.and_eq_true, decide_eq_true_eq, decide_eq_true_eq]
theorem ww_iff {w : Ws} {p : Nat} {v : Int32} : ww w p v = true ↔ p < w.2.2 ∧ w.1 p = 0 ∧ w.2.1 p = v := by
  unfold ww
  rw [Bool.and_eq_true, wk_iff, decide_eq_true_eq, and_assoc]
theorem wg_iff {w : Ws} {p : Nat} {v : Int32} : wg w p v = true ↔ p < w.2.2 ∧ w.1 p = 5 ∧ w.2.1 p = v := by
  unfold wg
  rw [Bool.and_eq_true, wk_iff, decide_eq_true_eq, and_assoc]
theorem wo_iff {w : Ws} {p : Nat} : wo w p = true ↔ p < w.2.2 ∧ (w.1 p = 1 ∨ w.1 p = 2 ∨ w.1 p = 3) := by
  unfold wo
  rw [Bool.or_eq_true, Bool.or_eq_true, wk_iff, wk_iff, wk_iff, or_assoc, ← and_or_left, ← and_or_left]
theorem wc_iff {w : Ws} {p : Nat} : wc w p = true ↔ p < w.2.2 ∧ (w.1 p = 5 ∧ 2 ≤ (w.2.1 p).toInt ∧ (w.2.1 p).toInt ≤ 4 ∨ w.1 p = 0 ∧ 68 ≤ (w.2.1 p).toInt ∧ (w.2.1 p).toInt ≤ 70) := by
  unfold wc
  rw [Bool.or_eq_true, Bool.and_eq_true, Bool.and_eq_true, Bool.and_eq_true, Bool.and_eq_true, wk_iff, wk_iff, decide_eq_true_eq, decide_eq_true_eq, decide_eq_true_eq, decide_eq_true_eq, and_assoc, and_assoc, ← and_or_left]
theorem wb_iff {w : Ws} {p : Nat} : wb w p = true ↔ p < w.2.2 ∧ w.1 p = 0 ∧ (36 ≤ (w.2.1 p).toInt ∧ (w.2.1 p).toInt ≤ 47 ∨ w.2.1 p = 29) := by
  unfold wb
  rw [Bool.and_eq_true, wk_iff, Bool.or_eq_true, Bool.and_eq_true, decide_eq_true_eq, decide_eq_true_eq, decide_eq_true_eq, and_assoc]
theorem b2i_is {b : Bool} {P : Prop} (h : b = true ↔ P) (hp : P) : (1 : Int32) = b2i b := by
  rw [h.mpr hp]
  rfl
theorem b2i_no {b : Bool} {P : Prop} (h : b = true ↔ P) (hp : ¬ P) : (0 : Int32) = b2i b := by
  rw [show b = false from Bool.eq_false_iff.mpr (fun e => hp (h.mp e))]
  rfl
theorem kE_is {b : Bool} {P : Prop} (h : b = true ↔ P) (hp : P) : some (Value.int 1) = some (Value.int (b2i b)) := congrArg (fun v => some (Value.int v)) (b2i_is h hp)
theorem kE_no {b : Bool} {P : Prop} (h : b = true ↔ P) (hp : ¬ P) : some (Value.int 0) = some (Value.int (b2i b)) := congrArg (fun v => some (Value.int v)) (b2i_no h hp)
section
variable {w : Ws} {f : Gh} {p : Nat} {g : a2_G} {r : a2_A}
theorem Ro.nat (h : Ro w f p g r) : (g fR_at).toNatClampNeg = p := by
  rw [nc_eq, h.2.2.2.1]
  rfl
theorem Ro.add (h : Ro w f p g r) {a : Int32} {j : Nat} (ha : a.toInt = j) (hj : j ≤ 10) : (g fR_at + a).toInt = ((p + j : Nat) : Int) ∧ (g fR_at + a).toNatClampNeg = p + j := by
  have e : (g fR_at + a).toInt = ((p + j : Nat) : Int) := by
    rw [ad_eq (by rw [h.2.2.2.1, ha]; omega) (by rw [h.2.2.2.1, ha]; have := h.2.2.2.2.1; have := h.2.2.2.2.2.1; omega), h.2.2.2.1, ha]
    rfl
  exact ⟨e, by rw [nc_eq, e]; rfl⟩
theorem xR_isKind (L : Nat) (xs : Nat → Int32) {m d : Nat} (a : Int32) (h : Ro w f p g r) : pl (ev L xs (m + 1) d nR_isKind [.ref cR, .int a] g r) (kE g r (b2i (wk w p a))) kN := by
  cases d with
  | zero => trivial
  | succ d =>
    rw [qR_isKind]
    simp only [BR_isKind_28, BR_isKind_29, c2_ge, c2_ne, h.nat, h.1, h.2.2.1, h.2.2.2.1]
    refine pl_if (fun hc => ?_) (fun hc => ?_)
    · exact pl_if (fun _ => ⟨kE_no wk_iff (by omega), rfl, rfl⟩) (fun _ => trivial)
    · refine pl_if (fun _ => ?_) (fun _ => trivial)
      refine pl_if (fun hk => ?_) (fun hk => ?_)
      · exact pl_if (fun _ => ⟨kE_no wk_iff (fun e => hk e.2), rfl, rfl⟩) (fun _ => trivial)
      · exact pl_if (fun _ => ⟨kE_is wk_iff ⟨by omega, Decidable.not_not.mp hk⟩, rfl, rfl⟩) (fun _ => trivial)
theorem xR_isReserved (L : Nat) (xs : Nat → Int32) {m d : Nat} (a b : Int32) {j : Nat} (hb : b.toInt = j) (hj : j ≤ 10) (h : Ro w f p g r) : pl (ev L xs (m + 1) d nR_isReserved [.ref cR, .int a, .int b] g r) (kE g r (b2i (ww w (p + j) a))) kN := by
  cases d with
  | zero => trivial
  | succ d =>
    obtain ⟨e1, e2⟩ := h.add hb hj
    rw [qR_isReserved]
    simp only [BR_isReserved_42, BR_isReserved_43, c2_ge, c2_ne, c2_lt, e1, e2, h.1, h.2.1, h.2.2.1, i32_0]
    refine pl_if (fun hc => by exfalso; omega) (fun _ => ?_)
    refine pl_if (fun hc => ?_) (fun hc => ?_)
    · exact pl_if (fun _ => ⟨kE_no ww_iff (by omega), rfl, rfl⟩) (fun _ => trivial)
    · refine pl_if (fun _ => ?_) (fun _ => trivial)
      refine pl_if (fun hk => ?_) (fun hk => ?_)
      · exact pl_if (fun _ => ⟨kE_no ww_iff (fun e => hk e.2.1), rfl, rfl⟩) (fun _ => trivial)
      · refine pl_if (fun _ => ?_) (fun _ => trivial)
        refine pl_if (fun hv => ?_) (fun hv => ?_)
        · exact pl_if (fun _ => ⟨kE_no ww_iff (fun e => hv e.2.2), rfl, rfl⟩) (fun _ => trivial)
        · exact pl_if (fun _ => ⟨kE_is ww_iff ⟨by omega, Decidable.not_not.mp hk, Decidable.not_not.mp hv⟩, rfl, rfl⟩) (fun _ => trivial)
theorem xR_isSign (L : Nat) (xs : Nat → Int32) {m d : Nat} (a b : Int32) {j : Nat} (hb : b.toInt = j) (hj : j ≤ 10) (h : Ro w f p g r) : pl (ev L xs (m + 1) d nR_isSign [.ref cR, .int a, .int b] g r) (kE g r (b2i (wg w (p + j) a))) kN := by
  cases d with
  | zero => trivial
  | succ d =>
    obtain ⟨e1, e2⟩ := h.add hb hj
    rw [qR_isSign]
    simp only [BR_isSign_43, BR_isSign_44, c2_ge, c2_ne, c2_lt, e1, e2, h.1, h.2.1, h.2.2.1, i32_0]
    refine pl_if (fun hc => by exfalso; omega) (fun _ => ?_)
    refine pl_if (fun hc => ?_) (fun hc => ?_)
    · exact pl_if (fun _ => ⟨kE_no wg_iff (by omega), rfl, rfl⟩) (fun _ => trivial)
    · refine pl_if (fun _ => ?_) (fun _ => trivial)
      refine pl_if (fun hk => ?_) (fun hk => ?_)
      · exact pl_if (fun _ => ⟨kE_no wg_iff (fun e => hk e.2.1), rfl, rfl⟩) (fun _ => trivial)
      · refine pl_if (fun _ => ?_) (fun _ => trivial)
        refine pl_if (fun hv => ?_) (fun hv => ?_)
        · exact pl_if (fun _ => ⟨kE_no wg_iff (fun e => hv e.2.2), rfl, rfl⟩) (fun _ => trivial)
        · exact pl_if (fun _ => ⟨kE_is wg_iff ⟨by omega, Decidable.not_not.mp hk, Decidable.not_not.mp hv⟩, rfl, rfl⟩) (fun _ => trivial)
theorem xR_isOperand (L : Nat) (xs : Nat → Int32) {m d : Nat} (h : Ro w f p g r) : pl (ev L xs (m + 1) d nR_isOperand [.ref cR] g r) (kE g r (b2i (wo w p))) kN := by
  cases d with
  | zero => trivial
  | succ d =>
    rw [qR_isOperand]
    simp only [BR_isOperand_50, BR_isOperand_54, BR_isOperand_55, c2_ge, c2_ne, c2_eq, h.nat, h.1, h.2.2.1, h.2.2.2.1]
    refine pl_if (fun hc => ?_) (fun hc => ?_)
    · exact pl_if (fun _ => ⟨kE_no wo_iff (by omega), rfl, rfl⟩) (fun _ => trivial)
    · have hp : p < w.2.2 := by omega
      repeat' refine pl_if (fun _ => ?_) (fun _ => ?_)
      all_goals first
        | trivial
        | exact ⟨kE_is wo_iff ⟨hp, by simp_all⟩, rfl, rfl⟩
        | exact ⟨kE_no wo_iff (fun e => by simp_all), rfl, rfl⟩
theorem xR_isComparingWord (L : Nat) (xs : Nat → Int32) {m d : Nat} (b : Int32) {j : Nat} (hb : b.toInt = j) (hj : j ≤ 10) (h : Ro w f p g r) : pl (ev L xs (m + 1) d nR_isComparingWord [.ref cR, .int b] g r) (kE g r (b2i (wc w (p + j)))) kN := by
  cases d with
  | zero => trivial
  | succ d =>
    obtain ⟨e1, e2⟩ := h.add hb hj
    rw [qR_isComparingWord]
    simp only [BR_isComparingWord_19, BR_isComparingWord_45, BR_isComparingWord_46, BR_isComparingWord_73, BR_isComparingWord_74, BR_isComparingWord_90, BR_isComparingWord_104, BR_isComparingWord_108, BR_isComparingWord_109, c2_ge, c2_gt, c2_ne, c2_eq, c2_lt, e1, e2, h.1, h.2.1, h.2.2.1, i32_0, show (2 : Int32).toInt = 2 from rfl, show (4 : Int32).toInt = 4 from rfl, show (68 : Int32).toInt = 68 from rfl, show (70 : Int32).toInt = 70 from rfl]
    refine pl_if (fun hc => by exfalso; omega) (fun _ => ?_)
    refine pl_if (fun hp => ?_) (fun hp => ⟨kE_no wc_iff (by omega), rfl, rfl⟩)
    have hp' : p + j < w.2.2 := by omega
    have h05 : ¬ ((0 : Int32) = 5) := by decide
    repeat' refine pl_if (fun _ => ?_) (fun _ => ?_)
    all_goals first
      | trivial
      | (exfalso; simp_all; done)
      | (refine ⟨?_, rfl, rfl⟩
         first
           | exact kE_is wc_iff ⟨hp', by simp_all <;> omega⟩
           | exact kE_no wc_iff (fun e => by simp_all <;> omega))
theorem xR_value (L : Nat) (xs : Nat → Int32) {m d : Nat} (h : Ro w f p g r) : pl (ev L xs (m + 1) d nR_value [.ref cR] g r) (kE g r (if p < w.2.2 then w.2.1 p else -1)) kN := by
  cases d with
  | zero => trivial
  | succ d =>
    rw [qR_value]
    simp only [BR_value_24, c2_ge, h.nat, h.2.1, h.2.2.1, h.2.2.2.1]
    refine pl_if (fun hc => ⟨by rw [if_neg (by omega)], rfl, rfl⟩) (fun hc => pl_if (fun _ => ⟨by rw [if_pos (by omega)], rfl, rfl⟩) (fun _ => trivial))
theorem xR_kind (L : Nat) (xs : Nat → Int32) {m d : Nat} (h : Ro w f p g r) : pl (ev L xs (m + 1) d nR_kind [.ref cR] g r) (kE g r (if p < w.2.2 then w.1 p else -1)) kN := by
  cases d with
  | zero => trivial
  | succ d =>
    rw [qR_kind]
    simp only [BR_kind_24, c2_ge, h.nat, h.1, h.2.2.1, h.2.2.2.1]
    refine pl_if (fun hc => ⟨by rw [if_neg (by omega)], rfl, rfl⟩) (fun hc => pl_if (fun _ => ⟨by rw [if_pos (by omega)], rfl, rfl⟩) (fun _ => trivial))
theorem xR_place (L : Nat) (xs : Nat → Int32) {m d : Nat} : pl (ev L xs (m + 1) d nR_place [.ref cR] g r) (kE g r (g fR_at)) kN := by
  cases d with
  | zero => trivial
  | succ d =>
    rw [qR_place]
    exact ⟨rfl, rfl, rfl⟩
theorem Ro.up (h : Ro w f p g r) (hp : p < w.2.2) : Ro w f (p + 1) (upd g fR_at (g fR_at + 1)) r := by
  obtain ⟨h1, h2, h3, h4, h5, h6, h7, h8⟩ := h
  refine ⟨h1, h2, h3, ?_, hp, h6, h7, h8.trans (cpF.up (by unfold cp15; decide))⟩
  show (g fR_at + 1).toInt = _
  rw [i32_inc (by omega), h4]
  rfl
theorem xR_advance (L : Nat) (xs : Nat → Int32) {m d : Nat} (h : Ro w f p g r) : pl (ev L xs (m + 1) d nR_advance [.ref cR] g r) (fun o g' r' => o = none ∧ r' = r ∧ (p < w.2.2 ∧ g' = upd g fR_at (g fR_at + 1) ∨ ¬ p < w.2.2 ∧ g' = g)) kN := by
  cases d with
  | zero => trivial
  | succ d =>
    rw [qR_advance]
    simp only [BR_advance_21, c2_ge, h.2.2.1, h.2.2.2.1]
    refine pl_if (fun hc => ⟨rfl, rfl, Or.inr ⟨by omega, rfl⟩⟩) (fun hc => ⟨rfl, rfl, Or.inl ⟨by omega, rfl⟩⟩)
theorem xR_skip (L : Nat) (xs : Nat → Int32) {m d : Nat} (a : Int32) (h : Ro w f p g r) : pl (ev L xs (m + 1) d nR_skip [.ref cR, .int a] g r) (fun o g' r' => r' = r ∧ (ww w p a = true ∧ o = some (.int 1) ∧ g' = upd g fR_at (g fR_at + 1) ∨ ww w p a = false ∧ o = some (.int 0) ∧ g' = g)) kN := by
  cases d with
  | zero => trivial
  | succ d =>
    rw [qR_skip]
    simp only [BR_skip_40, BR_skip_41, BR_skip_56, c2_ge, c2_ne, c2_eq, h.nat, h.1, h.2.1, h.2.2.1, h.2.2.2.1]
    have no : ¬ (p < w.2.2 ∧ w.1 p = 0 ∧ w.2.1 p = a) → ww w p a = false := fun e => Bool.eq_false_iff.mpr (fun e2 => e (ww_iff.mp e2))
    refine pl_if (fun hc => ?_) (fun hc => ?_)
    · exact pl_if (fun _ => pl_if (fun _ => ⟨rfl, Or.inr ⟨no (by omega), rfl, rfl⟩⟩) (fun _ => trivial)) (fun e => absurd trivial e)
    · refine pl_if (fun _ => ?_) (fun _ => trivial)
      refine pl_if (fun hk => ?_) (fun hk => ?_)
      · exact pl_if (fun _ => pl_if (fun _ => ⟨rfl, Or.inr ⟨no (fun e => hk e.2.1), rfl, rfl⟩⟩) (fun _ => trivial)) (fun e => absurd trivial e)
      · refine pl_if (fun _ => ?_) (fun _ => trivial)
        refine pl_if (fun hv => ?_) (fun hv => ?_)
        · exact pl_if (fun _ => pl_if (fun _ => ⟨rfl, Or.inr ⟨no (fun e => hv e.2.2), rfl, rfl⟩⟩) (fun _ => trivial)) (fun e => absurd trivial e)
        · exact pl_if (fun e => absurd e (by decide)) (fun _ => pl_if (fun _ => ⟨rfl, Or.inl ⟨ww_iff.mpr ⟨by omega, Decidable.not_not.mp hk, Decidable.not_not.mp hv⟩, rfl, rfl⟩⟩) (fun _ => trivial))
end
