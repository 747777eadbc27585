/-! What holds if a call ends: safety is known, so nothing need be said of calls that don't. -/
def pl (z : Option fn_Z) (Q : Option Value → a2_G → a2_A → Prop) (X : Nat → a2_G → a2_A → Prop) : Prop := match z with
  | none => True
  | some (.inl o, g, r) => Q o g r
  | some (.inr x, g, r) => X x g r
theorem pl_mono {z : Option fn_Z} {Q Q' : Option Value → a2_G → a2_A → Prop} {X X' : Nat → a2_G → a2_A → Prop} (h : pl z Q X) (hQ : ∀ o g r, Q o g r → Q' o g r) (hX : ∀ x g r, X x g r → X' x g r) : pl z Q' X' := by
  match z, h with
  | none, _ => trivial
  | some (.inl o, g, r), h => exact hQ o g r h
  | some (.inr x, g, r), h => exact hX x g r h
theorem pl_v {z : Option fn_Z} {k : Int32 → a2_G → a2_A → Option fn_Z} {Q1 Q : Option Value → a2_G → a2_A → Prop} {X1 X : Nat → a2_G → a2_A → Prop} (h : pl z Q1 X1) (hX : ∀ x g r, X1 x g r → X x g r) (hk : ∀ v g r, Q1 (some (.int v)) g r → pl (k v g r) Q X) : pl (fn_v z k) Q X := by
  match z, h with
  | none, _ => exact trivial
  | some (.inl none, g, r), _ => exact trivial
  | some (.inl (some (.int v)), g, r), h => exact hk v g r h
  | some (.inr x, g, r), h => exact hX x g r h
  | some (.inl (some (.ref _)), g, r), _ => exact trivial
  | some (.inl (some .null), g, r), _ => exact trivial
  | some (.inl (some (.long _)), g, r), _ => exact trivial
  | some (.inl (some (.float _)), g, r), _ => exact trivial
  | some (.inl (some (.double _)), g, r), _ => exact trivial
  | some (.inl (some (.retAddr _)), g, r), _ => exact trivial
theorem pl_n {z : Option fn_Z} {k : a2_G → a2_A → Option fn_Z} {Q1 Q : Option Value → a2_G → a2_A → Prop} {X1 X : Nat → a2_G → a2_A → Prop} (h : pl z Q1 X1) (hX : ∀ x g r, X1 x g r → X x g r) (hk : ∀ g r, Q1 none g r → pl (k g r) Q X) : pl (fn_n z k) Q X := by
  match z, h with
  | none, _ => exact trivial
  | some (.inl none, g, r), h => exact hk g r h
  | some (.inl (some _), g, r), _ => exact trivial
  | some (.inr x, g, r), h => exact hX x g r h
theorem pl_if {c : Prop} [Decidable c] {a b : Option fn_Z} {Q : Option Value → a2_G → a2_A → Prop} {X : Nat → a2_G → a2_A → Prop} (h1 : c → pl a Q X) (h2 : ¬ c → pl b Q X) : pl (if c then a else b) Q X := by
  by_cases h : c
  · rw [if_pos h]
    exact h1 h
  · rw [if_neg h]
    exact h2 h
/-- what is safe and holds if it ends -/
theorem wp_pl {z : Option fn_Z} {Q Q' : Option Value → a2_G → a2_A → Prop} {X X' : Nat → a2_G → a2_A → Prop} (h : wp z Q X) (h' : pl z Q' X') : wp z (fun o g r => Q o g r ∧ Q' o g r) (fun x g r => X x g r ∧ X' x g r) := by
  match z, h, h' with
  | some (.inl o, g, r), h, h' => exact ⟨h, h'⟩
  | some (.inr x, g, r), h, h' => exact ⟨h, h'⟩
theorem pl_cp {C : Nat → Prop} (hC : cpC nm_Y C) {L : Nat} {xs : Nat → Int32} {m d j : Nat} {as : List Value} {g : a2_G} {r : a2_A} {Q : Option Value → a2_G → a2_A → Prop} {X : Nat → a2_G → a2_A → Prop} (ha : cpS C as) (h : pl (ev L xs m d j as g r) Q X) : pl (ev L xs m d j as g r) (fun o g' r' => Q o g' r' ∧ cpF C g r g' r') (fun x g' r' => X x g' r' ∧ cpF C g r g' r') := by
  cases hz : ev L xs m d j as g r with
  | none => trivial
  | some z =>
    have hf := cp_ev hC d j as g r z ha hz
    rw [hz] at h
    obtain ⟨o, g', r'⟩ := z
    cases o with
    | inl o => exact ⟨h, hf⟩
    | inr x => exact ⟨h, hf⟩
theorem pl_d0 {L : Nat} {xs : Nat → Int32} {m j : Nat} {as : List Value} {g : a2_G} {r : a2_A} {Q : Option Value → a2_G → a2_A → Prop} {X : Nat → a2_G → a2_A → Prop} : pl (ev L xs m 0 j as g r) Q X := trivial
theorem pl_l0 {L : Nat} {xs : Nat → Int32} {j m d pc : Nat} {M : am_M} {LA : am_L} {g : a2_G} {r : a2_A} {Q : Option Value → a2_G → a2_A → Prop} {X : Nat → a2_G → a2_A → Prop} : pl (lp L xs j M m d 0 pc LA g r) Q X := trivial
def cpTT (c : Nat) : Prop := c = 2
theorem cp_T : cpC nm_Y cpTT := by
  refine ⟨nm_okZ, nm_Y_len, fun ci j cj hc hy => ?_⟩
  have hc' : ci = 2 := hc
  subst hc'
  have h : (nm_YL.getD 2 []).all (fun k => k.1 != 2) = true := by decide +kernel
  have h2 := List.all_eq_true.mp h (2, cj) (List.mem_of_getElem? hy)
  simp at h2
theorem cpS.int {C : Nat → Prop} {c : Nat} {as : List Value} (h : c < 9000) (hC : C c) (ha : ∀ v, v ∈ as → ∃ n : Int32, v = .int n) : cpS C (.ref c :: as) := fun v hv k hk => by
  rcases List.mem_cons.mp hv with e | e
  · rw [e] at hk
    cases hk
    exact Or.inl ⟨h, hC⟩
  · obtain ⟨n, e2⟩ := ha v e
    rw [e2] at hk
    cases hk
theorem ai0 : ∀ v, v ∈ ([] : List Value) → ∃ n : Int32, v = .int n := fun v hv => nomatch hv
theorem ai1 {a : Int32} : ∀ v, v ∈ ([.int a] : List Value) → ∃ n : Int32, v = .int n := fun v hv => ⟨a, List.mem_singleton.mp hv⟩
theorem ai2 {a b : Int32} : ∀ v, v ∈ ([.int a, .int b] : List Value) → ∃ n : Int32, v = .int n := fun v hv => by
  rcases List.mem_cons.mp hv with e | e
  · exact ⟨a, e⟩
  · exact ⟨b, List.mem_singleton.mp e⟩
theorem ai3 {a b c : Int32} : ∀ v, v ∈ ([.int a, .int b, .int c] : List Value) → ∃ n : Int32, v = .int n := fun v hv => by
  rcases List.mem_cons.mp hv with e | e
  · exact ⟨a, e⟩
  · exact ai2 v e
theorem i32_m12b {x : Int32} (h0 : 0 ≤ x.toInt) (h1 : x.toInt ≤ 10000000) : (x * 12).toInt = 12 * x.toInt := by
  rw [ml_eq (by rw [i32_12]; omega) (by rw [i32_12]; omega), i32_12]
  omega
/-- the rows of nodes have room -/
def Tm (g : a2_G) (r : a2_A) : Prop := 0 ≤ (g fT_made).toInt ∧ 12 * (g fT_made).toInt ≤ (r fT_cells).1 ∧ 12 ≤ (r fT_cells).1 ∧ (r fT_cells).1 ≤ 60000000
theorem xT_make43 (L : Nat) (xs : Nat → Int32) {m d : Nat} (x1 x2 x3 x4 : Int32) {g : a2_G} (h0 : 0 ≤ (g fT_made).toInt) : ∀ (k : Nat) (x5 : Int32) (r : a2_A), 12 * (g fT_made).toInt + 12 ≤ (r fT_cells).1 → (r fT_cells).1 ≤ 60000000 → pl (BT_make_43 L xs m d k x1 x2 x3 x4 x5 g r) (fun o g' r' => o = some (.int (g fT_made)) ∧ Tm g' r') kN := by
  intro k
  induction k with
  | zero =>
    intro x5 r h1 h2
    unfold BT_make_43
    refine pl_if (fun _ => ?_) (fun _ => pl_if (fun _ => pl_l0) (fun _ => trivial))
    refine pl_if (fun _ => ?_) (fun _ => trivial)
    refine pl_if (fun _ => ?_) (fun _ => trivial)
    refine pl_if (fun _ => ?_) (fun _ => trivial)
    refine pl_if (fun _ => ?_) (fun _ => trivial)
    refine pl_if (fun _ => ?_) (fun _ => trivial)
    have e := i32_inc (x := g fT_made) (by omega)
    refine ⟨by rw [i32_as], ?_, ?_, ?_, ?_⟩
    · show 0 ≤ (g fT_made + 1).toInt
      omega
    · show 12 * (g fT_made + 1).toInt ≤ (r fT_cells).1
      omega
    · show 12 ≤ (r fT_cells).1
      omega
    · exact h2
  | succ k ih =>
    intro x5 r h1 h2
    unfold BT_make_43
    refine pl_if (fun _ => ?_) (fun _ => pl_if (fun _ => ?_) (fun _ => trivial))
    · refine pl_if (fun _ => ?_) (fun _ => trivial)
      refine pl_if (fun _ => ?_) (fun _ => trivial)
      refine pl_if (fun _ => ?_) (fun _ => trivial)
      refine pl_if (fun _ => ?_) (fun _ => trivial)
      refine pl_if (fun _ => ?_) (fun _ => trivial)
      have e := i32_inc (x := g fT_made) (by omega)
      refine ⟨by rw [i32_as], ?_, ?_, ?_, ?_⟩
      · show 0 ≤ (g fT_made + 1).toInt
        omega
      · show 12 * (g fT_made + 1).toInt ≤ (r fT_cells).1
        omega
      · show 12 ≤ (r fT_cells).1
        omega
      · exact h2
    · rw [lT_make_43]
      exact ih _ _ h1 h2
theorem xT_make (L : Nat) (xs : Nat → Int32) {m d : Nat} (a1 a2 a3 : Int32) {g : a2_G} {r : a2_A} (h : Tm g r) : pl (ev L xs (m + 1) d nT_make [.ref cT, .int a1, .int a2, .int a3] g r) (fun o g' r' => (o = some (.int (g fT_made)) ∧ Tm g' r') ∧ cpF cpTT g r g' r') (fun x g' r' => False ∧ cpF cpTT g r g' r') := by
  refine pl_cp cp_T (cpS.int (by decide) rfl ai3) ?_
  cases d with
  | zero => trivial
  | succ d =>
    obtain ⟨c1, c2, c3, c4⟩ := h
    have e1 := i32_m12b (x := g fT_made) (by omega) (by omega)
    have e2 : (g fT_made * 12 + 12).toInt = (g fT_made * 12).toInt + 12 := ad_eq (by rw [i32_12]; omega) (by rw [i32_12]; omega)
    have e3 : (Int32.ofNat (r fT_cells).1).toInt = (r fT_cells).1 := on_eq (by omega)
    rw [qT_make]
    unfold BT_make_40
    refine pl_if (fun hc => ?_) (fun _ => ?_)
    · rw [c2_le] at hc
      exact xT_make43 L xs a1 a2 a3 _ c1 _ _ r (by omega) c4
    · refine pl_if (fun hc => ?_) (fun _ => trivial)
      obtain ⟨-, h2, -, -, -, h6⟩ := hc
      refine xT_make43 L xs a1 a2 a3 _ c1 _ _ _ ?_ ?_
      · show 12 * (g fT_made).toInt + 12 ≤ ((2 * Int32.ofNat (r fT_cells).1).toNatClampNeg : Int)
        omega
      · exact h2
def tqN (g : a2_G) (r : a2_A) : Option Value → a2_G → a2_A → Prop := fun o g' r' => (o = none ∧ Tm g' r') ∧ cpF cpTT g r g' r'
theorem xT_append (L : Nat) (xs : Nat → Int32) {m d : Nat} (a1 a2 : Int32) {g : a2_G} {r : a2_A} (h : Tm g r) : pl (ev L xs (m + 1) d nT_append [.ref cT, .int a1, .int a2] g r) (tqN g r) (fun x g' r' => False ∧ cpF cpTT g r g' r') := by
  refine pl_cp cp_T (cpS.int (by decide) rfl ai2) ?_
  cases d with
  | zero => trivial
  | succ d =>
    rw [qT_append]
    simp only [BT_append_24, BT_append_72, BT_append_81]
    repeat' refine pl_if (fun _ => ?_) (fun _ => ?_)
    all_goals first
      | trivial
      | exact ⟨rfl, h⟩
theorem xT_set (L : Nat) (xs : Nat → Int32) {m d : Nat} (a1 a2 a3 : Int32) {g : a2_G} {r : a2_A} (h : Tm g r) : pl (ev L xs (m + 1) d nT_set [.ref cT, .int a1, .int a2, .int a3] g r) (tqN g r) (fun x g' r' => False ∧ cpF cpTT g r g' r') := by
  refine pl_cp cp_T (cpS.int (by decide) rfl ai3) ?_
  cases d with
  | zero => trivial
  | succ d =>
    rw [qT_set]
    simp only [BT_set_34]
    repeat' refine pl_if (fun _ => ?_) (fun _ => ?_)
    all_goals first
      | trivial
      | exact ⟨rfl, h⟩
theorem xT_get (L : Nat) (xs : Nat → Int32) {m d : Nat} (a1 a2 : Int32) {g : a2_G} {r : a2_A} : pl (ev L xs (m + 1) d nT_get [.ref cT, .int a1, .int a2] g r) (kP g r (fun _ => True)) kN := by
  cases d with
  | zero => trivial
  | succ d =>
    rw [qT_get]
    simp only [BT_get_36, BT_get_37]
    repeat' refine pl_if (fun _ => ?_) (fun _ => ?_)
    all_goals first
      | trivial
      | exact ⟨_, rfl, trivial, rfl, rfl⟩
