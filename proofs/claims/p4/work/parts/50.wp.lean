/-! What holds behind a call: weakest preconditions over the second machine as a function. -/
def wp (z : Option fn_Z) (Q : Option Value → a2_G → a2_A → Prop) (X : Nat → a2_G → a2_A → Prop) : Prop := match z with
  | some (.inl o, g, r) => Q o g r
  | some (.inr x, g, r) => X x g r
  | none => False
theorem wp_mono {z : Option fn_Z} {Q Q' : Option Value → a2_G → a2_A → Prop} {X X' : Nat → a2_G → a2_A → Prop} (h : wp z Q X) (hQ : ∀ o g r, Q o g r → Q' o g r) (hX : ∀ x g r, X x g r → X' x g r) : wp z Q' X' := by
  match z, h with
  | some (.inl o, g, r), h => exact hQ o g r h
  | some (.inr x, g, r), h => exact hX x g r h
theorem wp_v {z : Option fn_Z} {k : Int32 → a2_G → a2_A → Option fn_Z} {Q1 Q : Option Value → a2_G → a2_A → Prop} {X1 X : Nat → a2_G → a2_A → Prop} (h : wp z Q1 X1) (hX : ∀ x g r, X1 x g r → X x g r) (hk : ∀ o g r, Q1 o g r → ∃ v, o = some (.int v) ∧ wp (k v g r) Q X) : wp (fn_v z k) Q X := by
  match z, h with
  | some (.inl o, g, r), h =>
    obtain ⟨v, rfl, h2⟩ := hk o g r h
    exact h2
  | some (.inr x, g, r), h => exact hX x g r h
theorem wp_n {z : Option fn_Z} {k : a2_G → a2_A → Option fn_Z} {Q1 Q : Option Value → a2_G → a2_A → Prop} {X1 X : Nat → a2_G → a2_A → Prop} (h : wp z Q1 X1) (hX : ∀ x g r, X1 x g r → X x g r) (hk : ∀ o g r, Q1 o g r → o = none ∧ wp (k g r) Q X) : wp (fn_n z k) Q X := by
  match z, h with
  | some (.inl o, g, r), h =>
    obtain ⟨rfl, h2⟩ := hk o g r h
    exact h2
  | some (.inr x, g, r), h => exact hX x g r h
theorem wp_if {c : Prop} [Decidable c] {a b : Option fn_Z} {Q : Option Value → a2_G → a2_A → Prop} {X : Nat → a2_G → a2_A → Prop} (h1 : c → wp a Q X) (h2 : ¬ c → wp b Q X) : wp (if c then a else b) Q X := by
  by_cases h : c
  · rw [if_pos h]
    exact h1 h
  · rw [if_neg h]
    exact h2 h
theorem wp_ev {z : Option fn_Z} {Q : Option Value → a2_G → a2_A → Prop} {X : Nat → a2_G → a2_A → Prop} (h : wp z Q X) : (∃ o g r, z = some (.inl o, g, r) ∧ Q o g r) ∨ (∃ x g r, z = some (.inr x, g, r) ∧ X x g r) := by
  match z, h with
  | some (.inl o, g, r), h => exact Or.inl ⟨o, g, r, rfl, h⟩
  | some (.inr x, g, r), h => exact Or.inr ⟨x, g, r, rfl, h⟩
/-! The class's rows have room: what holds of its registers and arrays. -/
def CI (g : a2_G) (r : a2_A) : Prop :=
  (0 ≤ (g fR_at).toInt ∧ (g fR_at).toInt ≤ (g fR_size).toInt ∧ (g fR_size).toInt ≤ 1500 ∧ (g fR_size).toInt ≤ (r fR_kinds).1 ∧ (r fR_values).1 = (r fR_kinds).1 ∧ 64 ≤ (r fR_kinds).1 ∧ (r fR_kinds).1 ≤ 3000) ∧
  (0 ≤ (g fR_faultSize).toInt ∧ (g fR_faultSize).toInt ≤ 20 ∧ (r fR_faultNumbers).1 = 20 ∧ (r fR_faultPlaces).1 = 20) ∧
  (0 ≤ (g fT_made).toInt ∧ 12 * (g fT_made).toInt ≤ (r fT_cells).1 ∧ 1152 ≤ (r fT_cells).1 ∧ (r fT_cells).1 ≤ 190000) ∧
  (0 ≤ (g fU_size).toInt ∧ (g fU_size).toInt ≤ 10 ∧ (r fU_states).1 = 10 ∧ (r fU_kinds).1 = 10 ∧ (r fU_names).1 = 10 ∧ (r fU_handles).1 = 10) ∧
  (0 ≤ (g fI_openSize).toInt ∧ (g fI_openSize).toInt ≤ 49 ∧ (r fI_openLevels).1 = 49 ∧ (r fI_openHandles).1 = 49)
/-- .. and how many nodes there are, held against the words that are read -/
def Cs (b : Int) (g : a2_G) (r : a2_A) : Prop := CI g r ∧ (g fT_made).toInt ≤ 3 * (g fR_at).toInt + b
theorem Cs.le {b b' : Int} {g : a2_G} {r : a2_A} (h : Cs b g r) (hb : b ≤ b') : Cs b' g r := ⟨h.1, by have := h.2; omega⟩
/-- words, and where reading stands, are as they were -/
def Fr (g : a2_G) (r : a2_A) (g' : a2_G) (r' : a2_A) : Prop := g' fR_at = g fR_at ∧ g' fR_size = g fR_size ∧ r' fR_kinds = r fR_kinds ∧ r' fR_values = r fR_values
theorem Fr.rf {g : a2_G} {r : a2_A} : Fr g r g r := ⟨rfl, rfl, rfl, rfl⟩
theorem Fr.trans {g1 g2 g3 : a2_G} {r1 r2 r3 : a2_A} (a : Fr g1 r1 g2 r2) (b : Fr g2 r2 g3 r3) : Fr g1 r1 g3 r3 := ⟨b.1.trans a.1, b.2.1.trans a.2.1, b.2.2.1.trans a.2.2.1, b.2.2.2.trans a.2.2.2⟩
/-- a word is left -/
def Lt (g : a2_G) : Prop := (g fR_at).toInt < (g fR_size).toInt
theorem Fr.lt {g g' : a2_G} {r r' : a2_A} (h : Fr g r g' r') (hl : Lt g) : Lt g' := by
  unfold Lt at hl ⊢
  rw [h.1, h.2.1]
  exact hl
/-- the word that is next is this reserved one -/
def Rw (g : a2_G) (r : a2_A) (w : Int32) : Prop := Lt g ∧ (r fR_kinds).2 (g fR_at).toInt.toNat = 0 ∧ (r fR_values).2 (g fR_at).toInt.toNat = w
theorem Fr.rw {g g' : a2_G} {r r' : a2_A} {w : Int32} (h : Fr g r g' r') (hl : Rw g r w) : Rw g' r' w := by
  refine ⟨h.lt hl.1, ?_, ?_⟩
  · rw [h.1, h.2.2.1]
    exact hl.2.1
  · rw [h.1, h.2.2.2]
    exact hl.2.2
def kB (g : a2_G) (r : a2_A) (F : Prop) : Option Value → a2_G → a2_A → Prop := fun o g' r' => ∃ v : Int32, o = some (.int v) ∧ (v = 0 ∨ v = 1 ∧ F) ∧ g' = g ∧ r' = r
def kP (g : a2_G) (r : a2_A) (F : Int32 → Prop) : Option Value → a2_G → a2_A → Prop := fun o g' r' => ∃ v : Int32, o = some (.int v) ∧ F v ∧ g' = g ∧ r' = r
def kN : Nat → a2_G → a2_A → Prop := fun _ _ _ => False
def kX (b : Int) : Nat → a2_G → a2_A → Prop := fun x g r => x = 10 ∧ Cs b g r
def kV (b : Int) : Option Value → a2_G → a2_A → Prop := fun o g r => ∃ v : Int32, o = some (.int v) ∧ Cs b g r
def kO (b : Int) : Option Value → a2_G → a2_A → Prop := fun o g r => o = none ∧ Cs b g r
def kBV (b : Int) : Option Value → a2_G → a2_A → Prop := fun o g r => ∃ v : Int32, o = some (.int v) ∧ (v = 0 ∨ v = 1) ∧ Cs b g r
def kT (b : Int) (g : a2_G) (r : a2_A) : Option Value → a2_G → a2_A → Prop := fun o g' r' => ∃ v : Int32, o = some (.int v) ∧ Cs b g' r' ∧ Fr g r g' r'
def kTn (b : Int) (g : a2_G) (r : a2_A) : Option Value → a2_G → a2_A → Prop := fun o g' r' => o = none ∧ Cs b g' r' ∧ Fr g r g' r'
def kS (b : Int) (g : a2_G) (r : a2_A) (w : Int32) : Option Value → a2_G → a2_A → Prop := fun o g' r' => ∃ v : Int32, o = some (.int v) ∧ ((v = 0 ∧ g' = g ∧ r' = r ∧ ¬ Rw g r w) ∨ (v = 1 ∧ Cs (b - 3) g' r'))
theorem i32_1 : (1 : Int32).toInt = 1 := rfl
theorem i32_0 : (0 : Int32).toInt = 0 := rfl
theorem i32_12 : (12 : Int32).toInt = 12 := rfl
theorem i32_inc {x : Int32} (h : x.toInt < 2147483647) : (x + 1).toInt = x.toInt + 1 := by
  have := i32_lo x
  rw [ad_eq (by rw [i32_1]; omega) (by rw [i32_1]; omega), i32_1]
theorem i32_dec {x : Int32} (h : -2147483648 < x.toInt) : (x - 1).toInt = x.toInt - 1 := by
  have := i32_hi x
  rw [sb_eq (by rw [i32_1]; omega) (by rw [i32_1]; omega), i32_1]
theorem i32_n1 : (-1 : Int32).toInt = -1 := rfl
theorem i32_dec' {x : Int32} (h : -2147483648 < x.toInt) : (x + (-1)).toInt = x.toInt - 1 := by
  have := i32_hi x
  rw [ad_eq (by rw [i32_n1]; omega) (by rw [i32_n1]; omega), i32_n1]
  omega
theorem wp_vP {z : Option fn_Z} {g : a2_G} {r : a2_A} {F : Int32 → Prop} {k : Int32 → a2_G → a2_A → Option fn_Z} {Q : Option Value → a2_G → a2_A → Prop} {X : Nat → a2_G → a2_A → Prop} (h : wp z (kP g r F) kN) (hk : ∀ v, F v → wp (k v g r) Q X) : wp (fn_v z k) Q X := by
  refine wp_v h (fun _ _ _ hx => hx.elim) ?_
  rintro o g' r' ⟨v, rfl, hf, rfl, rfl⟩
  exact ⟨v, rfl, hk v hf⟩
theorem wp_vB {z : Option fn_Z} {g : a2_G} {r : a2_A} {F : Prop} {k : Int32 → a2_G → a2_A → Option fn_Z} {Q : Option Value → a2_G → a2_A → Prop} {X : Nat → a2_G → a2_A → Prop} (h : wp z (kB g r F) kN) (h0 : wp (k 0 g r) Q X) (h1 : F → wp (k 1 g r) Q X) : wp (fn_v z k) Q X := by
  refine wp_v h (fun _ _ _ hx => hx.elim) ?_
  rintro o g' r' ⟨v, rfl, rfl | ⟨rfl, hf⟩, rfl, rfl⟩
  · exact ⟨0, rfl, h0⟩
  · exact ⟨1, rfl, h1 hf⟩
theorem wp_vS {z : Option fn_Z} {b : Int} {g : a2_G} {r : a2_A} {w : Int32} {k : Int32 → a2_G → a2_A → Option fn_Z} {Q : Option Value → a2_G → a2_A → Prop} {X : Nat → a2_G → a2_A → Prop} (h : wp z (kS b g r w) kN) (h0 : ¬ Rw g r w → wp (k 0 g r) Q X) (h1 : ∀ g' r', Cs (b - 3) g' r' → wp (k 1 g' r') Q X) : wp (fn_v z k) Q X := by
  refine wp_v h (fun _ _ _ hx => hx.elim) ?_
  rintro o g' r' ⟨v, rfl, ⟨rfl, rfl, rfl, hw⟩ | ⟨rfl, hc⟩⟩
  · exact ⟨0, rfl, h0 hw⟩
  · exact ⟨1, rfl, h1 _ _ hc⟩
theorem wp_vT {z : Option fn_Z} {b : Int} {g : a2_G} {r : a2_A} {k : Int32 → a2_G → a2_A → Option fn_Z} {Q : Option Value → a2_G → a2_A → Prop} {X : Nat → a2_G → a2_A → Prop} (h : wp z (kT b g r) kN) (h1 : ∀ v g' r', Cs b g' r' → Fr g r g' r' → wp (k v g' r') Q X) : wp (fn_v z k) Q X := by
  refine wp_v h (fun _ _ _ hx => hx.elim) ?_
  rintro o g' r' ⟨v, rfl, hc, hf⟩
  exact ⟨v, rfl, h1 v _ _ hc hf⟩
theorem wp_nT {z : Option fn_Z} {b : Int} {g : a2_G} {r : a2_A} {k : a2_G → a2_A → Option fn_Z} {Q : Option Value → a2_G → a2_A → Prop} {X : Nat → a2_G → a2_A → Prop} (h : wp z (kTn b g r) kN) (h1 : ∀ g' r', Cs b g' r' → Fr g r g' r' → wp (k g' r') Q X) : wp (fn_n z k) Q X := by
  refine wp_n h (fun _ _ _ hx => hx.elim) ?_
  rintro o g' r' ⟨rfl, hc, hf⟩
  exact ⟨rfl, h1 _ _ hc hf⟩
theorem cN_le {X : Nat → a2_G → a2_A → Prop} {z : Option fn_Z} {Q : Option Value → a2_G → a2_A → Prop} (h : wp z Q kN) : wp z Q X := wp_mono h (fun _ _ _ hq => hq) (fun _ _ _ hx => hx.elim)
theorem wp_vV {z : Option fn_Z} {b : Int} {k : Int32 → a2_G → a2_A → Option fn_Z} {Q : Option Value → a2_G → a2_A → Prop} {X : Nat → a2_G → a2_A → Prop} (h : wp z (kV b) X) (h1 : ∀ v g' r', Cs b g' r' → wp (k v g' r') Q X) : wp (fn_v z k) Q X := by
  refine wp_v h (fun _ _ _ hx => hx) ?_
  rintro o g' r' ⟨v, rfl, hc⟩
  exact ⟨v, rfl, h1 v _ _ hc⟩
theorem wp_nO {z : Option fn_Z} {b : Int} {k : a2_G → a2_A → Option fn_Z} {Q : Option Value → a2_G → a2_A → Prop} {X : Nat → a2_G → a2_A → Prop} (h : wp z (kO b) X) (h1 : ∀ g' r', Cs b g' r' → wp (k g' r') Q X) : wp (fn_n z k) Q X := by
  refine wp_n h (fun _ _ _ hx => hx) ?_
  rintro o g' r' ⟨rfl, hc⟩
  exact ⟨rfl, h1 _ _ hc⟩
theorem wp_vVN {z : Option fn_Z} {b : Int} {k : Int32 → a2_G → a2_A → Option fn_Z} {Q : Option Value → a2_G → a2_A → Prop} {X : Nat → a2_G → a2_A → Prop} (h : wp z (kV b) kN) (h1 : ∀ v g' r', Cs b g' r' → wp (k v g' r') Q X) : wp (fn_v z k) Q X := wp_vV (cN_le h) h1
theorem wp_nON {z : Option fn_Z} {b : Int} {k : a2_G → a2_A → Option fn_Z} {Q : Option Value → a2_G → a2_A → Prop} {X : Nat → a2_G → a2_A → Prop} (h : wp z (kO b) kN) (h1 : ∀ g' r', Cs b g' r' → wp (k g' r') Q X) : wp (fn_n z k) Q X := wp_nO (cN_le h) h1
theorem wp_nR {z : Option fn_Z} {k : a2_G → a2_A → Option fn_Z} {Q : Option Value → a2_G → a2_A → Prop} {X : Nat → a2_G → a2_A → Prop} (h : wp z (fun _ _ _ => False) X) : wp (fn_n z k) Q X := wp_n h (fun _ _ _ hx => hx) (fun _ _ _ hq => hq.elim)
theorem wp_nG {z : Option fn_Z} {b : Int} {F : Prop} {k : a2_G → a2_A → Option fn_Z} {Q : Option Value → a2_G → a2_A → Prop} {X : Nat → a2_G → a2_A → Prop} (h : wp z (fun o g r => o = none ∧ Cs b g r ∧ F) X) (h1 : ∀ g' r', Cs b g' r' → F → wp (k g' r') Q X) : wp (fn_n z k) Q X := by
  refine wp_n h (fun _ _ _ hx => hx) ?_
  rintro o g' r' ⟨rfl, hc, hf⟩
  exact ⟨rfl, h1 _ _ hc hf⟩
