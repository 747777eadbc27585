/-! The model's leaves: what holds behind a call. -/
theorem b2i_kB {g : a2_G} {r : a2_A} {b : Bool} {F : Prop} (h : b = true → F) : wp (some (.inl (some (.int (b2i b))), g, r)) (kB g r F) kN := by
  cases b with
  | true => exact ⟨1, rfl, Or.inr ⟨rfl, h rfl⟩, rfl, rfl⟩
  | false => exact ⟨0, rfl, Or.inl rfl, rfl, rfl⟩
theorem tM_in (L : Nat) (xs : Nat → Int32) {m d : Nat} (hd : 1 ≤ d) (v a c : Int32) {g : a2_G} {r : a2_A} : wp (ev L xs (m + 1) d nM_in [.int v, .int a, .int c] g r) (kB g r (a.toInt ≤ v.toInt ∧ v.toInt ≤ c.toInt)) kN := by
  obtain ⟨d, rfl⟩ : ∃ e, d = e + 1 := ⟨d - 1, by omega⟩
  rw [M_in]
  exact b2i_kB (fun h => of_decide_eq_true h)
theorem tM_isKind (L : Nat) (xs : Nat → Int32) {m d : Nat} (hd : 1 ≤ d) {k : Int32} (w : Int32) {b : Int} {s : Sg} {P : List Nat} {g : a2_G} {r : a2_A} (h : Mst b s P g r) (hk : 0 ≤ k.toInt) : wp (ev L xs (m + 1) d nM_isKind [.ref cM, .int k, .int w] g r) (kB g r (Mk g r k w = true)) kN := by
  obtain ⟨d, rfl⟩ : ∃ e, d = e + 1 := ⟨d - 1, by omega⟩
  rw [M_isKind L xs m d hk h.W.1]
  exact b2i_kB id
theorem tM_isWord (L : Nat) (xs : Nat → Int32) {m d : Nat} (hd : 2 ≤ d) {k : Int32} (w : Int32) {b : Int} {s : Sg} {P : List Nat} {g : a2_G} {r : a2_A} (h : Mst b s P g r) (hk : 0 ≤ k.toInt) : wp (ev L xs (m + 1) d nM_isWord [.ref cM, .int k, .int w] g r) (kB g r (Mw g r k w = true)) kN := by
  obtain ⟨d, rfl⟩ : ∃ e, d = e + 2 := ⟨d - 2, by omega⟩
  rw [M_isWord L xs m d hk h.W]
  exact b2i_kB id
theorem tM_isSign (L : Nat) (xs : Nat → Int32) {m d : Nat} (hd : 2 ≤ d) {k : Int32} (w : Int32) {b : Int} {s : Sg} {P : List Nat} {g : a2_G} {r : a2_A} (h : Mst b s P g r) (hk : 0 ≤ k.toInt) : wp (ev L xs (m + 1) d nM_isSign [.ref cM, .int k, .int w] g r) (kB g r (Ms g r k w = true)) kN := by
  obtain ⟨d, rfl⟩ : ∃ e, d = e + 2 := ⟨d - 2, by omega⟩
  rw [M_isSign L xs m d hk h.W]
  exact b2i_kB id
theorem Mw_lt {g : a2_G} {r : a2_A} {k w : Int32} (h : Mw g r k w = true) : k.toInt < (g fM_n).toInt := by
  simp only [Mw, Bool.and_eq_true] at h
  exact Mk_lt h.1
theorem Ms_lt {g : a2_G} {r : a2_A} {k w : Int32} (h : Ms g r k w = true) : k.toInt < (g fM_n).toInt := by
  simp only [Ms, Bool.and_eq_true] at h
  exact Mk_lt h.1
theorem tM_isOperand (L : Nat) (xs : Nat → Int32) {m d : Nat} (hd : 2 ≤ d) {k : Int32} {b : Int} {s : Sg} {P : List Nat} {g : a2_G} {r : a2_A} (h : Mst b s P g r) (hk : 0 ≤ k.toInt) : wp (ev L xs (m + 1) d nM_isOperand [.ref cM, .int k] g r) (kB g r (k.toInt < (g fM_n).toInt)) kN := by
  obtain ⟨d, rfl⟩ : ∃ e, d = e + 2 := ⟨d - 2, by omega⟩
  rw [M_isOperand L xs m d hk h.W]
  refine b2i_kB (fun h => ?_)
  simp only [Bool.or_eq_true] at h
  rcases h with (h | h) | h <;> exact Mk_lt h
theorem tM_begins (L : Nat) (xs : Nat → Int32) {m d : Nat} (hd : 2 ≤ d) {k : Int32} {b : Int} {s : Sg} {P : List Nat} {g : a2_G} {r : a2_A} (h : Mst b s P g r) (hk : 0 ≤ k.toInt) : wp (ev L xs (m + 1) d nM_begins [.ref cM, .int k] g r) (kB g r (k.toInt < (g fM_n).toInt)) kN := by
  obtain ⟨d, rfl⟩ : ∃ e, d = e + 1 := ⟨d - 1, by omega⟩
  have h2 := h.W.2
  rw [qM_begins]
  refine wp_vB (tM_isKind L xs (by omega) _ h hk) ?_ (fun f => ?_)
  · refine wp_if (fun _ => ?_) (fun hc => absurd (by decide) hc)
    unfold BM_begins_40 BM_begins_41
    exact wp_if (fun _ => ⟨_, rfl, Or.inl rfl, rfl, rfl⟩) (fun hc => absurd (by decide) hc)
  · have f := Mk_lt f
    refine wp_if (fun hc => absurd hc (by decide)) (fun _ => ?_)
    refine wp_if (fun _ => ?_) (fun hc => absurd (by rw [inr_eq]; omega) hc)
    refine wp_vB (tM_in L xs (by omega) _ _ _) ?_ (fun f2 => ?_)
    · refine wp_if (fun hc => absurd hc (by decide)) (fun _ => ?_)
      refine wp_if (fun _ => ?_) (fun hc => absurd (by rw [inr_eq]; omega) hc)
      unfold BM_begins_40 BM_begins_36 BM_begins_41
      refine wp_if (fun _ => ?_) (fun _ => ?_)
      · exact wp_if (fun _ => ⟨_, rfl, Or.inl rfl, rfl, rfl⟩) (fun hc => absurd (by decide) hc)
      · exact wp_if (fun _ => ⟨_, rfl, Or.inr ⟨rfl, f⟩, rfl, rfl⟩) (fun hc => absurd (by decide) hc)
    · refine wp_if (fun _ => ?_) (fun hc => absurd (by decide) hc)
      unfold BM_begins_36 BM_begins_41
      exact wp_if (fun _ => ⟨_, rfl, Or.inr ⟨rfl, f⟩, rfl, rfl⟩) (fun hc => absurd (by decide) hc)
theorem tM_isComparing (L : Nat) (xs : Nat → Int32) {m d : Nat} (hd : 2 ≤ d) {k : Int32} {b : Int} {s : Sg} {P : List Nat} {g : a2_G} {r : a2_A} (h : Mst b s P g r) (hk : 0 ≤ k.toInt) : wp (ev L xs (m + 1) d nM_isComparing [.ref cM, .int k] g r) (kB g r (k.toInt < (g fM_n).toInt)) kN := by
  obtain ⟨d, rfl⟩ : ∃ e, d = e + 1 := ⟨d - 1, by omega⟩
  have h2 := h.W.2
  have t23 : wp (BM_isComparing_23 L xs (m + 1) d m k g r) (kB g r (k.toInt < (g fM_n).toInt)) kN := by
    unfold BM_isComparing_23 BM_isComparing_52 BM_isComparing_48 BM_isComparing_53
    refine wp_vB (tM_isKind L xs (by omega) _ h hk) ?_ (fun f => ?_)
    · refine wp_if (fun _ => ?_) (fun hc => absurd (by decide) hc)
      exact wp_if (fun _ => ⟨_, rfl, Or.inl rfl, rfl, rfl⟩) (fun hc => absurd (by decide) hc)
    · have f := Mk_lt f
      refine wp_if (fun hc => absurd hc (by decide)) (fun _ => ?_)
      refine wp_if (fun _ => ?_) (fun hc => absurd (by rw [inr_eq]; omega) hc)
      refine wp_vB (tM_in L xs (by omega) _ _ _) ?_ (fun f2 => ?_)
      · refine wp_if (fun _ => ?_) (fun hc => absurd (by decide) hc)
        exact wp_if (fun _ => ⟨_, rfl, Or.inl rfl, rfl, rfl⟩) (fun hc => absurd (by decide) hc)
      · refine wp_if (fun hc => absurd hc (by decide)) (fun _ => ?_)
        exact wp_if (fun _ => ⟨_, rfl, Or.inr ⟨rfl, f⟩, rfl, rfl⟩) (fun hc => absurd (by decide) hc)
  rw [qM_isComparing]
  refine wp_vB (tM_isKind L xs (by omega) _ h hk) ?_ (fun f => ?_)
  · exact wp_if (fun _ => t23) (fun hc => absurd (by decide) hc)
  · have f := Mk_lt f
    refine wp_if (fun hc => absurd hc (by decide)) (fun _ => ?_)
    refine wp_if (fun _ => ?_) (fun hc => absurd (by rw [inr_eq]; omega) hc)
    refine wp_vB (tM_in L xs (by omega) _ _ _) ?_ (fun f2 => ?_)
    · exact wp_if (fun hc => absurd hc (by decide)) (fun _ => t23)
    · refine wp_if (fun _ => ?_) (fun hc => absurd (by decide) hc)
      unfold BM_isComparing_48 BM_isComparing_53
      exact wp_if (fun _ => ⟨_, rfl, Or.inr ⟨rfl, f⟩, rfl, rfl⟩) (fun hc => absurd (by decide) hc)
theorem tM_isTimes (L : Nat) (xs : Nat → Int32) {m d : Nat} (hd : 3 ≤ d) {b : Int} {s : Sg} {P : List Nat} {g : a2_G} {r : a2_A} (h : Mst b s P g r) : wp (ev L xs (m + 1) d nM_isTimes [.ref cM] g r) (kB g r ((g fM_at).toInt < (g fM_n).toInt)) kN := by
  obtain ⟨d, rfl⟩ : ∃ e, d = e + 1 := ⟨d - 1, by omega⟩
  have q := h.q
  have e := i32_inc (x := g fM_at) (by omega)
  rw [qM_isTimes]
  unfold BM_isTimes_39 BM_isTimes_43 BM_isTimes_44
  refine wp_vB (tM_isKind L xs (by omega) _ h h.a0) ?_ (fun f => ?_)
  · refine wp_if (fun hc => absurd hc (by decide)) (fun _ => ?_)
    refine wp_vB (tM_isKind L xs (by omega) _ h h.a0) ?_ (fun f => ?_)
    · refine wp_if (fun _ => ?_) (fun hc => absurd (by decide) hc)
      exact wp_if (fun _ => ⟨_, rfl, Or.inl rfl, rfl, rfl⟩) (fun hc => absurd (by decide) hc)
    · refine wp_if (fun hc => absurd hc (by decide)) (fun _ => ?_)
      refine wp_vB (tM_isWord L xs (by omega) _ h (by omega)) ?_ (fun f2 => ?_)
      · refine wp_if (fun _ => ?_) (fun hc => absurd (by decide) hc)
        exact wp_if (fun _ => ⟨_, rfl, Or.inl rfl, rfl, rfl⟩) (fun hc => absurd (by decide) hc)
      · refine wp_if (fun hc => absurd hc (by decide)) (fun _ => ?_)
        exact wp_if (fun _ => ⟨_, rfl, Or.inr ⟨rfl, Mk_lt f⟩, rfl, rfl⟩) (fun hc => absurd (by decide) hc)
  · refine wp_if (fun _ => ?_) (fun hc => absurd (by decide) hc)
    exact wp_if (fun _ => ⟨_, rfl, Or.inr ⟨rfl, Mk_lt f⟩, rfl, rfl⟩) (fun hc => absurd (by decide) hc)
theorem tM_isBehind (L : Nat) (xs : Nat → Int32) {m d : Nat} (hd : 3 ≤ d) {b : Int} {s : Sg} {P : List Nat} {g : a2_G} {r : a2_A} (h : Mst b s P g r) : wp (ev L xs (m + 1) d nM_isBehind [.ref cM] g r) (kB g r ((g fM_at).toInt < (g fM_n).toInt)) kN := by
  obtain ⟨d, rfl⟩ : ∃ e, d = e + 1 := ⟨d - 1, by omega⟩
  have q := h.q
  have e := i32_inc (x := g fM_at) (by omega)
  have t39 : wp (BM_isBehind_39 L xs (m + 1) d m g r) (kB g r ((g fM_at).toInt < (g fM_n).toInt)) kN := by
    unfold BM_isBehind_39 BM_isBehind_50 BM_isBehind_55
    refine wp_vB (tM_isComparing L xs (by omega) h h.a0) ?_ (fun f => ?_)
    · refine wp_if (fun _ => ?_) (fun hc => absurd (by decide) hc)
      exact wp_if (fun _ => ⟨_, rfl, Or.inl rfl, rfl, rfl⟩) (fun hc => absurd (by decide) hc)
    · refine wp_if (fun hc => absurd hc (by decide)) (fun _ => ?_)
      exact wp_if (fun _ => ⟨_, rfl, Or.inr ⟨rfl, f⟩, rfl, rfl⟩) (fun hc => absurd (by decide) hc)
  rw [qM_isBehind]
  refine wp_vB (tM_isWord L xs (by omega) _ h h.a0) ?_ (fun f => ?_)
  · refine wp_if (fun hc => absurd hc (by decide)) (fun _ => ?_)
    refine wp_vB (tM_isWord L xs (by omega) _ h h.a0) ?_ (fun f => ?_)
    · exact wp_if (fun _ => t39) (fun hc => absurd (by decide) hc)
    · refine wp_if (fun hc => absurd hc (by decide)) (fun _ => ?_)
      refine wp_vB (tM_isComparing L xs (by omega) h (by omega)) ?_ (fun f2 => ?_)
      · exact wp_if (fun hc => absurd hc (by decide)) (fun _ => t39)
      · refine wp_if (fun _ => ?_) (fun hc => absurd (by decide) hc)
        unfold BM_isBehind_50 BM_isBehind_55
        exact wp_if (fun _ => ⟨_, rfl, Or.inr ⟨rfl, Mw_lt f⟩, rfl, rfl⟩) (fun hc => absurd (by decide) hc)
  · refine wp_if (fun _ => ?_) (fun hc => absurd (by decide) hc)
    unfold BM_isBehind_50 BM_isBehind_55
    exact wp_if (fun _ => ⟨_, rfl, Or.inr ⟨rfl, Mw_lt f⟩, rfl, rfl⟩) (fun hc => absurd (by decide) hc)
/-- good: p words on at least, c for the nodes; or bad -/
def pG (c : Int) (p : Int) (b : Int) (s : Sg) (P : List Nat) (g : a2_G) (r : a2_A) (g' : a2_G) (r' : a2_A) : Prop := En g r g' r' ∧ g' fM_bad = 0 ∧ (g fM_at).toInt + p ≤ (g' fM_at).toInt ∧ Mst (b + c) s P g' r'
def pB (b : Int) (s : Sg) (P : List Nat) (g : a2_G) (r : a2_A) (g' : a2_G) (r' : a2_A) : Prop := En g r g' r' ∧ g' fM_bad = 1 ∧ Mst b s P g' r'
/-- a test that passes its word -/
def kM (b : Int) (s : Sg) (P : List Nat) (g : a2_G) (r : a2_A) (w : Int32) : Option Value → a2_G → a2_A → Prop := fun o g' r' => (o = some (.int 0) ∧ g' = g ∧ r' = r ∧ Mw g r (g fM_at) w = false) ∨ (o = some (.int 1) ∧ pG (-4) 1 b s P g r g' r')
/-- a demand -/
def kD (b : Int) (s : Sg) (P : List Nat) (g : a2_G) (r : a2_A) : Option Value → a2_G → a2_A → Prop := fun o g' r' => (o = some (.int 0) ∧ pB b s P g r g' r') ∨ (o = some (.int 1) ∧ pG (-4) 1 b s P g r g' r')
/-- what gives nothing -/
def kU (c p : Int) (b : Int) (s : Sg) (P : List Nat) (g : a2_G) (r : a2_A) : Option Value → a2_G → a2_A → Prop := fun o g' r' => o = none ∧ (pG c p b s P g r g' r' ∨ pB b s P g r g' r')
theorem wp_vM {z : Option fn_Z} {b : Int} {s : Sg} {P : List Nat} {g : a2_G} {r : a2_A} {w : Int32} {k : Int32 → a2_G → a2_A → Option fn_Z} {Q : Option Value → a2_G → a2_A → Prop} {X : Nat → a2_G → a2_A → Prop} (h : wp z (kM b s P g r w) kN) (h0 : Mw g r (g fM_at) w = false → wp (k 0 g r) Q X) (h1 : ∀ g' r', pG (-4) 1 b s P g r g' r' → wp (k 1 g' r') Q X) : wp (fn_v z k) Q X := by
  refine wp_v h (fun _ _ _ hx => hx.elim) ?_
  rintro o g' r' (⟨rfl, rfl, rfl, hw⟩ | ⟨rfl, hc⟩)
  · exact ⟨0, rfl, h0 hw⟩
  · exact ⟨1, rfl, h1 _ _ hc⟩
theorem wp_vD {z : Option fn_Z} {b : Int} {s : Sg} {P : List Nat} {g : a2_G} {r : a2_A} {k : Int32 → a2_G → a2_A → Option fn_Z} {Q : Option Value → a2_G → a2_A → Prop} {X : Nat → a2_G → a2_A → Prop} (h : wp z (kD b s P g r) kN) (h0 : ∀ g' r', pB b s P g r g' r' → wp (k 0 g' r') Q X) (h1 : ∀ g' r', pG (-4) 1 b s P g r g' r' → wp (k 1 g' r') Q X) : wp (fn_v z k) Q X := by
  refine wp_v h (fun _ _ _ hx => hx.elim) ?_
  rintro o g' r' (⟨rfl, hc⟩ | ⟨rfl, hc⟩)
  · exact ⟨0, rfl, h0 _ _ hc⟩
  · exact ⟨1, rfl, h1 _ _ hc⟩
theorem wp_vZ {z : Option fn_Z} {b : Int} {s : Sg} {P : List Nat} {g : a2_G} {r : a2_A} {k : Int32 → a2_G → a2_A → Option fn_Z} {Q : Option Value → a2_G → a2_A → Prop} {X : Nat → a2_G → a2_A → Prop} (h : wp z (fun o g' r' => o = some (.int 0) ∧ pB b s P g r g' r') kN) (h0 : ∀ g' r', pB b s P g r g' r' → wp (k 0 g' r') Q X) : wp (fn_v z k) Q X := by
  refine wp_v h (fun _ _ _ hx => hx.elim) ?_
  rintro o g' r' ⟨rfl, hc⟩
  exact ⟨0, rfl, h0 _ _ hc⟩
theorem wp_nU {z : Option fn_Z} {c p b : Int} {s : Sg} {P : List Nat} {g : a2_G} {r : a2_A} {k : a2_G → a2_A → Option fn_Z} {Q : Option Value → a2_G → a2_A → Prop} {X : Nat → a2_G → a2_A → Prop} (h : wp z (kU c p b s P g r) kN) (h0 : ∀ g' r', pB b s P g r g' r' → wp (k g' r') Q X) (h1 : ∀ g' r', pG c p b s P g r g' r' → wp (k g' r') Q X) : wp (fn_n z k) Q X := by
  refine wp_n h (fun _ _ _ hx => hx.elim) ?_
  rintro o g' r' ⟨rfl, hc | hc⟩
  · exact ⟨rfl, h1 _ _ hc⟩
  · exact ⟨rfl, h0 _ _ hc⟩
theorem wp_nZ {z : Option fn_Z} {b : Int} {s : Sg} {P : List Nat} {g : a2_G} {r : a2_A} {k : a2_G → a2_A → Option fn_Z} {Q : Option Value → a2_G → a2_A → Prop} {X : Nat → a2_G → a2_A → Prop} (h : wp z (fun o g' r' => o = none ∧ pB b s P g r g' r') kN) (h0 : ∀ g' r', pB b s P g r g' r' → wp (k g' r') Q X) : wp (fn_n z k) Q X := by
  refine wp_n h (fun _ _ _ hx => hx.elim) ?_
  rintro o g' r' ⟨rfl, hc⟩
  exact ⟨rfl, h0 _ _ hc⟩
theorem Mw_at {g : a2_G} {r : a2_A} {w : Int32} (hb : g fM_bad = 0) : Mm g r w = Mw g r (g fM_at) w := by simp [Mm, hb]
theorem tM_meets (L : Nat) (xs : Nat → Int32) {m d : Nat} (hd : 3 ≤ d) (w : Int32) {b : Int} {s : Sg} {P : List Nat} {g : a2_G} {r : a2_A} (h : Mst b s P g r) (hb : g fM_bad = 0) : wp (ev L xs (m + 1) d nM_meets [.ref cM, .int w] g r) (kM b s P g r w) kN := by
  obtain ⟨d, rfl⟩ : ∃ e, d = e + 3 := ⟨d - 3, by omega⟩
  rw [M_meets L xs m d h.a0 h.W]
  cases hw : Mm g r w with
  | false => exact Or.inl ⟨rfl, rfl, rfl, by rw [← Mw_at hb]; exact hw⟩
  | true =>
    obtain ⟨p1, p2, p3⟩ := h.ps hb (Mm_lt hw)
    exact Or.inr ⟨rfl, p3, hb, by show _ ≤ (g fM_at + 1).toInt; omega, p1⟩
theorem tM_meets_b (L : Nat) (xs : Nat → Int32) {m d : Nat} (hd : 3 ≤ d) (w : Int32) {b : Int} {s : Sg} {P : List Nat} {g : a2_G} {r : a2_A} (h : Mst b s P g r) (hb : g fM_bad = 1) : wp (ev L xs (m + 1) d nM_meets [.ref cM, .int w] g r) (fun o g' r' => o = some (.int 0) ∧ pB b s P g r g' r') kN := by
  obtain ⟨d, rfl⟩ : ∃ e, d = e + 3 := ⟨d - 3, by omega⟩
  rw [M_meets L xs m d h.a0 h.W, show Mm g r w = false by simp [Mm, hb]]
  exact ⟨rfl, En.rf, hb, h⟩
theorem tM_fail (L : Nat) (xs : Nat → Int32) {m d : Nat} (hd : 2 ≤ d) (n w : Int32) {b : Int} {s : Sg} {P : List Nat} {g : a2_G} {r : a2_A} (h : Mst b s P g r) (hb : g fM_bad = 0) (h1 : s.1 ≤ w.toInt) (h2 : w.toInt ≤ (g fM_n).toInt) (h3 : (g fM_at).toInt ≤ w.toInt + 2) : wp (ev L xs (m + 1) d nM_fail [.ref cM, .int n, .int w] g r) (fun o g' r' => o = some (.int 0) ∧ pB b s P g r g' r') kN := by
  obtain ⟨d, rfl⟩ : ∃ e, d = e + 2 := ⟨d - 2, by omega⟩
  rw [M_fail L xs m d h.F]
  obtain ⟨f1, f2, f3⟩ := h.fl n hb h1 h2 h3
  exact ⟨rfl, f2, f3, f1⟩
theorem tM_fail_b (L : Nat) (xs : Nat → Int32) {m d : Nat} (hd : 2 ≤ d) (n w : Int32) {b : Int} {s : Sg} {P : List Nat} {g : a2_G} {r : a2_A} (h : Mst b s P g r) (hb : g fM_bad = 1) : wp (ev L xs (m + 1) d nM_fail [.ref cM, .int n, .int w] g r) (fun o g' r' => o = some (.int 0) ∧ pB b s P g r g' r') kN := by
  obtain ⟨d, rfl⟩ : ∃ e, d = e + 2 := ⟨d - 2, by omega⟩
  rw [M_fail L xs m d h.F]
  obtain ⟨f1, f2, f3⟩ := h.fb n w hb
  exact ⟨rfl, f2, f3, f1⟩
theorem tM_must (L : Nat) (xs : Nat → Int32) {m d : Nat} (hd : 4 ≤ d) (w : Int32) {b : Int} {s : Sg} {P : List Nat} {g : a2_G} {r : a2_A} (h : Mst b s P g r) (hb : g fM_bad = 0) : wp (ev L xs (m + 1) d nM_must [.ref cM, .int w] g r) (kD b s P g r) kN := by
  obtain ⟨d, rfl⟩ : ∃ e, d = e + 4 := ⟨d - 4, by omega⟩
  have q := h.q
  rw [M_must L xs m d h.a0 h.W h.F]
  cases hw : Mm g r w with
  | false =>
    rw [if_neg (fun h => nomatch h)]
    obtain ⟨f1, f2, f3⟩ := h.fl 1 hb q.2.2.2.2.2.1 (h.an hb) (by omega)
    exact Or.inl ⟨rfl, f2, f3, f1⟩
  | true =>
    rw [if_pos rfl]
    obtain ⟨p1, p2, p3⟩ := h.ps hb (Mm_lt hw)
    exact Or.inr ⟨rfl, p3, hb, by show _ ≤ (g fM_at + 1).toInt; omega, p1⟩
theorem tM_must_b (L : Nat) (xs : Nat → Int32) {m d : Nat} (hd : 4 ≤ d) (w : Int32) {b : Int} {s : Sg} {P : List Nat} {g : a2_G} {r : a2_A} (h : Mst b s P g r) (hb : g fM_bad = 1) : wp (ev L xs (m + 1) d nM_must [.ref cM, .int w] g r) (fun o g' r' => o = some (.int 0) ∧ pB b s P g r g' r') kN := by
  obtain ⟨d, rfl⟩ : ∃ e, d = e + 4 := ⟨d - 4, by omega⟩
  rw [M_must L xs m d h.a0 h.W h.F, show Mm g r w = false by simp [Mm, hb], if_neg (fun h => nomatch h)]
  obtain ⟨f1, f2, f3⟩ := h.fb 1 (g fM_at) hb
  exact ⟨rfl, f2, f3, f1⟩
theorem Mb_lt {g : a2_G} {r : a2_A} {w : Int32} (h : Mb g r w = true) : (g fM_at).toInt < (g fM_n).toInt := by
  simp only [Mb, Bool.and_eq_true] at h
  exact Mk_lt h.2
theorem tM_mustBe (L : Nat) (xs : Nat → Int32) {m d : Nat} (hd : 3 ≤ d) (w : Int32) {b : Int} {s : Sg} {P : List Nat} {g : a2_G} {r : a2_A} (h : Mst b s P g r) (hb : g fM_bad = 0) : wp (ev L xs (m + 1) d nM_mustBe [.ref cM, .int w] g r) (kD b s P g r) kN := by
  obtain ⟨d, rfl⟩ : ∃ e, d = e + 3 := ⟨d - 3, by omega⟩
  have q := h.q
  rw [M_mustBe L xs m d h.a0 h.W h.F]
  cases hw : Mb g r w with
  | false =>
    rw [if_neg (fun h => nomatch h)]
    obtain ⟨f1, f2, f3⟩ := h.fl 1 hb q.2.2.2.2.2.1 (h.an hb) (by omega)
    exact Or.inl ⟨rfl, f2, f3, f1⟩
  | true =>
    rw [if_pos rfl]
    obtain ⟨p1, p2, p3⟩ := h.ps hb (Mb_lt hw)
    exact Or.inr ⟨rfl, p3, hb, by show _ ≤ (g fM_at + 1).toInt; omega, p1⟩
theorem tM_mustBe_b (L : Nat) (xs : Nat → Int32) {m d : Nat} (hd : 3 ≤ d) (w : Int32) {b : Int} {s : Sg} {P : List Nat} {g : a2_G} {r : a2_A} (h : Mst b s P g r) (hb : g fM_bad = 1) : wp (ev L xs (m + 1) d nM_mustBe [.ref cM, .int w] g r) (fun o g' r' => o = some (.int 0) ∧ pB b s P g r g' r') kN := by
  obtain ⟨d, rfl⟩ : ∃ e, d = e + 3 := ⟨d - 3, by omega⟩
  rw [M_mustBe L xs m d h.a0 h.W h.F, show Mb g r w = false by simp [Mb, hb], if_neg (fun h => nomatch h)]
  obtain ⟨f1, f2, f3⟩ := h.fb 1 (g fM_at) hb
  exact ⟨rfl, f2, f3, f1⟩
theorem tM_passed (L : Nat) (xs : Nat → Int32) {m d : Nat} (hd : 1 ≤ d) {b : Int} {s : Sg} {P : List Nat} {g : a2_G} {r : a2_A} (h : Mst b s P g r) (h0 : 0 < (g fM_at).toInt) (hb : g fM_bad = 0) : wp (ev L xs (m + 1) d nM_passed [.ref cM] g r) (kP g r (fun _ => True)) kN := by
  obtain ⟨d, rfl⟩ : ∃ e, d = e + 1 := ⟨d - 1, by omega⟩
  have := h.an hb
  have h2 := h.W.2
  rw [M_passed L xs m d h0 (by omega)]
  exact ⟨_, rfl, trivial, rfl, rfl⟩
/-- a new node t -/
def kK (b : Int) (s : Sg) (P : List Nat) (g : a2_G) (r : a2_A) : Option Value → a2_G → a2_A → Prop := fun o g' r' => o = some (.int (g fM_nodes)) ∧ En g r g' r' ∧ g' fM_bad = g fM_bad ∧ g' fM_at = g fM_at ∧ (g' fM_nodes).toInt = (g fM_nodes).toInt + 1 ∧ Mst (b + 1) s ((g fM_nodes).toInt.toNat :: P) g' r'
theorem tM_make (L : Nat) (xs : Nat → Int32) {m d : Nat} (hd : 1 ≤ d) (k v p : Int32) {b : Int} {s : Sg} {P : List Nat} {g : a2_G} {r : a2_A} (h : Mst b s P g r) (hb : b ≤ 1900) : wp (ev L xs (m + 1) d nM_make [.ref cM, .int k, .int v, .int p] g r) (kK b s P g r) kN := by
  obtain ⟨d, rfl⟩ : ∃ e, d = e + 1 := ⟨d - 1, by omega⟩
  have q := h.q
  rw [M_make L xs m d (by omega) (by omega) h.N]
  obtain ⟨f1, f2, f3⟩ := h.mk k v p hb
  exact ⟨rfl, f2, rfl, rfl, f3, f1⟩
theorem wp_vK {z : Option fn_Z} {b : Int} {s : Sg} {P : List Nat} {g : a2_G} {r : a2_A} {k : Int32 → a2_G → a2_A → Option fn_Z} {Q : Option Value → a2_G → a2_A → Prop} {X : Nat → a2_G → a2_A → Prop} (h : wp z (kK b s P g r) kN) (h1 : ∀ v g' r', v = g fM_nodes → En g r g' r' → g' fM_bad = g fM_bad → g' fM_at = g fM_at → (g' fM_nodes).toInt = (g fM_nodes).toInt + 1 → Mst (b + 1) s (v.toInt.toNat :: P) g' r' → wp (k v g' r') Q X) : wp (fn_v z k) Q X := by
  refine wp_v h (fun _ _ _ hx => hx.elim) ?_
  rintro o g' r' ⟨rfl, c1, c2, c3, c4, c5⟩
  exact ⟨_, rfl, h1 _ _ _ rfl c1 c2 c3 c4 c5⟩
/-- nothing but nodes -/
def kH (c b : Int) (s : Sg) (P : List Nat) (g : a2_G) (r : a2_A) : Option Value → a2_G → a2_A → Prop := fun o g' r' => o = none ∧ En g r g' r' ∧ g' fM_bad = g fM_bad ∧ g' fM_at = g fM_at ∧ Mst (b + c) s P g' r'
theorem wp_nH {z : Option fn_Z} {c b : Int} {s : Sg} {P : List Nat} {g : a2_G} {r : a2_A} {k : a2_G → a2_A → Option fn_Z} {Q : Option Value → a2_G → a2_A → Prop} {X : Nat → a2_G → a2_A → Prop} (h : wp z (kH c b s P g r) kN) (h1 : ∀ g' r', En g r g' r' → g' fM_bad = g fM_bad → g' fM_at = g fM_at → Mst (b + c) s P g' r' → wp (k g' r') Q X) : wp (fn_n z k) Q X := by
  refine wp_n h (fun _ _ _ hx => hx.elim) ?_
  rintro o g' r' ⟨rfl, c1, c2, c3, c4⟩
  exact ⟨rfl, h1 _ _ c1 c2 c3 c4⟩
theorem tM_attach (L : Nat) (xs : Nat → Int32) {m d : Nat} (hd : 1 ≤ d) {a t : Int32} {b : Int} {s : Sg} {P : List Nat} {g : a2_G} {r : a2_A} (h : Mst b s (t.toInt.toNat :: P) g r) (ha : Mi g a) (ht : Mi g t) (hb : b ≤ 1900) : wp (ev L xs (m + 1) d nM_attach [.ref cM, .int a, .int t] g r) (kH 0 b s P g r) kN := by
  obtain ⟨d, rfl⟩ : ∃ e, d = e + 1 := ⟨d - 1, by omega⟩
  have q := h.q
  have a1 := ha.1
  have a2 := ha.2
  have t1 := ht.1
  have t2 := ht.2
  rw [M_attach L xs m d ⟨a1, by omega⟩ ⟨t1, by omega⟩ (fun _ => h.1.2.1.at 2 _) h.N]
  obtain ⟨f1, f2⟩ := h.ac ha ht hb
  exact ⟨rfl, f2, rfl, rfl, f1.le (by omega)⟩
theorem tM_child4 (L : Nat) (xs : Nat → Int32) {m d : Nat} (hd : 2 ≤ d) {a : Int32} (k v p : Int32) {b : Int} {s : Sg} {P : List Nat} {g : a2_G} {r : a2_A} (h : Mst b s P g r) (ha : Mi g a) (hb : b ≤ 1899) : wp (ev L xs (m + 1) d nM_child4 [.ref cM, .int a, .int k, .int v, .int p] g r) (kH 1 b s P g r) kN := by
  obtain ⟨d, rfl⟩ : ∃ e, d = e + 1 := ⟨d - 1, by omega⟩
  have q := h.q
  have a1 := ha.1
  have a2 := ha.2
  rw [qM_child4]
  refine wp_vK (tM_make L xs (by omega) _ _ _ h (by omega)) (fun v1 g1 r1 e1 n1 b1 t1 s1 h1 => ?_)
  subst e1
  refine wp_nH (tM_attach L xs (by omega) h1 ⟨a1, by omega⟩ ⟨by omega, by omega⟩ (by omega)) (fun g2 r2 n2 b2 t2 h2 => ?_)
  exact ⟨rfl, n1.trans n2, b2.trans b1, t2.trans t1, h2.le (by omega)⟩
/-- an operand's node, or bad -/
def kA (b : Int) (s : Sg) (P : List Nat) (g : a2_G) (r : a2_A) : Option Value → a2_G → a2_A → Prop := fun o g' r' => (o = some (.int 0) ∧ pB b s P g r g' r') ∨ (o = some (.int (g fM_nodes)) ∧ (g' fM_nodes).toInt = (g fM_nodes).toInt + 1 ∧ pG (-3) 1 b s ((g fM_nodes).toInt.toNat :: P) g r g' r')
theorem tM_operand (L : Nat) (xs : Nat → Int32) {m d : Nat} (hd : 3 ≤ d) {b : Int} {s : Sg} {P : List Nat} {g : a2_G} {r : a2_A} (h : Mst b s P g r) (hb : g fM_bad = 0) (hl : b ≤ 1900) : wp (ev L xs (m + 1) d nM_operand [.ref cM] g r) (kA b s P g r) kN := by
  obtain ⟨d, rfl⟩ : ∃ e, d = e + 1 := ⟨d - 1, by omega⟩
  have q := h.q
  have w := h.W
  rw [qM_operand]
  refine wp_if (fun hc => absurd hb (by rw [c2_ne] at hc; exact hc)) (fun _ => ?_)
  refine wp_vB (tM_isOperand L xs (by omega) h h.a0) ?_ (fun f => ?_)
  · refine wp_if (fun hc => absurd hc (by decide)) (fun _ => ?_)
    unfold BM_operand_18
    refine wp_vZ (tM_fail L xs (by omega) _ _ h hb q.2.2.2.2.2.1 (h.an hb) (by omega)) (fun g1 r1 h1 => ?_)
    exact Or.inl ⟨rfl, h1⟩
  · refine wp_if (fun _ => ?_) (fun hc => absurd (by decide) hc)
    have w1 := w.1
    have w2 := w.2
    refine wp_if (fun _ => ?_) (fun hc => absurd (by rw [i32_as, inr_eq]; exact ⟨h.a0, by omega⟩) hc)
    refine wp_if (fun _ => ?_) (fun hc => absurd (by rw [i32_as, inr_eq]; exact ⟨h.a0, by omega⟩) hc)
    obtain ⟨p1, p2, p3⟩ := h.ps hb f
    refine wp_vK (tM_make L xs (by omega) _ _ _ p1 (by omega)) (fun v1 g1 r1 e1 n1 b1 t1 s1 h1 => ?_)
    subst e1
    refine Or.inr ⟨rfl, s1, p3.trans n1, b1.trans hb, ?_, h1.le (by omega)⟩
    rw [t1]
    show (g fM_at).toInt + 1 ≤ (g fM_at + 1).toInt
    omega
theorem tM_operand_b (L : Nat) (xs : Nat → Int32) {m d : Nat} (hd : 3 ≤ d) {b : Int} {s : Sg} {P : List Nat} {g : a2_G} {r : a2_A} (h : Mst b s P g r) (hb : g fM_bad = 1) : wp (ev L xs (m + 1) d nM_operand [.ref cM] g r) (fun o g' r' => o = some (.int 0) ∧ pB b s P g r g' r') kN := by
  obtain ⟨d, rfl⟩ : ∃ e, d = e + 1 := ⟨d - 1, by omega⟩
  rw [qM_operand]
  refine wp_if (fun _ => ?_) (fun hc => absurd (show am_c2 .ne (g fM_bad) 0 = true by rw [hb]; decide) hc)
  unfold BM_operand_18
  refine wp_vZ (tM_fail_b L xs (by omega) _ _ h hb) (fun g1 r1 h1 => ?_)
  exact ⟨rfl, h1⟩
theorem wp_vA {z : Option fn_Z} {b : Int} {s : Sg} {P : List Nat} {g : a2_G} {r : a2_A} {k : Int32 → a2_G → a2_A → Option fn_Z} {Q : Option Value → a2_G → a2_A → Prop} {X : Nat → a2_G → a2_A → Prop} (h : wp z (kA b s P g r) kN) (h0 : ∀ g' r', pB b s P g r g' r' → wp (k 0 g' r') Q X) (h1 : ∀ v g' r', v = g fM_nodes → (g' fM_nodes).toInt = (g fM_nodes).toInt + 1 → pG (-3) 1 b s (v.toInt.toNat :: P) g r g' r' → wp (k v g' r') Q X) : wp (fn_v z k) Q X := by
  refine wp_v h (fun _ _ _ hx => hx.elim) ?_
  rintro o g' r' (⟨rfl, hc⟩ | ⟨rfl, hn, hc⟩)
  · exact ⟨0, rfl, h0 _ _ hc⟩
  · exact ⟨_, rfl, h1 _ _ _ rfl hn hc⟩
theorem tM_operandOf (L : Nat) (xs : Nat → Int32) {m d : Nat} (hd : 4 ≤ d) {a : Int32} {b : Int} {s : Sg} {P : List Nat} {g : a2_G} {r : a2_A} (h : Mst b s P g r) (hb : g fM_bad = 0) (ha : Mi g a) (hl : b ≤ 1900) : wp (ev L xs (m + 1) d nM_operandOf [.ref cM, .int a] g r) (kU (-3) 1 b s P g r) kN := by
  obtain ⟨d, rfl⟩ : ∃ e, d = e + 1 := ⟨d - 1, by omega⟩
  have q := h.q
  have a1 := ha.1
  have a2 := ha.2
  rw [qM_operandOf]
  unfold BM_operandOf_15
  refine wp_vA (tM_operand L xs (by omega) h hb hl) (fun g1 r1 h1 => ?_) (fun v g1 r1 ev n1 h1 => ?_)
  · refine wp_if (fun _ => ?_) (fun hc => absurd (by decide) hc)
    exact ⟨rfl, Or.inr h1⟩
  · subst ev
    refine wp_if (fun hc => ?_) (fun _ => ?_)
    · rw [c2_le, i32_0] at hc
      exfalso; omega
    · refine wp_nH (tM_attach L xs (by omega) h1.2.2.2 ⟨a1, by omega⟩ ⟨by omega, by omega⟩ (by omega)) (fun g2 r2 n2 b2 t2 h2 => ?_)
      refine ⟨rfl, Or.inl ⟨h1.1.trans n2, b2.trans h1.2.1, ?_, h2.le (by omega)⟩⟩
      rw [t2]
      exact h1.2.2.1
theorem tM_operandOf_b (L : Nat) (xs : Nat → Int32) {m d : Nat} (hd : 4 ≤ d) (a : Int32) {b : Int} {s : Sg} {P : List Nat} {g : a2_G} {r : a2_A} (h : Mst b s P g r) (hb : g fM_bad = 1) : wp (ev L xs (m + 1) d nM_operandOf [.ref cM, .int a] g r) (fun o g' r' => o = none ∧ pB b s P g r g' r') kN := by
  obtain ⟨d, rfl⟩ : ∃ e, d = e + 1 := ⟨d - 1, by omega⟩
  rw [qM_operandOf]
  unfold BM_operandOf_15
  refine wp_vZ (tM_operand_b L xs (by omega) h hb) (fun g1 r1 h1 => ?_)
  refine wp_if (fun _ => ?_) (fun hc => absurd (by decide) hc)
  exact ⟨rfl, h1⟩
