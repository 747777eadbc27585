/-! The model's units: what its state says of its rows. -/
def US (g : a2_G) (r : a2_A) (st : Int32) (u : Nat) : Prop :=
  (st.toInt = 2 → Mi g ((r fM_environment).2 u)) ∧
  (3 ≤ st.toInt → st.toInt ≤ 7 → Mi g ((r fM_data).2 u)) ∧
  (4 ≤ st.toInt → st.toInt ≤ 5 → Mi g (g fM_files)) ∧
  (5 ≤ st.toInt → st.toInt ≤ 7 → Mi g (g fM_holder) ∧ Mi g (g fM_latest) ∧ 0 ≤ (g fM_items).toInt ∧ (g fM_items).toInt ≤ 49 ∧ ∀ i : Nat, (i : Int) < (g fM_items).toInt → Mi g ((r fM_itemNode).2 i) ∧ (i : Int) + 1 ≤ ((r fM_levels).2 i).toInt) ∧
  (8 ≤ st.toInt → st.toInt ≤ 11 → Mi g ((r fM_procedure).2 u) ∧ Mi g (g fM_section) ∧ Mi g (g fM_paragraph)) ∧
  (st.toInt = 9 → Mi g (g fM_declaratives))
def UI (s : Int) (g : a2_G) (r : a2_A) : Prop :=
  (0 ≤ (g fM_open).toInt ∧ (g fM_open).toInt ≤ 10 ∧ 0 ≤ (g fM_units).toInt ∧ 3 * (g fM_units).toInt ≤ s) ∧
  (∀ i : Nat, (i : Int) < (g fM_open).toInt → ((r fM_its).2 i).toInt < (g fM_units).toInt ∧ Mi g ((r fM_unitNode).2 ((r fM_its).2 i).toInt.toNat)) ∧
  (∀ i : Nat, (i : Int) + 1 < (g fM_open).toInt → (r fM_state).2 i = 12) ∧
  (∀ i : Nat, (i : Int) + 1 = (g fM_open).toInt → US g r ((r fM_state).2 i) ((r fM_its).2 i).toInt.toNat)
theorem Mi.mo {g g' : a2_G} {x : Int32} (h : Mi g x) (hn : (g fM_nodes).toInt ≤ (g' fM_nodes).toInt) : Mi g' x := ⟨h.1, by have := h.2; omega⟩
theorem US.kp {g g' : a2_G} {r r' : a2_A} {st : Int32} {u : Nat} (h : US g r st u) (hf : Fm WZ WZa g r g' r') (hn : (g fM_nodes).toInt ≤ (g' fM_nodes).toInt) : US g' r' st u := by
  obtain ⟨h1, h2, h3, h4, h5, h6⟩ := h
  unfold US
  rw [hf.2 fM_environment (by decide), hf.2 fM_data (by decide), hf.1 fM_files (by decide), hf.1 fM_holder (by decide), hf.1 fM_latest (by decide), hf.1 fM_items (by decide), hf.2 fM_itemNode (by decide), hf.2 fM_levels (by decide), hf.2 fM_procedure (by decide), hf.1 fM_section (by decide), hf.1 fM_paragraph (by decide), hf.1 fM_declaratives (by decide)]
  exact ⟨fun e => (h1 e).mo hn, fun e f => (h2 e f).mo hn, fun e f => (h3 e f).mo hn, fun e f => ⟨(h4 e f).1.mo hn, (h4 e f).2.1.mo hn, (h4 e f).2.2.1, (h4 e f).2.2.2.1, fun i hi => ⟨((h4 e f).2.2.2.2 i hi).1.mo hn, ((h4 e f).2.2.2.2 i hi).2⟩⟩, fun e f => ⟨(h5 e f).1.mo hn, (h5 e f).2.1.mo hn, (h5 e f).2.2.mo hn⟩, fun e => (h6 e).mo hn⟩
theorem UI.kp {s : Int} {g g' : a2_G} {r r' : a2_A} (h : UI s g r) (hf : Fm WZ WZa g r g' r') (hn : (g fM_nodes).toInt ≤ (g' fM_nodes).toInt) : UI s g' r' := by
  obtain ⟨h1, h2, h3, h4⟩ := h
  have e1 := hf.1 fM_open (by decide)
  have e2 := hf.1 fM_units (by decide)
  have e3 := hf.2 fM_its (by decide)
  have e4 := hf.2 fM_unitNode (by decide)
  have e5 := hf.2 fM_state (by decide)
  refine ⟨?_, ?_, ?_, ?_⟩
  · rw [e1, e2]
    exact h1
  · rw [e1, e2, e3, e4]
    exact fun i hi => ⟨(h2 i hi).1, (h2 i hi).2.mo hn⟩
  · rw [e1, e5]
    exact h3
  · rw [e1, e3, e5]
    exact fun i hi => (h4 i hi).kp hf hn
theorem UI.le {s s' : Int} {g : a2_G} {r : a2_A} (h : UI s g r) (hs : s ≤ s') : UI s' g r := ⟨⟨h.1.1, h.1.2.1, h.1.2.2.1, by have := h.1.2.2.2; omega⟩, h.2⟩
theorem Sv.ui {b B t : Int} {s : Sg} {P : List Nat} {g0 g : a2_G} {r0 r : a2_A} (h : Sv b B s P g0 r0 g r) (hu : UI t g0 r0) : UI t g r := hu.kp h.1.z.1 h.1.2.1
/-- behind a clause -/
def kCL (b B : Int) (s : Sg) (n : Int32) : Option Value → a2_G → a2_A → Prop := fun o g' r' => o = none ∧ g' fM_n = n ∧ (g' fM_bad = 1 ∧ Mst B s [] g' r' ∧ UI s.1 g' r' ∨ g' fM_bad = 0 ∧ Mst b s [] g' r' ∧ UI (g' fM_at).toInt g' r' ∧ s.1 < (g' fM_at).toInt)
theorem Sv.cb {b b' B : Int} {s : Sg} {P : List Nat} {g0 g : a2_G} {r0 r : a2_A} (h : Sv b B s P g0 r0 g r) (hu : UI s.1 g0 r0) (hb : g fM_bad = 1) : kCL b' B s (g0 fM_n) none g r := ⟨rfl, h.1.1.1 fM_n (by decide), Or.inl ⟨hb, h.2.elim (fun e => (bad_ne e.1 hb).elim) (fun e => e.2), h.ui hu⟩⟩
theorem wp_nL {z : Option fn_Z} {b B : Int} {s : Sg} {n : Int32} {X : Nat → a2_G → a2_A → Prop} (h : wp z (kCL b B s n) kN) : wp (fn_n z fun g r => some (.inl none, g, r)) (kCL b B s n) X := by
  refine wp_n h (fun _ _ _ hx => hx.elim) ?_
  rintro o g' r' ⟨rfl, e⟩
  exact ⟨rfl, rfl, e⟩
/-- the innermost unit: its place, its state -/
def In (g : a2_G) (r : a2_A) (j : Nat) (st : Int32) : Prop := (g fM_open).toInt = (j : Int) + 1 ∧ (r fM_state).2 j = st
theorem In.kp {g g' : a2_G} {r r' : a2_A} {j : Nat} {st : Int32} (h : In g r j st) (hf : Fm WZ WZa g r g' r') : In g' r' j st := ⟨by rw [hf.1 fM_open (by decide)]; exact h.1, by rw [hf.2 fM_state (by decide)]; exact h.2⟩
theorem tM_here (L : Nat) (xs : Nat → Int32) {m d : Nat} (hd : 1 ≤ d) {b t : Int} {s : Sg} {P : List Nat} {g : a2_G} {r : a2_A} {j : Nat} {st : Int32} (h : Mst b s P g r) (hu : UI t g r) (hi : In g r j st) : wp (ev L xs (m + 1) d nM_here [.ref cM] g r) (kP g r (fun v => v = (r fM_its).2 j)) kN := by
  obtain ⟨d, rfl⟩ : ∃ e, d = e + 1 := ⟨d - 1, by omega⟩
  have h1 := hi.1
  have h2 := hu.1
  have ec : ((g fM_open) - 1).toInt = j := by rw [i32_dec (by omega)]; omega
  have ec' : ((g fM_open) - 1).toNatClampNeg = j := by rw [nc_eq, ec]; rfl
  rw [qM_here]
  refine wp_in (h.1.1.at 20) (by omega) (by omega) ?_
  rw [ec']
  exact ⟨_, rfl, rfl, rfl, rfl⟩
theorem tM_to (L : Nat) (xs : Nat → Int32) {m d : Nat} (hd : 1 ≤ d) (a : Int32) {b t : Int} {s : Sg} {P : List Nat} {g : a2_G} {r : a2_A} {j : Nat} (h : Mst b s P g r) (hu : 0 ≤ (g fM_open).toInt ∧ (g fM_open).toInt ≤ 10) (hi : (g fM_open).toInt = (j : Int) + 1) : wp (ev L xs (m + 1) d nM_to [.ref cM, .int a] g r) (fun o g' r' => o = none ∧ g' = g ∧ r' = aw r fM_state j a) kN := by
  obtain ⟨d, rfl⟩ : ∃ e, d = e + 1 := ⟨d - 1, by omega⟩
  have ec : ((g fM_open) - 1).toInt = j := by rw [i32_dec (by omega)]; omega
  have ec' : ((g fM_open) - 1).toNatClampNeg = j := by rw [nc_eq, ec]; rfl
  rw [qM_to]
  refine wp_in (h.1.1.at 18) (by omega) (by omega) ?_
  rw [ec']
  exact ⟨rfl, rfl, rfl⟩
/-- a new state of the innermost one; registers and rows of the section may be new too -/
theorem UI.to {t t' : Int} {g g' : a2_G} {r r' : a2_A} {j : Nat} {st st' : Int32} (h : UI t g r) (hi : In g r j st) (ht : t ≤ t') (e1 : g' fM_open = g fM_open) (e2 : g' fM_units = g fM_units) (e3 : g' fM_nodes = g fM_nodes) (e4 : r' fM_its = r fM_its) (e5 : r' fM_unitNode = r fM_unitNode) (e6 : r' fM_state = aw r fM_state j st' fM_state) (hs : US g' r' st' ((r fM_its).2 j).toInt.toNat) : UI t' g' r' := by
  obtain ⟨h1, h2, h3, h4⟩ := h
  have o := hi.1
  have mo : ∀ {x : Int32}, Mi g x → Mi g' x := fun hx => hx.mo (by rw [e3]; omega)
  refine ⟨?_, ?_, ?_, ?_⟩
  · rw [e1, e2]
    exact ⟨h1.1, h1.2.1, h1.2.2.1, by have := h1.2.2.2; omega⟩
  · rw [e1, e2, e4, e5]
    exact fun i hi => ⟨(h2 i hi).1, mo (h2 i hi).2⟩
  · rw [e1, e6]
    intro i hi'
    rw [aw_nt (by omega)]
    exact h3 i hi'
  · rw [e1, e4, e6]
    intro i hi'
    have ij : i = j := by omega
    subst ij
    rw [aw_at]
    exact hs
theorem UI.u {t : Int} {g : a2_G} {r : a2_A} {j : Nat} {st : Int32} (h : UI t g r) (hi : In g r j st) : 0 ≤ ((r fM_its).2 j).toInt ∨ True := Or.inr trivial
theorem UI.st {t : Int} {g : a2_G} {r : a2_A} {j : Nat} {st : Int32} (h : UI t g r) (hi : In g r j st) : US g r st ((r fM_its).2 j).toInt.toNat ∧ Mi g ((r fM_unitNode).2 ((r fM_its).2 j).toInt.toNat) ∧ ((r fM_its).2 j).toInt < (g fM_units).toInt := by
  have o := hi.1
  have h4 := h.2.2.2 j (by omega)
  rw [hi.2] at h4
  have h2 := h.2.1 j (by omega)
  exact ⟨h4, h2.2, h2.1⟩
