/-! The model within a statement: good or bad in one. -/
def Sv (b B : Int) (s : Sg) (P : List Nat) (g0 : a2_G) (r0 : a2_A) (g : a2_G) (r : a2_A) : Prop := Ex g0 r0 g r ∧ (g fM_bad = 0 ∧ g fM_level = g0 fM_level ∧ Mst b s P g r ∨ g fM_bad = 1 ∧ Mst B s [] g r)
theorem Sv.le {b b' B : Int} {s : Sg} {P : List Nat} {g0 g : a2_G} {r0 r : a2_A} (h : Sv b B s P g0 r0 g r) (hb : b ≤ b') : Sv b' B s P g0 r0 g r := ⟨h.1, h.2.elim (fun e => Or.inl ⟨e.1, e.2.1, e.2.2.le hb⟩) Or.inr⟩
theorem bad_ne {g : a2_G} (h1 : g fM_bad = 0) (h2 : g fM_bad = 1) : False := by
  rw [h1] at h2
  exact absurd h2 (by decide)
theorem Sv.gd {b B : Int} {s : Sg} {P : List Nat} {g0 g : a2_G} {r0 r : a2_A} (h : Sv b B s P g0 r0 g r) (hb : g fM_bad = 0) : g fM_level = g0 fM_level ∧ Mst b s P g r := h.2.elim (fun e => e.2) (fun e => (bad_ne hb e.1).elim)
theorem Sv.bd {b b' B : Int} {s : Sg} {P P' : List Nat} {g0 g : a2_G} {r0 r : a2_A} (h : Sv b B s P g0 r0 g r) (hb : g fM_bad = 1) : Sv b' B s P' g0 r0 g r := ⟨h.1, h.2.elim (fun e => (bad_ne e.1 hb).elim) (fun e => Or.inr e)⟩
theorem Sv.go {b b' B : Int} {s : Sg} {P P' : List Nat} {g0 g g' : a2_G} {r0 r r' : a2_A} (h : Sv b B s P g0 r0 g r) (hb : g fM_bad = 0) (he : Ex g r g' r') (hl : g' fM_level = g fM_level) (hb' : g' fM_bad = 0) (hm : Mst b' s P' g' r') : Sv b' B s P' g0 r0 g' r' := ⟨h.1.trans he, Or.inl ⟨hb', hl.trans (h.gd hb).1, hm⟩⟩
theorem Sv.en {b b' B : Int} {s : Sg} {P P' : List Nat} {g0 g g' : a2_G} {r0 r r' : a2_A} (h : Sv b B s P g0 r0 g r) (hb : g fM_bad = 0) (he : En g r g' r') (hb' : g' fM_bad = 0) (hm : Mst b' s P' g' r') : Sv b' B s P' g0 r0 g' r' := h.go hb he.x (he.1.1 fM_level (by decide)) hb' hm
theorem Sv.pb {b b' b1 B : Int} {s : Sg} {P P' P1 : List Nat} {g0 g g' : a2_G} {r0 r r' : a2_A} (h : Sv b B s P g0 r0 g r) (hp : pB b1 s P1 g r g' r') (hB : b1 ≤ B) : Sv b' B s P' g0 r0 g' r' := ⟨h.1.trans hp.1.x, Or.inr ⟨hp.2.1, hp.2.2.bd.le hB⟩⟩
theorem Sv.rf {b B : Int} {s : Sg} {P : List Nat} {g : a2_G} {r : a2_A} (hb : g fM_bad = 0) (h : Mst b s P g r) : Sv b B s P g r g r := ⟨Ex.rf, Or.inl ⟨hb, rfl, h⟩⟩
theorem Sv.rb {b B : Int} {s : Sg} {P P' : List Nat} {g : a2_G} {r : a2_A} (hb : g fM_bad = 1) (h : Mst B s P g r) : Sv b B s P' g r g r := ⟨Ex.rf, Or.inr ⟨hb, h.bd⟩⟩
theorem Sv.b01 {b B : Int} {s : Sg} {P : List Nat} {g0 g : a2_G} {r0 r : a2_A} (h : Sv b B s P g0 r0 g r) : g fM_bad = 0 ∨ g fM_bad = 1 := h.2.elim (fun e => Or.inl e.1) (fun e => Or.inr e.1)
theorem Sv.up {b B : Int} {s : Sg} {P : List Nat} {g0 g : a2_G} {r0 r : a2_A} (h : Sv b B s P g0 r0 g r) (q i : Nat) (x : Int32) (hq : q ∉ [fM_first, fM_last, fM_next, fM_above, fM_its]) (hq2 : q ∈ WXa) (hx : q ∈ QN → In8 x) : Sv b B s P g0 r0 g (aw r q i x) := ⟨⟨h.1.1.aw hq2, h.1.2⟩, h.2.elim (fun e => Or.inl ⟨e.1, e.2.1, e.2.2.awx q i x hq hx⟩) (fun e => Or.inr ⟨e.1, e.2.awx q i x hq hx⟩)⟩
theorem Sv.any {b B : Int} {s : Sg} {P : List Nat} {g0 g : a2_G} {r0 r : a2_A} (h : Sv b B s P g0 r0 g r) : ∃ b1 P1, Mst b1 s P1 g r ∧ (b1 = b ∨ b1 = B) := h.2.elim (fun e => ⟨b, P, e.2.2, Or.inl rfl⟩) (fun e => ⟨B, [], e.2, Or.inr rfl⟩)
/-- on from g: nodes, words; good only from good, p words on -/
def Lk (p : Int) (g g' : a2_G) : Prop := (g fM_nodes).toInt ≤ (g' fM_nodes).toInt ∧ (g fM_at).toInt ≤ (g' fM_at).toInt ∧ (g' fM_bad = 0 → g fM_bad = 0 ∧ (g fM_at).toInt + p ≤ (g' fM_at).toInt)
def kSn (p : Int) (b B : Int) (s : Sg) (P : List Nat) (g0 : a2_G) (r0 : a2_A) (g : a2_G) : Option Value → a2_G → a2_A → Prop := fun o g' r' => o = none ∧ Sv b B s P g0 r0 g' r' ∧ Lk p g g'
def kSv (b B : Int) (s : Sg) (P : List Nat) (g0 : a2_G) (r0 : a2_A) (g : a2_G) : Option Value → a2_G → a2_A → Prop := fun o g' r' => ∃ v : Int32, o = some (.int v) ∧ (v = 0 ∧ g' fM_bad = 1 ∨ v = 1 ∧ g' fM_bad = 0) ∧ Sv b B s P g0 r0 g' r' ∧ Lk 1 g g'
def kSm (b B : Int) (s : Sg) (P : List Nat) (g0 : a2_G) (r0 : a2_A) (g : a2_G) (r : a2_A) : Option Value → a2_G → a2_A → Prop := fun o g' r' => (o = some (.int 0) ∧ g' = g ∧ r' = r) ∨ (o = some (.int 1) ∧ g' fM_bad = 0 ∧ Sv (b - 4) B s P g0 r0 g' r' ∧ Lk 1 g g')
theorem wp_nS {z : Option fn_Z} {p b B : Int} {s : Sg} {P : List Nat} {g0 g : a2_G} {r0 : a2_A} {k : a2_G → a2_A → Option fn_Z} {Q : Option Value → a2_G → a2_A → Prop} {X : Nat → a2_G → a2_A → Prop} (h : wp z (kSn p b B s P g0 r0 g) kN) (h1 : ∀ g' r', Sv b B s P g0 r0 g' r' → Lk p g g' → wp (k g' r') Q X) : wp (fn_n z k) Q X := by
  refine wp_n h (fun _ _ _ hx => hx.elim) ?_
  rintro o g' r' ⟨rfl, e1, e2⟩
  exact ⟨rfl, h1 _ _ e1 e2⟩
theorem wp_vSv {z : Option fn_Z} {b B : Int} {s : Sg} {P : List Nat} {g0 g : a2_G} {r0 : a2_A} {k : Int32 → a2_G → a2_A → Option fn_Z} {Q : Option Value → a2_G → a2_A → Prop} {X : Nat → a2_G → a2_A → Prop} (h : wp z (kSv b B s P g0 r0 g) kN) (h0 : ∀ g' r', g' fM_bad = 1 → Sv b B s P g0 r0 g' r' → Lk 1 g g' → wp (k 0 g' r') Q X) (h1 : ∀ g' r', g' fM_bad = 0 → Sv b B s P g0 r0 g' r' → Lk 1 g g' → wp (k 1 g' r') Q X) : wp (fn_v z k) Q X := by
  refine wp_v h (fun _ _ _ hx => hx.elim) ?_
  rintro o g' r' ⟨v, rfl, ⟨rfl, hb⟩ | ⟨rfl, hb⟩, e1, e2⟩
  · exact ⟨0, rfl, h0 _ _ hb e1 e2⟩
  · exact ⟨1, rfl, h1 _ _ hb e1 e2⟩
theorem wp_vSm {z : Option fn_Z} {b B : Int} {s : Sg} {P : List Nat} {g0 g : a2_G} {r0 r : a2_A} {k : Int32 → a2_G → a2_A → Option fn_Z} {Q : Option Value → a2_G → a2_A → Prop} {X : Nat → a2_G → a2_A → Prop} (h : wp z (kSm b B s P g0 r0 g r) kN) (h0 : wp (k 0 g r) Q X) (h1 : ∀ g' r', g' fM_bad = 0 → Sv (b - 4) B s P g0 r0 g' r' → Lk 1 g g' → wp (k 1 g' r') Q X) : wp (fn_v z k) Q X := by
  refine wp_v h (fun _ _ _ hx => hx.elim) ?_
  rintro o g' r' (⟨rfl, rfl, rfl⟩ | ⟨rfl, hb, e1, e2⟩)
  · exact ⟨0, rfl, h0⟩
  · exact ⟨1, rfl, h1 _ _ hb e1 e2⟩
theorem Lk.pb {b : Int} {s : Sg} {P : List Nat} {p : Int} {g g' : a2_G} {r r' : a2_A} (h : pB b s P g r g' r') : Lk p g g' := ⟨h.1.2.1, h.1.2.2, fun e => (bad_ne e h.2.1).elim⟩
theorem uM_must (L : Nat) (xs : Nat → Int32) {m d : Nat} (hd : 4 ≤ d) (w : Int32) {b B : Int} {s : Sg} {P : List Nat} {g0 g : a2_G} {r0 r : a2_A} (h : Sv b B s P g0 r0 g r) (hB : b ≤ B) : wp (ev L xs (m + 1) d nM_must [.ref cM, .int w] g r) (kSv (b - 4) B s P g0 r0 g) kN := by
  rcases h.2 with ⟨hb, hl, hm⟩ | ⟨hb, hm⟩
  · refine wp_mono (tM_must L xs hd w hm hb) ?_ (fun _ _ _ hx => hx)
    rintro o g' r' (⟨rfl, e⟩ | ⟨rfl, e1, e2, e3, e4⟩)
    · exact ⟨0, rfl, Or.inl ⟨rfl, e.2.1⟩, h.pb e hB, Lk.pb e⟩
    · exact ⟨1, rfl, Or.inr ⟨rfl, e2⟩, (h.en hb e1 e2 e4), e1.2.1, e1.2.2, fun _ => ⟨hb, e3⟩⟩
  · refine wp_mono (tM_must_b L xs hd w hm hb) ?_ (fun _ _ _ hx => hx)
    rintro o g' r' ⟨rfl, e⟩
    exact ⟨0, rfl, Or.inl ⟨rfl, e.2.1⟩, h.pb e (Int.le_refl _), Lk.pb e⟩
theorem uM_mustBe (L : Nat) (xs : Nat → Int32) {m d : Nat} (hd : 3 ≤ d) (w : Int32) {b B : Int} {s : Sg} {P : List Nat} {g0 g : a2_G} {r0 r : a2_A} (h : Sv b B s P g0 r0 g r) (hB : b ≤ B) : wp (ev L xs (m + 1) d nM_mustBe [.ref cM, .int w] g r) (kSv (b - 4) B s P g0 r0 g) kN := by
  rcases h.2 with ⟨hb, hl, hm⟩ | ⟨hb, hm⟩
  · refine wp_mono (tM_mustBe L xs hd w hm hb) ?_ (fun _ _ _ hx => hx)
    rintro o g' r' (⟨rfl, e⟩ | ⟨rfl, e1, e2, e3, e4⟩)
    · exact ⟨0, rfl, Or.inl ⟨rfl, e.2.1⟩, h.pb e hB, Lk.pb e⟩
    · exact ⟨1, rfl, Or.inr ⟨rfl, e2⟩, (h.en hb e1 e2 e4), e1.2.1, e1.2.2, fun _ => ⟨hb, e3⟩⟩
  · refine wp_mono (tM_mustBe_b L xs hd w hm hb) ?_ (fun _ _ _ hx => hx)
    rintro o g' r' ⟨rfl, e⟩
    exact ⟨0, rfl, Or.inl ⟨rfl, e.2.1⟩, h.pb e (Int.le_refl _), Lk.pb e⟩
theorem uM_meets (L : Nat) (xs : Nat → Int32) {m d : Nat} (hd : 3 ≤ d) (w : Int32) {b B : Int} {s : Sg} {P : List Nat} {g0 g : a2_G} {r0 r : a2_A} (h : Sv b B s P g0 r0 g r) : wp (ev L xs (m + 1) d nM_meets [.ref cM, .int w] g r) (kSm b B s P g0 r0 g r) kN := by
  rcases h.2 with ⟨hb, hl, hm⟩ | ⟨hb, hm⟩
  · refine wp_mono (tM_meets L xs hd w hm hb) ?_ (fun _ _ _ hx => hx)
    rintro o g' r' (⟨rfl, rfl, rfl, -⟩ | ⟨rfl, e1, e2, e3, e4⟩)
    · exact Or.inl ⟨rfl, rfl, rfl⟩
    · exact Or.inr ⟨rfl, e2, h.en hb e1 e2 e4, e1.2.1, e1.2.2, fun _ => ⟨hb, e3⟩⟩
  · obtain ⟨d, rfl⟩ : ∃ e, d = e + 3 := ⟨d - 3, by omega⟩
    rw [M_meets L xs m d hm.a0 hm.W, show Mm g r w = false by simp [Mm, hb]]
    exact Or.inl ⟨rfl, rfl, rfl⟩
theorem uM_operandOf (L : Nat) (xs : Nat → Int32) {m d : Nat} (hd : 4 ≤ d) {a : Int32} {b B : Int} {s : Sg} {P : List Nat} {g0 g : a2_G} {r0 r : a2_A} (h : Sv b B s P g0 r0 g r) (ha : Mi g a) (hB : b ≤ B) (hB2 : b ≤ 1900) : wp (ev L xs (m + 1) d nM_operandOf [.ref cM, .int a] g r) (kSn 1 (b - 3) B s P g0 r0 g) kN := by
  rcases h.2 with ⟨hb, hl, hm⟩ | ⟨hb, hm⟩
  · refine wp_mono (tM_operandOf L xs hd hm hb ha hB2) ?_ (fun _ _ _ hx => hx)
    rintro o g' r' ⟨rfl, ⟨e1, e2, e3, e4⟩ | e⟩
    · exact ⟨rfl, h.en hb e1 e2 e4, e1.2.1, e1.2.2, fun _ => ⟨hb, e3⟩⟩
    · exact ⟨rfl, h.pb e hB, Lk.pb e⟩
  · refine wp_mono (tM_operandOf_b L xs hd a hm hb) ?_ (fun _ _ _ hx => hx)
    rintro o g' r' ⟨rfl, e⟩
    exact ⟨rfl, h.pb e (Int.le_refl _), Lk.pb e⟩
theorem uM_names (L : Nat) (xs : Nat → Int32) {m d : Nat} (hm : 4294967296 ≤ m) (hd : 4 ≤ d) {a : Int32} (a2 : Int32) {b B : Int} {s : Sg} {P : List Nat} {g0 g : a2_G} {r0 r : a2_A} (h : Sv b B s P g0 r0 g r) (ha : Mi g a) (hB : b ≤ B) (hB2 : b ≤ 1890) : wp (ev L xs (m + 1) d nM_names [.ref cM, .int a, .int a2] g r) (kSn 1 (b - 3) B s P g0 r0 g) kN := by
  rcases h.2 with ⟨hb, hl, hm'⟩ | ⟨hb, hm'⟩
  · refine wp_mono (tM_names L xs hm hd a2 hm' hb ha hB2) ?_ (fun _ _ _ hx => hx)
    rintro o g' r' ⟨rfl, ⟨e1, e2, e3, e4⟩ | e⟩
    · exact ⟨rfl, h.en hb e1 e2 e4, e1.2.1, e1.2.2, fun _ => ⟨hb, e3⟩⟩
    · exact ⟨rfl, h.pb e hB, Lk.pb e⟩
  · refine wp_mono (tM_names_b L xs hd a a2 hm' hb) ?_ (fun _ _ _ hx => hx)
    rintro o g' r' ⟨rfl, e⟩
    exact ⟨rfl, h.pb e (Int.le_refl _), Lk.pb e⟩
/-- a fault at this word -/
theorem uM_fail (L : Nat) (xs : Nat → Int32) {m d : Nat} (hd : 2 ≤ d) (n w : Int32) {b b' B : Int} {s : Sg} {P P' : List Nat} {g0 g : a2_G} {r0 r : a2_A} (h : Sv b B s P g0 r0 g r) (hB : b ≤ B) (hw : g fM_bad = 0 → s.1 ≤ w.toInt ∧ w.toInt ≤ (g fM_n).toInt ∧ (g fM_at).toInt ≤ w.toInt + 2) : wp (ev L xs (m + 1) d nM_fail [.ref cM, .int n, .int w] g r) (fun o g' r' => o = some (.int 0) ∧ g' fM_bad = 1 ∧ Sv b' B s P' g0 r0 g' r' ∧ Lk 0 g g') kN := by
  rcases h.2 with ⟨hb, hl, hm⟩ | ⟨hb, hm⟩
  · obtain ⟨w1, w2, w3⟩ := hw hb
    refine wp_mono (tM_fail L xs hd n w hm hb w1 w2 w3) ?_ (fun _ _ _ hx => hx)
    rintro o g' r' ⟨rfl, e⟩
    exact ⟨rfl, e.2.1, h.pb e hB, Lk.pb e⟩
  · refine wp_mono (tM_fail_b L xs hd n w hm hb) ?_ (fun _ _ _ hx => hx)
    rintro o g' r' ⟨rfl, e⟩
    exact ⟨rfl, e.2.1, h.pb e (Int.le_refl _), Lk.pb e⟩
theorem wp_vF {z : Option fn_Z} {b B : Int} {s : Sg} {P : List Nat} {g0 g : a2_G} {r0 : a2_A} {k : Int32 → a2_G → a2_A → Option fn_Z} {Q : Option Value → a2_G → a2_A → Prop} {X : Nat → a2_G → a2_A → Prop} (h : wp z (fun o g' r' => o = some (.int 0) ∧ g' fM_bad = 1 ∧ Sv b B s P g0 r0 g' r' ∧ Lk 0 g g') kN) (h1 : ∀ g' r', g' fM_bad = 1 → Sv b B s P g0 r0 g' r' → Lk 0 g g' → wp (k 0 g' r') Q X) : wp (fn_v z k) Q X := by
  refine wp_v h (fun _ _ _ hx => hx.elim) ?_
  rintro o g' r' ⟨rfl, hb, e1, e2⟩
  exact ⟨0, rfl, h1 _ _ hb e1 e2⟩
theorem Mst.here {b : Int} {s : Sg} {P : List Nat} {g : a2_G} {r : a2_A} (h : Mst b s P g r) (hb : g fM_bad = 0) : s.1 ≤ (g fM_at).toInt ∧ (g fM_at).toInt ≤ (g fM_n).toInt ∧ (g fM_at).toInt ≤ (g fM_at).toInt + 2 := ⟨h.q.2.2.2.2.2.1, h.an hb, by omega⟩
theorem uM_failH (L : Nat) (xs : Nat → Int32) {m d : Nat} (hd : 2 ≤ d) (n : Int32) {b b' B : Int} {s : Sg} {P P' : List Nat} {g0 g : a2_G} {r0 r : a2_A} (h : Sv b B s P g0 r0 g r) (hB : b ≤ B) : wp (ev L xs (m + 1) d nM_fail [.ref cM, .int n, .int (g fM_at)] g r) (fun o g' r' => o = some (.int 0) ∧ g' fM_bad = 1 ∧ Sv b' B s P' g0 r0 g' r' ∧ Lk 0 g g') kN := uM_fail L xs hd n _ h hB (fun hb => (h.gd hb).2.here hb)
theorem uM_child4 (L : Nat) (xs : Nat → Int32) {m d : Nat} (hd : 2 ≤ d) {a : Int32} (k v p : Int32) {b B : Int} {s : Sg} {P : List Nat} {g0 g : a2_G} {r0 r : a2_A} (h : Sv b B s P g0 r0 g r) (hb : g fM_bad = 0) (ha : Mi g a) (hB : b ≤ 1890) : wp (ev L xs (m + 1) d nM_child4 [.ref cM, .int a, .int k, .int v, .int p] g r) (fun o g' r' => o = none ∧ g' fM_bad = 0 ∧ g' fM_at = g fM_at ∧ Sv (b + 1) B s P g0 r0 g' r' ∧ Lk 0 g g') kN := by
  refine wp_mono (tM_child4 L xs hd k v p (h.gd hb).2 ha (by omega)) ?_ (fun _ _ _ hx => hx)
  rintro o g' r' ⟨rfl, e1, e2, e3, e4⟩
  exact ⟨rfl, e2.trans hb, e3, h.en hb e1 (e2.trans hb) e4, e1.2.1, e1.2.2, fun _ => ⟨hb, by rw [e3]; omega⟩⟩
theorem wp_nC {z : Option fn_Z} {b B : Int} {s : Sg} {P : List Nat} {g0 g : a2_G} {r0 : a2_A} {k : a2_G → a2_A → Option fn_Z} {Q : Option Value → a2_G → a2_A → Prop} {X : Nat → a2_G → a2_A → Prop} (h : wp z (fun o g' r' => o = none ∧ g' fM_bad = 0 ∧ g' fM_at = g fM_at ∧ Sv b B s P g0 r0 g' r' ∧ Lk 0 g g') kN) (h1 : ∀ g' r', g' fM_bad = 0 → g' fM_at = g fM_at → Sv b B s P g0 r0 g' r' → Lk 0 g g' → wp (k g' r') Q X) : wp (fn_n z k) Q X := by
  refine wp_n h (fun _ _ _ hx => hx.elim) ?_
  rintro o g' r' ⟨rfl, e0, e1, e2, e3⟩
  exact ⟨rfl, h1 _ _ e0 e1 e2 e3⟩
/-- a new node, hung up at once -/
theorem uM_mk (L : Nat) (xs : Nat → Int32) {m d : Nat} (hd : 1 ≤ d) {a : Int32} (k v p : Int32) {b B : Int} {s : Sg} {P : List Nat} {g0 g : a2_G} {r0 r : a2_A} {K : Int32 → a2_G → a2_A → Option fn_Z} {Q : Option Value → a2_G → a2_A → Prop} {X : Nat → a2_G → a2_A → Prop} (h : Sv b B s P g0 r0 g r) (hb : g fM_bad = 0) (ha : Mi g a) (hB : b ≤ 1890) (h1 : ∀ t g' r', Mi g' t → 0 < t.toInt → g' fM_bad = 0 → g' fM_at = g fM_at → Sv (b + 1) B s P g0 r0 g' r' → Lk 0 g g' → wp (K t g' r') Q X) : wp (fn_v (ev L xs (m + 1) d nM_make [.ref cM, .int k, .int v, .int p] g r) fun t g1 r1 => fn_n (ev L xs (m + 1) d nM_attach [.ref cM, .int a, .int t] g1 r1) fun g' r' => K t g' r') Q X := by
  have hm := (h.gd hb).2
  have q := hm.q
  have a1 := ha.1
  have a2 := ha.2
  refine wp_vK (tM_make L xs hd _ _ _ hm (by omega)) (fun v1 g1 r1 e1 n1 b1 t1 s1 k1 => ?_)
  subst e1
  refine wp_nH (tM_attach L xs hd k1 ⟨a1, by omega⟩ ⟨by omega, by omega⟩ (by omega)) (fun g2 r2 n2 b2 t2 h2 => ?_)
  have m2 := n2.2.1
  have en := n1.trans n2
  exact h1 _ _ _ ⟨by omega, by omega⟩ (by omega) ((b2.trans b1).trans hb) (t2.trans t1) (h.en hb en ((b2.trans b1).trans hb) (h2.le (by omega))) ⟨en.2.1, en.2.2, fun _ => ⟨hb, by rw [t2, t1]; omega⟩⟩
theorem uM_passed (L : Nat) (xs : Nat → Int32) {m d : Nat} (hd : 1 ≤ d) {b B : Int} {s : Sg} {P : List Nat} {g0 g : a2_G} {r0 r : a2_A} (h : Sv b B s P g0 r0 g r) (hb : g fM_bad = 0) (h0 : 0 < (g fM_at).toInt) : wp (ev L xs (m + 1) d nM_passed [.ref cM] g r) (kP g r (fun _ => True)) kN := tM_passed L xs hd (h.gd hb).2 h0 hb
theorem uM_conditionOf (L : Nat) (xs : Nat → Int32) {m d : Nat} (hm : 4294967296 ≤ m) (hd : 8 ≤ d) {a : Int32} {b B : Int} {s : Sg} {P : List Nat} {g0 g : a2_G} {r0 r : a2_A} (h : Sv b B s P g0 r0 g r) (ha : Mi g a) (hB : b + 4 ≤ B) (hB2 : b ≤ 1880) (hv0 : 0 ≤ (g0 fM_level).toInt) (hv : (g0 fM_level).toInt ≤ 40) : wp (ev L xs (m + 1) d nM_conditionOf [.ref cM, .int a] g r) (kSn 1 b B s P g0 r0 g) kN := by
  rcases h.2 with ⟨hb, hl, hm'⟩ | ⟨hb, hm'⟩
  · refine wp_mono (tM_conditionOf L xs hm hd hm' hb ha hB2 (by rw [hl]; exact hv0) (by rw [hl]; exact hv)) ?_ (fun _ _ _ hx => hx)
    rintro o g' r' ⟨rfl, ⟨e1, e2, e3, e4, e5⟩ | e⟩
    · exact ⟨rfl, h.go hb e1 e3 e2 (e5.le (by omega)), e1.2.1, e1.2.2, fun _ => ⟨hb, e4⟩⟩
    · exact ⟨rfl, ⟨h.1.trans e.1, Or.inr ⟨e.2.1, e.2.2.le hB⟩⟩, e.1.2.1, e.1.2.2, fun e0 => (bad_ne e0 e.2.1).elim⟩
  · obtain ⟨d, rfl⟩ : ∃ e, d = e + 1 := ⟨d - 1, by omega⟩
    rw [qM_conditionOf]
    refine wp_f (by rw [c2_eq, hb]; decide) ?_
    exact ⟨rfl, h.bd hb, Int.le_refl _, Int.le_refl _, fun e0 => (bad_ne e0 hb).elim⟩
theorem wp_bad {g : a2_G} {a b : Option fn_Z} {Q : Option Value → a2_G → a2_A → Prop} {X : Nat → a2_G → a2_A → Prop} (h01 : g fM_bad = 0 ∨ g fM_bad = 1) (h1 : g fM_bad = 1 → wp a Q X) (h2 : g fM_bad = 0 → wp b Q X) : wp (if am_c2 .ne (g fM_bad) 0 = true then a else b) Q X := by
  rcases h01 with h | h
  · exact wp_f (by rw [c2_ne, Decidable.not_not]; exact h) (h2 h)
  · exact wp_t (by rw [h]; decide) (h1 h)
