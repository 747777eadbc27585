/-! The model's pile: list, scope, asked, branch, whens, goOn. -/
def WZ : List Nat := [fM_at, fM_failed, fM_bad, fM_faults, fM_nodes, fM_contexts, fM_level, fM_marks, fM_joints, fM_subject, fM_compared, fM_piled]
def WZa : List Nat := [fM_faultNumber, fM_faultWord, fM_kind, fM_value, fM_place, fM_extra, fM_first, fM_last, fM_next, fM_above, fM_sums, fM_sumSign, fM_products, fM_productSign, fM_mark, fM_andFirst, fM_andLast, fM_andMany, fM_orFirst, fM_orLast, fM_orMany, fM_pileKind, fM_pileNode, fM_pilePhase]
def Ez (g : a2_G) (r : a2_A) (g' : a2_G) (r' : a2_A) : Prop := Fm WZ WZa g r g' r' ∧ (g fM_nodes).toInt ≤ (g' fM_nodes).toInt ∧ (g fM_at).toInt ≤ (g' fM_at).toInt
theorem Ez.rf {g : a2_G} {r : a2_A} : Ez g r g r := ⟨Fm.rf, Int.le_refl _, Int.le_refl _⟩
theorem Ez.trans {g1 g2 g3 : a2_G} {r1 r2 r3 : a2_A} (a : Ez g1 r1 g2 r2) (b : Ez g2 r2 g3 r3) : Ez g1 r1 g3 r3 := ⟨a.1.trans b.1, Int.le_trans a.2.1 b.2.1, Int.le_trans a.2.2 b.2.2⟩
theorem Ex.z {g g' : a2_G} {r r' : a2_A} (h : Ex g r g' r') : Ez g r g' r' := ⟨h.1.sub (by decide) (by decide), h.2⟩
/-- behind goOn: a statement is done, a list is piled, or words are passed; or bad -/
def kGO (b B : Int) (s : Sg) (P : List Nat) (g : a2_G) (r : a2_A) (p : Nat) : Option Value → a2_G → a2_A → Prop := fun o g' r' => o = none ∧ Ez g r g' r' ∧ (g' fM_bad = 1 ∧ Mst B s [] g' r' ∨ g' fM_bad = 0 ∧ ((g' fM_piled).toInt = (p : Int) - 1 ∧ g' fM_level = g fM_level ∧ r' fM_pileKind = r fM_pileKind ∧ r' fM_pileNode = r fM_pileNode ∧ Mst b s P g' r' ∨ (g' fM_piled).toInt = (p : Int) + 1 ∧ (g' fM_level).toInt = (g fM_level).toInt + 1 ∧ (g' fM_level).toInt ≤ 40 ∧ (∃ t, Mi g' t ∧ (r' fM_pileKind).2 = upd (r fM_pileKind).2 p 0 ∧ (r' fM_pileNode).2 = upd (r fM_pileNode).2 p t ∧ (r' fM_pilePhase).2 p = 0) ∧ Mst (b + 1) s P g' r' ∨ g' fM_piled = g fM_piled ∧ g' fM_level = g fM_level ∧ r' fM_pileKind = r fM_pileKind ∧ r' fM_pileNode = r fM_pileNode ∧ (g fM_at).toInt + 1 ≤ (g' fM_at).toInt ∧ Mst b s P g' r'))
theorem Sv.gb {b B b1 : Int} {s : Sg} {P P1 : List Nat} {g0 g : a2_G} {r0 r : a2_A} {p : Nat} (h : Sv b B s P g0 r0 g r) (hb : g fM_bad = 1) : kGO b1 B s P1 g0 r0 p none g r := ⟨rfl, h.1.z, Or.inl ⟨hb, h.2.elim (fun e => (bad_ne e.1 hb).elim) (fun e => e.2)⟩⟩
theorem wp_nG' {z : Option fn_Z} {b B : Int} {s : Sg} {P : List Nat} {g0 : a2_G} {r0 : a2_A} {p : Nat} {X : Nat → a2_G → a2_A → Prop} (h : wp z (kGO b B s P g0 r0 p) kN) : wp (fn_n z fun g r => some (.inl none, g, r)) (kGO b B s P g0 r0 p) X := by
  refine wp_n h (fun _ _ _ hx => hx.elim) ?_
  rintro o g' r' ⟨rfl, e⟩
  exact ⟨rfl, rfl, e⟩
theorem uM_list (L : Nat) (xs : Nat → Int32) {m d : Nat} (hd : 3 ≤ d) {a : Int32} {b B : Int} {s : Sg} {P : List Nat} {g0 g : a2_G} {r0 r : a2_A} {p : Nat} (h : Sv b B s P g0 r0 g r) (ha : Mi g a) (hB : b + 8 ≤ B) (hB2 : b ≤ 1870) (hv0 : -1 ≤ (g0 fM_level).toInt) (hv : (g0 fM_level).toInt ≤ 40) (hp : (g0 fM_piled).toInt = p) (h6 : p < 120) : wp (ev L xs (m + 1) d nM_list [.ref cM, .int a] g r) (kGO b B s P g0 r0 p) kN := by
  obtain ⟨d, rfl⟩ : ∃ e, d = e + 1 := ⟨d - 1, by omega⟩
  have a1 := ha.1
  have a2 := ha.2
  rw [qM_list]
  rcases h.b01 with hb | hb
  · refine wp_t (by rw [c2_eq]; exact hb) ?_
    obtain ⟨hlv, m0⟩ := h.gd hb
    have q := m0.q
    refine wp_vB (tM_begins L xs (by omega) m0 m0.a0) ?_ (fun f => ?_)
    · refine wp_f (by decide) ?_
      refine wp_vF (uM_failH L xs (by omega) _ (b' := b) (P' := P) h (by omega)) (fun g3 r3 b3 h3 l3 => ?_)
      exact h3.gb b3
    · refine wp_t (by decide) ?_
      have k40 : (40 : Int32).toInt = 40 := rfl
      refine wp_if (fun h4 => ?_) (fun h4 => ?_)
      · rw [c2_ne] at h4
        have h4' : (g fM_level).toInt ≠ 40 := fun e => h4 (Int32.toInt_inj.mp e)
        have hl0 := congrArg Int32.toInt hlv
        have e1 : (g fM_level + 1).toInt = (g fM_level).toInt + 1 := i32_inc (by omega)
        have m1 := m0.upx fM_level (g fM_level + 1) (by decide) (fun hk => absurd hk (by decide))
        refine wp_vK (tM_make L xs (by omega) _ _ _ m1 (by omega)) (fun v1 g1 r1 e1 n1 b1 t1 s1 k1 => ?_)
        subst e1
        have s1' : (g1 fM_nodes).toInt = (g fM_nodes).toInt + 1 := s1
        refine wp_nH (tM_attach L xs (by omega) k1 ⟨a1, by omega⟩ ⟨by show 0 ≤ (g fM_nodes).toInt; omega, by show (g fM_nodes).toInt < _; omega⟩ (by omega)) (fun g2 r2 n2 b2 t2 k2 => ?_)
        have n3 := n1.trans n2
        have pe : g2 fM_piled = g0 fM_piled := (n3.1.1 fM_piled (by decide)).trans (h.1.1.1 fM_piled (by decide))
        have pk : r2 fM_pileKind = r0 fM_pileKind := (n3.1.2 fM_pileKind (by decide)).trans (h.1.1.2 fM_pileKind (by decide))
        have pn : r2 fM_pileNode = r0 fM_pileNode := (n3.1.2 fM_pileNode (by decide)).trans (h.1.1.2 fM_pileNode (by decide))
        have lv : g2 fM_level = g fM_level + 1 := n3.1.1 fM_level (by decide)
        have nn2 := n2.2.1
        have i8 : In8 (g fM_nodes) := ⟨by omega, by omega⟩
        refine wp_n (tM_pile L xs (by omega) _ _ k2.1.1 (p := p) (by rw [pe]; exact hp) (by omega)) (fun _ _ _ hx => hx.elim) ?_
        rintro o g4 r4 ⟨rfl, rfl, rfl⟩
        refine ⟨rfl, rfl, ?_, Or.inr ⟨(b2.trans b1).trans hb, Or.inr (Or.inl ⟨?_, ?_, ?_, ⟨(g fM_nodes), ⟨?_, ?_⟩, ?_, ?_, ?_⟩, ?_⟩)⟩⟩
        · have x3 : Ex g r g2 r2 := Ex.trans (g2 := upd g fM_level (g fM_level + 1)) (r2 := r) ⟨Fm.rf.up (by decide), Int.le_refl _, Int.le_refl _⟩ n3.x
          exact (h.1.trans x3).z.trans ⟨(((Fm.rf.up (by decide)).aw (by decide)).aw (by decide)).aw (by decide), Int.le_refl _, Int.le_refl _⟩
        · show (g2 fM_piled + 1).toInt = _
          rw [pe, i32_inc (by omega), hp]
        · show (g2 fM_level).toInt = _
          rw [lv, e1]
          omega
        · show (g2 fM_level).toInt ≤ 40
          rw [lv, e1]
          omega
        · show 0 ≤ (g fM_nodes).toInt
          omega
        · show (g fM_nodes).toInt < (g2 fM_nodes).toInt
          omega
        · show (aw (aw (aw r2 fM_pileKind p 0) fM_pileNode p (g fM_nodes)) fM_pilePhase p 0 fM_pileKind).2 = _
          rw [aw_ne (by decide), aw_ne (by decide), aw_eq, pk]
        · show (aw (aw (aw r2 fM_pileKind p 0) fM_pileNode p (g fM_nodes)) fM_pilePhase p 0 fM_pileNode).2 = _
          rw [aw_ne (by decide), aw_eq, aw_ne (by decide), pn]
        · exact aw_at
        · exact ((((k2.upx fM_piled _ (by decide) (fun hk => absurd hk (by decide))).awx fM_pileKind p 0 (by decide) (fun hk => absurd hk (by decide))).awx fM_pileNode p (g fM_nodes) (by decide) (fun _ => i8)).awx fM_pilePhase p 0 (by decide) (fun hk => absurd hk (by decide))).le (by omega)
      · refine wp_vF (uM_failH L xs (by omega) _ (b' := b) (P' := P) h (by omega)) (fun g3 r3 b3 h3 l3 => ?_)
        exact h3.gb b3
  · refine wp_f (by rw [c2_eq, hb]; decide) ?_
    exact h.gb hb
theorem uM_scope (L : Nat) (xs : Nat → Int32) {m d : Nat} (hd : 5 ≤ d) {a : Int32} (w due : Int32) {b B : Int} {s : Sg} {P : List Nat} {g0 g : a2_G} {r0 r : a2_A} {p : Nat} (h : Sv b B s P g0 r0 g r) (ha : Mi g a) (hB : b + 8 ≤ B) (hB1 : B ≤ 1900) (hB2 : b ≤ 1870) (hp : (g0 fM_piled).toInt = p) (h6 : p < 120) (hp1 : 1 ≤ p) : wp (ev L xs (m + 1) d nM_scope [.ref cM, .int a, .int w, .int due] g r) (kGO b B s P g0 r0 p) kN := by
  obtain ⟨d, rfl⟩ : ∃ e, d = e + 1 := ⟨d - 1, by omega⟩
  have a1 := ha.1
  have a2 := ha.2
  have f17 : ∀ x4 g1 r1, Sv b B s P g0 r0 g1 r1 → (g fM_nodes).toInt ≤ (g1 fM_nodes).toInt → wp (BM_scope_17 L xs (m + 1) d m a w due x4 g1 r1) (kGO b B s P g0 r0 p) kN := by
    intro x4 g1 r1 h1 n1
    have n8 := h1.n8 hB1 (by omega)
    have f34 : ∀ x5, x5 = 0 ∨ x5 = 1 → wp (BM_scope_34 L xs (m + 1) d m a w due x4 x5 a g1 r1) (kGO b B s P g0 r0 p) kN := by
      intro x5 hx5
      unfold BM_scope_34
      refine wp_in (h1.ln.at 7) a1 (by omega) ?_
      have i8 : In8 x5 := by
        rcases hx5 with rfl | rfl
        · exact in8_0
        · exact ⟨by decide, by decide⟩
      have pe : g1 fM_piled = g0 fM_piled := h1.1.1.1 fM_piled (by decide)
      have ez : Ez g0 r0 (upd g1 fM_piled (g1 fM_piled - 1)) (aw r1 fM_extra a.toNatClampNeg x5) := h1.1.z.trans ⟨(Fm.rf.up (by decide)).aw (by decide), Int.le_refl _, Int.le_refl _⟩
      rcases h1.2 with ⟨b1, l1, m1⟩ | ⟨b1, m1⟩
      · refine ⟨rfl, ez, Or.inr ⟨b1, Or.inl ⟨?_, l1, h1.1.1.2 fM_pileKind (by decide), h1.1.1.2 fM_pileNode (by decide), ?_⟩⟩⟩
        · show (g1 fM_piled - 1).toInt = _
          rw [pe, i32_dec (by omega), hp]
        · exact (m1.upx fM_piled _ (by decide) (fun hk => absurd hk (by decide))).awx fM_extra _ _ (by decide) (fun _ => i8)
      · exact ⟨rfl, ez, Or.inl ⟨b1, (m1.upx fM_piled _ (by decide) (fun hk => absurd hk (by decide))).awx fM_extra _ _ (by decide) (fun _ => i8)⟩⟩
    unfold BM_scope_17
    exact wp_if (fun _ => f34 _ (Or.inl rfl)) (fun _ => f34 _ (Or.inr rfl))
  rw [qM_scope]
  refine wp_if (fun _ => ?_) (fun _ => ?_)
  · refine wp_vSm (uM_meets L xs (by omega) _ h) (f17 _ _ _ h (Int.le_refl _)) (fun g2 r2 b2 h2 l2 => f17 _ _ _ (h2.le (by omega)) l2.1)
  · refine wp_vSv (uM_must L xs (by omega) _ h (by omega)) (fun g2 r2 b2 h2 l2 => f17 _ _ _ (h2.le (by omega)) l2.1) (fun g2 r2 b2 h2 l2 => f17 _ _ _ (h2.le (by omega)) l2.1)
theorem uM_asked (L : Nat) (xs : Nat → Int32) {m d : Nat} (hd : 6 ≤ d) {a : Int32} (a2 a3 a4 a5 : Int32) {b B : Int} {s : Sg} {P : List Nat} {g0 g : a2_G} {r0 r : a2_A} {p : Nat} (h : Sv b B s P g0 r0 g r) (ha : Mi g a) (hB : b + 8 ≤ B) (hB1 : B ≤ 1900) (hB2 : b ≤ 1870) (hv0 : -1 ≤ (g0 fM_level).toInt) (hv : (g0 fM_level).toInt ≤ 40) (hp : (g0 fM_piled).toInt = p) (h6 : p < 120) (hp1 : 1 ≤ p) : wp (ev L xs (m + 1) d nM_asked [.ref cM, .int a, .int a2, .int a3, .int a4, .int a5] g r) (kGO b B s P g0 r0 p) kN := by
  obtain ⟨d, rfl⟩ : ∃ e, d = e + 1 := ⟨d - 1, by omega⟩
  have f12 : wp (BM_asked_12 L xs (m + 1) d m a a2 a3 a4 a5 g r) (kGO b B s P g0 r0 p) kN := wp_nG' (uM_scope L xs (by omega) _ _ h ha hB hB1 hB2 hp h6 hp1)
  have f36 : ∀ g1 r1, Sv b B s P g0 r0 g1 r1 → Mi g1 a → wp (BM_asked_36 L xs (m + 1) d m a a2 a3 a4 a5 g1 r1) (kGO b B s P g0 r0 p) kN := by
    intro g1 r1 h1 i1
    unfold BM_asked_36 BM_asked_41
    refine wp_f (by decide) ?_
    exact wp_nG' (uM_list L xs (by omega) h1 i1 hB hB2 hv0 hv hp h6)
  rw [qM_asked]
  refine wp_if (fun _ => f12) (fun _ => ?_)
  refine wp_vSm (uM_meets L xs (by omega) _ h) ?_ (fun g2 r2 b2 h2 l2 => ?_)
  · exact wp_f (by decide) f12
  · refine wp_t (by decide) ?_
    refine wp_if (fun _ => f36 _ _ (h2.le (by omega)) (l2.mi ha)) (fun _ => ?_)
    refine wp_vSv (uM_must L xs (by omega) _ h2 (by omega)) (fun g3 r3 b3 h3 l3 => ?_) (fun g3 r3 b3 h3 l3 => ?_)
    · refine wp_t (by decide) ?_
      unfold BM_asked_41
      refine wp_t (by decide) ?_
      exact h3.gb b3
    · exact wp_f (by decide) (f36 _ _ (h3.le (by omega)) (l3.mi (l2.mi ha)))
theorem uM_branch (L : Nat) (xs : Nat → Int32) {m d : Nat} (hd : 6 ≤ d) {a : Int32} (a1 a3 : Int32) {b B : Int} {s : Sg} {P : List Nat} {g0 g : a2_G} {r0 r : a2_A} {p : Nat} (h : Sv b B s P g0 r0 g r) (hb : g fM_bad = 0) (ha : Mi g a) (hB : b + 8 ≤ B) (hB1 : B ≤ 1900) (hB2 : b ≤ 1870) (hv0 : -1 ≤ (g0 fM_level).toInt) (hv : (g0 fM_level).toInt ≤ 40) (hp : (g0 fM_piled).toInt = p) (h6 : p < 120) (hp1 : 1 ≤ p) : wp (ev L xs (m + 1) d nM_branch [.ref cM, .int a1, .int a, .int a3] g r) (kGO b B s P g0 r0 p) kN := by
  obtain ⟨d, rfl⟩ : ∃ e, d = e + 1 := ⟨d - 1, by omega⟩
  have f19 : wp (BM_branch_19 L xs (m + 1) d m a1 a a3 g r) (kGO b B s P g0 r0 p) kN := wp_nG' (uM_scope L xs (by omega) _ _ h ha hB hB1 hB2 hp h6 hp1)
  have f28 : ∀ g1 r1, Sv b B s P g0 r0 g1 r1 → g1 fM_bad = 0 → Mi g1 a → wp (BM_branch_28 L xs (m + 1) d m a1 a a3 g1 r1) (kGO b B s P g0 r0 p) kN := by
    intro g1 r1 h1 b1 i1
    have m1 := (h1.gd b1).2
    unfold BM_branch_28 BM_branch_82
    refine wp_vB (tM_isWord L xs (by omega) _ m1 m1.a0) ?_ (fun f => ?_)
    · refine wp_f (by decide) ?_
      exact wp_nG' (uM_list L xs (by omega) h1 i1 hB hB2 hv0 hv hp h6)
    · refine wp_t (by decide) ?_
      obtain ⟨h2, l2, e2⟩ := h1.ps b1 (Mw_lt f)
      refine wp_vSv (uM_must L xs (by omega) _ h2 (by omega)) (fun g3 r3 b3 h3 l3 => ?_) (fun g3 r3 b3 h3 l3 => ?_)
      · exact wp_t (by decide) (h3.gb b3)
      · refine wp_f (by decide) ?_
        refine wp_nC (uM_child4 L xs (by omega) _ _ _ h3 b3 (l3.mi (l2.mi i1)) (by omega)) (fun g4 r4 b4 e4 h4 l4 => ?_)
        obtain ⟨lv4, m4⟩ := h4.gd b4
        have w0 := h1.1.2.2
        have w2 : (g1 fM_at).toInt ≤ (upd g1 fM_at (g1 fM_at + 1) fM_at).toInt := l2.2.1
        have w3 := (l3.2.2 b3).2
        have w4 := l4.2.1
        exact ⟨rfl, h4.1.z, Or.inr ⟨b4, Or.inr (Or.inr ⟨h4.1.1.1 fM_piled (by decide), lv4, h4.1.1.2 fM_pileKind (by decide), h4.1.1.2 fM_pileNode (by decide), by omega, m4.le (by omega)⟩)⟩⟩
  rw [qM_branch]
  refine wp_if (fun _ => f19) (fun _ => ?_)
  refine wp_if (fun _ => f28 _ _ h hb ha) (fun _ => ?_)
  refine wp_vSm (uM_meets L xs (by omega) _ h) ?_ (fun g2 r2 b2 h2 l2 => ?_)
  · exact wp_f (by decide) f19
  · exact wp_t (by decide) (f28 _ _ (h2.le (by omega)) b2 (l2.mi ha))
theorem Mw_en {g g' : a2_G} {r r' : a2_A} {w : Int32} (h : En g r g' r') (ht : g' fM_at = g fM_at) : Mw g' r' (g' fM_at) w = Mw g r (g fM_at) w := by
  unfold Mw Mk
  rw [ht, h.1.1 fM_n (by decide), h.1.2 fM_kinds (by decide), h.1.2 fM_values (by decide)]
theorem uM_whens (L : Nat) (xs : Nat → Int32) {m d : Nat} (hm : 4294967296 ≤ m) (hd : 6 ≤ d) {a : Int32} (a1 a3 : Int32) {b B : Int} {s : Sg} {P : List Nat} {g0 g : a2_G} {r0 r : a2_A} {p : Nat} (h : Sv b B s P g0 r0 g r) (hb : g fM_bad = 0) (ha : Mi g a) (hB : b + 8 ≤ B) (hB1 : B ≤ 1900) (hB2 : b ≤ 1870) (hv0 : -1 ≤ (g0 fM_level).toInt) (hv : (g0 fM_level).toInt ≤ 40) (hp : (g0 fM_piled).toInt = p) (h6 : p < 120) (hp1 : 1 ≤ p) : wp (ev L xs (m + 1) d nM_whens [.ref cM, .int a1, .int a, .int a3] g r) (kGO b B s P g0 r0 p) kN := by
  obtain ⟨d, rfl⟩ : ∃ e, d = e + 1 := ⟨d - 1, by omega⟩
  have a1' := ha.1
  have a2' := ha.2
  have m0 := (h.gd hb).2
  have q0 := m0.q
  have body : ∀ (n k : Nat) (t : Int32) (g1 : a2_G) (r1 : a2_A), (g1 fM_n).toInt < (g1 fM_at).toInt + n → n < k → Sv b B s P g0 r0 g1 r1 → Mi g1 t → wp (BM_whens_42 L xs (m + 1) d k a1 a a3 t g1 r1) (kGO b B s P g0 r0 p) kN := by
    intro n
    induction n with
    | zero =>
      intro k t g1 r1 hn hk h1 i1
      unfold BM_whens_42
      refine wp_vSm (uM_meets L xs (by omega) _ h1) ?_ (fun g2 r2 b2 h2 l2 => ?_)
      · refine wp_t (by decide) ?_
        exact wp_nG' (uM_list L xs (by omega) h1 i1 hB hB2 hv0 hv hp h6)
      · have := h1.q (l2.2.2 b2).1
        omega
    | succ n ih =>
      intro k t g1 r1 hn hk h1 i1
      unfold BM_whens_42
      refine wp_vSm (uM_meets L xs (by omega) _ h1) ?_ (fun g2 r2 b2 h2 l2 => ?_)
      · refine wp_t (by decide) ?_
        exact wp_nG' (uM_list L xs (by omega) h1 i1 hB hB2 hv0 hv hp h6)
      · refine wp_f (by decide) ?_
        have m2 := (h2.gd b2).2
        have w2 := (l2.2.2 b2).2
        have en2 := (h2.1.1.1 fM_n (by decide)).trans (h1.1.1.1 fM_n (by decide)).symm
        obtain ⟨k, rfl⟩ : ∃ e, k = e + 1 := ⟨k - 1, by omega⟩
        refine wp_vB (tM_isWord L xs (by omega) _ m2 m2.a0) ?_ (fun f => ?_)
        · refine wp_t (by decide) ?_
          refine wp_nS (uM_operandOf L xs (by omega) h2 (l2.mi i1) (by omega) (by omega)) (fun g3 r3 h3 l3 => ?_)
          rw [lM_whens_42]
          have en3 := (h3.1.1.1 fM_n (by decide)).trans (h1.1.1.1 fM_n (by decide)).symm
          have w3 := l3.2.1
          exact ih k t g3 r3 (by rw [en3]; omega) (by omega) (h3.le (by omega)) (l3.mi (l2.mi i1))
        · refine wp_f (by decide) ?_
          refine wp_nC (uM_child4 L xs (by omega) _ _ _ h2 b2 (l2.mi i1) (by omega)) (fun g3 r3 b3 e3 h3 l3 => ?_)
          rw [lM_whens_42]
          have en3 := (h3.1.1.1 fM_n (by decide)).trans (h2.1.1.1 fM_n (by decide)).symm
          obtain ⟨h4, l4, e4⟩ := h3.ps b3 (by rw [e3, en3]; exact Mw_lt f)
          have e5 : (upd g3 fM_at (g3 fM_at + 1) fM_at).toInt = (g3 fM_at).toInt + 1 := e4
          have e6 : upd g3 fM_at (g3 fM_at + 1) fM_n = g1 fM_n := en3.trans en2
          exact ih k t _ r3 (by rw [e5, e6, e3]; omega) (by omega) (h4.le (by omega)) (l4.mi (l3.mi (l2.mi i1)))
  rw [qM_whens]
  refine wp_vB (tM_isWord L xs (by omega) _ m0 m0.a0) ?_ (fun f => ?_)
  · refine wp_f (by decide) ?_
    exact wp_nG' (uM_scope L xs (by omega) _ _ h ha hB hB1 hB2 hp h6 hp1)
  · refine wp_t (by decide) ?_
    refine wp_vK (tM_make L xs (by omega) _ _ _ m0 (by omega)) (fun v1 g1 r1 e1 n1 b1 t1 s1 k1 => ?_)
    subst e1
    refine wp_nH (tM_attach L xs (by omega) k1 ⟨a1', by omega⟩ ⟨by omega, by omega⟩ (by omega)) (fun g2 r2 n2 b2 t2 k2 => ?_)
    have n3 := n1.trans n2
    have nn2 := n2.2.1
    have it : Mi g2 (g fM_nodes) := ⟨by omega, by omega⟩
    have hb2 : g2 fM_bad = 0 := (b2.trans b1).trans hb
    have mw : Mw g2 r2 (g2 fM_at) 59 = true := (Mw_en n3 (t2.trans t1)).trans f
    have h2 : Sv (b + 1) B s P g0 r0 g2 r2 := h.en hb n3 hb2 (k2.le (by omega))
    unfold BM_whens_42
    refine wp_vM (tM_meets L xs (by omega) _ k2 hb2) (fun e => absurd (mw.symm.trans e) (by decide)) (fun g3 r3 h3 => ?_)
    obtain ⟨c1, c2, c3, c4⟩ := h3
    have h3 : Sv (b - 3) B s P g0 r0 g3 r3 := h2.en hb2 c1 c2 (c4.le (by omega))
    have i3 : Mi g3 (g fM_nodes) := ⟨by omega, by have := c1.2.1; omega⟩
    have m3 := (h3.gd c2).2
    have q3 := m3.q
    refine wp_f (by decide) ?_
    obtain ⟨m, rfl⟩ : ∃ e, m = e + 1 := ⟨m - 1, by omega⟩
    refine wp_vB (tM_isWord L xs (by omega) _ m3 m3.a0) ?_ (fun f => ?_)
    · refine wp_t (by decide) ?_
      refine wp_nS (uM_operandOf L xs (by omega) h3 i3 (by omega) (by omega)) (fun g4 r4 h4 l4 => ?_)
      rw [lM_whens_42]
      have en4 := (h4.1.1.1 fM_n (by decide)).trans (h3.1.1.1 fM_n (by decide)).symm
      have w4 := l4.2.1
      exact body 1501 m _ g4 r4 (by rw [en4]; omega) (by omega) (h4.le (by omega)) (l4.mi i3)
    · refine wp_f (by decide) ?_
      refine wp_nC (uM_child4 L xs (by omega) _ _ _ h3 c2 i3 (by omega)) (fun g4 r4 b4 e4 h4 l4 => ?_)
      rw [lM_whens_42]
      have en4 := (h4.1.1.1 fM_n (by decide)).trans (h3.1.1.1 fM_n (by decide)).symm
      obtain ⟨h5, l5, e5⟩ := h4.ps b4 (by rw [e4, en4]; exact Mw_lt f)
      have e6 : (upd g4 fM_at (g4 fM_at + 1) fM_at).toInt = (g4 fM_at).toInt + 1 := e5
      have e7 : upd g4 fM_at (g4 fM_at + 1) fM_n = g3 fM_n := en4
      exact body 1501 m _ _ r4 (by rw [e6, e7, e4]; omega) (by omega) (h5.le (by omega)) (l5.mi (l4.mi i3))
theorem uM_goOn (L : Nat) (xs : Nat → Int32) {m d : Nat} (hm : 4294967296 ≤ m) (hd : 7 ≤ d) {a t : Int32} {b B : Int} {s : Sg} {P : List Nat} {g : a2_G} {r : a2_A} {p : Nat} (h : Mst b s P g r) (hb : g fM_bad = 0) (ht : Mi g t) (hB : b + 8 ≤ B) (hB1 : B ≤ 1900) (hB2 : b ≤ 1870) (hv0 : -1 ≤ (g fM_level).toInt) (hv : (g fM_level).toInt ≤ 40) (hp : (g fM_piled).toInt = p) (h6 : p < 120) (hp1 : 1 ≤ p) (ha : a.toInt = (p : Int) - 1) : wp (ev L xs (m + 1) d nM_goOn [.ref cM, .int a, .int t] g r) (kGO b B s P g r p) kN := by
  obtain ⟨d, rfl⟩ : ∃ e, d = e + 1 := ⟨d - 1, by omega⟩
  rw [qM_goOn]
  refine wp_in (h.1.1.at 27) (by omega) (by omega) ?_
  refine wp_in (h.1.1.at 27) (by omega) (by omega) ?_
  refine wp_in (h.1.1.at 25) (by omega) (by omega) ?_
  generalize ((r fM_pilePhase).2 a.toNatClampNeg) = ph
  have m1 := h.awx fM_pilePhase a.toNatClampNeg (ph + 1) (by decide) (fun hk => absurd hk (by decide))
  have h1 : Sv b B s P g (aw r fM_pilePhase a.toNatClampNeg (ph + 1)) g (aw r fM_pilePhase a.toNatClampNeg (ph + 1)) := Sv.rf hb m1
  have tr : ∀ (o : Option Value) g' r', kGO b B s P g (aw r fM_pilePhase a.toNatClampNeg (ph + 1)) p o g' r' → kGO b B s P g r p o g' r' := fun o g' r' e => ⟨e.1, Ez.trans ⟨Fm.rf.aw (by decide), Int.le_refl _, Int.le_refl _⟩ e.2.1, e.2.2⟩
  have f137 : wp (BM_goOn_137 L xs (m + 1) d m a t ph g (aw r fM_pilePhase a.toNatClampNeg (ph + 1))) (kGO b B s P g r p) kN := wp_mono (wp_nG' (uM_whens L xs hm (by omega) _ _ h1 hb ht hB hB1 hB2 hv0 hv hp h6 hp1)) tr (fun _ _ _ hx => hx)
  refine wp_if (fun _ => wp_mono (wp_nG' (uM_asked L xs (by omega) _ _ _ _ h1 ht hB hB1 hB2 hv0 hv hp h6 hp1)) tr (fun _ _ _ hx => hx)) (fun _ => ?_)
  refine wp_if (fun _ => wp_mono (wp_nG' (uM_branch L xs (by omega) _ _ h1 hb ht hB hB1 hB2 hv0 hv hp h6 hp1)) tr (fun _ _ _ hx => hx)) (fun _ => ?_)
  refine wp_if (fun _ => ?_) (fun _ => ?_)
  · refine wp_if (fun _ => ?_) (fun _ => ?_)
    · exact wp_mono (wp_nG' (uM_scope L xs (by omega) _ _ h1 ht hB hB1 hB2 hp h6 hp1)) tr (fun _ _ _ hx => hx)
    · exact wp_mono (wp_nG' (uM_list L xs (by omega) h1 ht hB hB2 hv0 hv hp h6)) tr (fun _ _ _ hx => hx)
  refine wp_if (fun _ => f137) (fun _ => ?_)
  refine wp_if (fun _ => wp_mono (wp_nG' (uM_asked L xs (by omega) _ _ _ _ h1 ht hB hB1 hB2 hv0 hv hp h6 hp1)) tr (fun _ _ _ hx => hx)) (fun _ => ?_)
  refine wp_if (fun _ => wp_mono (wp_nG' (uM_asked L xs (by omega) _ _ _ _ h1 ht hB hB1 hB2 hv0 hv hp h6 hp1)) tr (fun _ _ _ hx => hx)) (fun _ => f137)
