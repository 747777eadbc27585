/-! What the abstract machine keeps: references within, cells that only grow. -/
def am_Ok (L : am_L) (S : List Value) (h : am_H) : Prop := am_okh h ∧ (∀ v ∈ S, am_okv h.length v) ∧ ∀ v, some v ∈ L → am_okv h.length v
def am_Gr (h h' : am_H) : Prop := h.length ≤ h'.length ∧ am_sz h ≤ am_sz h'
theorem am_Gr.rf (h : am_H) : am_Gr h h := ⟨Nat.le_refl _, Nat.le_refl _⟩
theorem am_Gr.trans {a b c : am_H} (h1 : am_Gr a b) (h2 : am_Gr b c) : am_Gr a c := ⟨Nat.le_trans h1.1 h2.1, Nat.le_trans h1.2 h2.2⟩
theorem am_Gr.set {h : am_H} {k : Nat} {e e' : am_E} (hk : h[k]? = some e) (he : am_es e' = am_es e) : am_Gr h (h.set k e') := ⟨by rw [List.length_set]; exact Nat.le_refl _, by rw [am_sz_set hk he]; exact Nat.le_refl _⟩
theorem am_Gr.push (h : am_H) (e : am_E) : am_Gr h (h ++ [e]) := ⟨by simp, by rw [am_sz_push]; exact Nat.le_add_right _ _⟩
theorem am_setL {n : Nat} {L : am_L} {k : Nat} {v : Value} (hL : ∀ w, some w ∈ L → am_okv n w) (hv : am_okv n v) : ∀ w, some w ∈ L.set k (some v) → am_okv n w := by
  intro w hw
  rcases List.mem_or_eq_of_mem_set hw with h1 | h1
  · exact hL w h1
  · rw [Option.some.inj h1]; exact hv
theorem am_Ok.set {L : am_L} {S S' : List Value} {h : am_H} (ho : am_Ok L S h) (hS : ∀ v ∈ S', am_okv h.length v) {k : Nat} {e : am_E} (he : am_oke h.length e) : am_Ok L S' (h.set k e) := ⟨ho.1.set he, by rw [List.length_set]; exact hS, by rw [List.length_set]; exact ho.2.2⟩
theorem am_Ok.push {L : am_L} {S S' : List Value} {h : am_H} (ho : am_Ok L S h) (hS : ∀ v ∈ S', am_okv h.length v) {e : am_E} (he : am_oke (h.length + 1) e) : am_Ok L (.ref h.length :: S') (h ++ [e]) :=
  ⟨ho.1.push he, am_cons (by rw [List.length_append]; exact Nat.lt_succ_self _) (fun v hv => (hS v hv).mono (by simp)), fun v hv => (ho.2.2 v hv).mono (by simp)⟩
theorem am_Ok.S {L : am_L} {S S' : List Value} {h : am_H} (ho : am_Ok L S h) (hS : ∀ v ∈ S', am_okv h.length v) : am_Ok L S' h := ⟨ho.1, hS, ho.2.2⟩
theorem am_st_ok {F : am_F} (hnw : ∀ own k ci fs, am_nw F own k = some (ci, fs) → ∀ v ∈ fs, am_isR v = false) {own : String} {ini : Bool} {i : Instr} {len pc pc' : Nat} {L L' : am_L} {S S' : List Value} {h h' : am_H} (hs : am_st F own ini i len pc L S h = some (pc', L', S', h')) :
    am_Gr h h' ∧ (am_Ok L S h → am_Ok L' S' h') := by
  unfold am_st at hs
  split at hs
  -- iconst, bipush, sipush
  · cases hs; exact ⟨.rf _, fun ho => ho.S (am_cons trivial ho.2.1)⟩
  · cases hs; exact ⟨.rf _, fun ho => ho.S (am_cons trivial ho.2.1)⟩
  · cases hs; exact ⟨.rf _, fun ho => ho.S (am_cons trivial ho.2.1)⟩
  -- ldc
  · split at hs
    · cases hs; exact ⟨.rf _, fun ho => ho.S (am_cons trivial ho.2.1)⟩
    · cases hs
  -- iload_n, iload
  · split at hs
    · cases hs; exact ⟨.rf _, fun ho => ho.S (am_cons trivial ho.2.1)⟩
    · cases hs
  · split at hs
    · cases hs; exact ⟨.rf _, fun ho => ho.S (am_cons trivial ho.2.1)⟩
    · cases hs
  -- aload_n, aload
  · split at hs
    · rename_i v hv
      split at hs
      · cases hs; exact ⟨.rf _, fun ho => ho.S (am_cons (ho.2.2 _ (List.mem_of_getElem? hv)) ho.2.1)⟩
      · cases hs
    · cases hs
  · split at hs
    · rename_i v hv
      split at hs
      · cases hs; exact ⟨.rf _, fun ho => ho.S (am_cons (ho.2.2 _ (List.mem_of_getElem? hv)) ho.2.1)⟩
      · cases hs
    · cases hs
  -- istore_n, istore, astore_n, astore
  · split at hs
    · cases hs; exact ⟨.rf _, fun ho => ⟨ho.1, am_tl ho.2.1, am_setL ho.2.2 trivial⟩⟩
    · cases hs
  · split at hs
    · cases hs; exact ⟨.rf _, fun ho => ⟨ho.1, am_tl ho.2.1, am_setL ho.2.2 trivial⟩⟩
    · cases hs
  · split at hs
    · cases hs; exact ⟨.rf _, fun ho => ⟨ho.1, am_tl ho.2.1, am_setL ho.2.2 (am_hd ho.2.1)⟩⟩
    · cases hs
  · split at hs
    · cases hs; exact ⟨.rf _, fun ho => ⟨ho.1, am_tl ho.2.1, am_setL ho.2.2 (am_hd ho.2.1)⟩⟩
    · cases hs
  -- iinc
  · split at hs
    · cases hs; exact ⟨.rf _, fun ho => ⟨ho.1, ho.2.1, am_setL ho.2.2 trivial⟩⟩
    · cases hs
  -- dup, dup2, pop
  · split at hs
    · cases hs; exact ⟨.rf _, fun ho => ho.S (am_cons (am_hd ho.2.1) ho.2.1)⟩
    · cases hs
  · split at hs
    · cases hs; exact ⟨.rf _, fun ho => ho.S (am_cons (am_hd ho.2.1) (am_cons (am_hd (am_tl ho.2.1)) ho.2.1))⟩
    · cases hs
  · split at hs
    · cases hs; exact ⟨.rf _, fun ho => ho.S (am_tl ho.2.1)⟩
    · cases hs
  -- arithmetic
  · cases hs; exact ⟨.rf _, fun ho => ho.S (am_cons trivial (am_tl (am_tl ho.2.1)))⟩
  · cases hs; exact ⟨.rf _, fun ho => ho.S (am_cons trivial (am_tl (am_tl ho.2.1)))⟩
  · cases hs; exact ⟨.rf _, fun ho => ho.S (am_cons trivial (am_tl (am_tl ho.2.1)))⟩
  · cases hs; exact ⟨.rf _, fun ho => ho.S (am_cons trivial (am_tl (am_tl ho.2.1)))⟩
  · cases hs; exact ⟨.rf _, fun ho => ho.S (am_cons trivial (am_tl ho.2.1))⟩
  · cases hs; exact ⟨.rf _, fun ho => ho.S (am_cons trivial (am_tl (am_tl ho.2.1)))⟩
  -- goto, ifs
  · split at hs
    · cases hs; exact ⟨.rf _, fun ho => ho⟩
    · cases hs
  · split at hs
    · cases hs; exact ⟨.rf _, fun ho => ho.S (am_tl ho.2.1)⟩
    · cases hs
  · split at hs
    · cases hs; exact ⟨.rf _, fun ho => ho.S (am_tl (am_tl ho.2.1))⟩
    · cases hs
  -- switches
  · split at hs
    · split at hs
      · cases hs; exact ⟨.rf _, fun ho => ho.S (am_tl ho.2.1)⟩
      · cases hs
    · split at hs
      · split at hs
        · cases hs; exact ⟨.rf _, fun ho => ho.S (am_tl ho.2.1)⟩
        · cases hs
      · cases hs
  · split at hs
    · split at hs
      · cases hs; exact ⟨.rf _, fun ho => ho.S (am_tl ho.2.1)⟩
      · cases hs
    · cases hs
  -- getfield
  · split at hs
    · rename_i ci j ty fin c2 fs hf hh
      split at hs
      · split at hs
        · rename_i v hv
          cases hs
          exact ⟨.rf _, fun ho => ho.S (am_cons (ho.1 _ (List.mem_of_getElem? hh) v (List.mem_of_getElem? hv)) (am_tl ho.2.1))⟩
        · cases hs
      · cases hs
    · cases hs
  -- putfield
  · split at hs
    · rename_i ci j ty fin c2 fs hf hh
      split at hs
      · cases hs
        refine ⟨.set hh (by simp [am_es]), fun ho => ho.set (am_tl (am_tl ho.2.1)) (fun w hw => ?_)⟩
        rcases List.mem_or_eq_of_mem_set hw with h1 | h1
        · exact ho.1 _ (List.mem_of_getElem? hh) w h1
        · rw [h1]; exact am_hd ho.2.1
      · cases hs
    · cases hs
  -- new
  · split at hs
    · rename_i ci fs hf
      cases hs
      exact ⟨.push _ _, fun ho => ho.push ho.2.1 (fun v hv => by have h3 := hnw _ _ _ _ hf v hv; cases v <;> first | trivial | cases h3)⟩
    · cases hs
  -- newarray
  · split at hs
    · cases hs
    · split at hs
      · rename_i at0 n S0 _ e9 he9
        cases hs
        refine ⟨.push _ _, fun ho => ho.push (am_tl ho.2.1) ?_⟩
        unfold am_at0 at he9
        split at he9 <;> cases he9 <;> trivial
      · cases hs
  -- arraylength
  · split at hs
    · cases hs; exact ⟨.rf _, fun ho => ho.S (am_cons trivial (am_tl ho.2.1))⟩
    · split at hs
      · cases hs; exact ⟨.rf _, fun ho => ho.S (am_cons trivial (am_tl ho.2.1))⟩
      · cases hs; exact ⟨.rf _, fun ho => ho.S (am_cons trivial (am_tl ho.2.1))⟩
      · cases hs
    · cases hs
  -- iaload
  · split at hs
    · split at hs
      · cases hs; exact ⟨.rf _, fun ho => ho.S (am_cons trivial (am_tl (am_tl ho.2.1)))⟩
      · cases hs
    · split at hs
      · split at hs
        · cases hs; exact ⟨.rf _, fun ho => ho.S (am_cons trivial (am_tl (am_tl ho.2.1)))⟩
        · cases hs
      · cases hs
    · cases hs
  -- iastore
  · split at hs
    · rename_i hh
      split at hs
      · cases hs; exact ⟨.set hh rfl, fun ho => ho.set (am_tl (am_tl (am_tl ho.2.1))) trivial⟩
      · cases hs
    · cases hs
  -- baload
  · split at hs
    · split at hs
      · cases hs; exact ⟨.rf _, fun ho => ho.S (am_cons trivial (am_tl (am_tl ho.2.1)))⟩
      · cases hs
    · cases hs
  -- bastore
  · split at hs
    · rename_i hh
      split at hs
      · cases hs; exact ⟨.set hh rfl, fun ho => ho.set (am_tl (am_tl (am_tl ho.2.1))) trivial⟩
      · cases hs
    · cases hs
  -- laload
  · split at hs
    · split at hs
      · cases hs; exact ⟨.rf _, fun ho => ho.S (am_cons trivial (am_tl (am_tl ho.2.1)))⟩
      · cases hs
    · cases hs
  -- lastore
  · split at hs
    · rename_i hh
      split at hs
      · cases hs; exact ⟨.set hh rfl, fun ho => ho.set (am_tl (am_tl (am_tl ho.2.1))) trivial⟩
      · cases hs
    · cases hs
  · cases hs
def am_okO (h : am_H) (o : am_O) : Prop := match o with
  | .inl none => True
  | .inl (some v) => am_okv h.length v
  | .inr (x, k) => h[k]? = some (am_X x)
def am_OkS (a : am_S) : Prop := am_Ok a.2.2.1 a.2.2.2.1 a.2.2.2.2 ∧ ∀ x k, a.1 = some (x, k) → a.2.2.2.2[k]? = some (am_X x)
def am_okE (E : am_EvT) : Prop := ∀ j as h o h', E j as h o h' → am_Gr h h' ∧ (am_okh h → (∀ v ∈ as, am_okv h.length v) → am_okh h' ∧ am_okO h' o)
theorem am_cp_ok {h h' : am_H} {a b : Nat} {sp dp n : Int32} (hs : am_cp h a sp b dp n = some h') : am_Gr h h' ∧ (am_okh h → am_okh h') ∧ h'.length = h.length := by
  unfold am_cp at hs
  split at hs
  · rename_i h1 h2
    split at hs
    · cases hs
      exact ⟨.set h2 rfl, fun ho => ho.set trivial, by simp⟩
    · cases hs
  · cases hs
theorem am_Stp_ok {F : am_F} (hnw : ∀ own k ci fs, am_nw F own k = some (ci, fs) → ∀ v ∈ fs, am_isR v = false) {cl : List vw_C} {ms : Nat → Option am_M} {E : am_EvT} (hE : am_okE E) {M : am_M} {a b : am_S} (hs : am_Stp F cl ms E M a b) : am_Gr a.2.2.2.2 b.2.2.2.2 ∧ (am_OkS a → am_OkS b) := by
  rcases hs with ⟨pc, L, S, h, i, len, ⟨pc', L', S', h'⟩, rfl, h2, h3, rfl⟩ | ⟨pc, L, S, h, i, len, j, w, N, as, rest, o, h', rfl, h2, h3, h4, h5, h6, rfl, h8, h9, h10, h11, rfl⟩ | ⟨pc, L, h, i, len, j, k, rest, rfl, h2, h3, h4, rfl⟩ | ⟨pc, L, h, i, len, j, k1, sp, k2, dp, n, rest, h', rfl, h2, h3, h4, h5, rfl⟩ | ⟨pc, L, h, i, len, j, w, x, y, rest, rfl, h2, h3, h4, h5, rfl⟩ | ⟨pc, L, S, h, x, k, f, t, w, rfl, h2, h3, h4, rfl⟩
  · obtain ⟨g1, g2⟩ := am_st_ok hnw h3
    exact ⟨g1, fun ho => ⟨g2 ho.1, fun x k hx => by cases hx⟩⟩
  · obtain ⟨g1, g2⟩ := hE _ _ _ _ _ h11
    rcases o with v | ⟨x, k⟩
    · refine ⟨g1, fun ho => ?_⟩
      obtain ⟨⟨o1, o2, o3⟩, -⟩ := ho
      obtain ⟨q1, q2⟩ := g2 o1 (fun v hv => o2 v (List.mem_append_left _ (List.mem_reverse.mpr hv)))
      refine ⟨⟨q1, fun u hu => ?_, fun u hu => (o3 u hu).mono g1.1⟩, fun x k hx => by cases hx⟩
      rcases List.mem_append.mp hu with h1 | h1
      · cases v with
        | none => cases h1
        | some v =>
          rw [show u = v by simpa using h1]
          exact q2
      · exact (o2 u (List.mem_append_right _ h1)).mono g1.1
    · refine ⟨g1, fun ho => ?_⟩
      obtain ⟨⟨o1, o2, o3⟩, -⟩ := ho
      obtain ⟨q1, q2⟩ := g2 o1 (fun v hv => o2 v (List.mem_append_left _ (List.mem_reverse.mpr hv)))
      exact ⟨⟨q1, fun u hu => (o2 u (List.mem_append_right _ hu)).mono g1.1, fun u hu => (o3 u hu).mono g1.1⟩, fun x' k' hx => by cases hx; exact q2⟩
  · exact ⟨.rf _, fun ho => ⟨ho.1.S (am_tl ho.1.2.1), fun x k hx => by cases hx⟩⟩
  · obtain ⟨g1, g2, g3⟩ := am_cp_ok h5
    refine ⟨g1, fun ho => ?_⟩
    obtain ⟨⟨o1, o2, o3⟩, -⟩ := ho
    exact ⟨⟨g2 o1, fun u hu => by show am_okv h'.length u; rw [g3]; exact am_tl (am_tl (am_tl (am_tl (am_tl o2)))) u hu, fun u hu => by show am_okv h'.length u; rw [g3]; exact o3 u hu⟩, fun x k hx => by cases hx⟩
  · exact ⟨.rf _, fun ho => ⟨ho.1.S (am_cons trivial (am_tl (am_tl ho.1.2.1))), fun x k hx => by cases hx⟩⟩
  · refine ⟨.rf _, fun ho => ?_⟩
    have hk : h[k]? = some (am_X x) := ho.2 x k rfl
    exact ⟨ho.1.S (am_cons ((List.getElem?_eq_some_iff.mp hk).1) (fun v hv => nomatch hv)), fun x k hx => by cases hx⟩
theorem am_fin_ok {F : am_F} {M : am_M} {a : am_S} {r : am_O × am_H} (hs : am_fin F M a r) : am_Gr a.2.2.2.2 r.2 ∧ (am_OkS a → am_okh r.2 ∧ am_okO r.2 r.1) := by
  rcases hs with ⟨pc, L, v, h, ty, rfl, h2, h3, h4, rfl⟩ | ⟨pc, L, h, rfl, h2, h3, rfl⟩ | ⟨pc, L, k, h, ty, rfl, h2, h3, h4, rfl⟩ | ⟨pc, L, S, h, ⟨x, k⟩, rfl, h2, rfl⟩ | ⟨pc, L, S, h, x, rfl, h2, h3, h4, rfl⟩
  · exact ⟨.rf _, fun ho => ⟨ho.1.1, trivial⟩⟩
  · exact ⟨.rf _, fun ho => ⟨ho.1.1, trivial⟩⟩
  · exact ⟨.rf _, fun ho => ⟨ho.1.1, am_hd ho.1.2.1⟩⟩
  · exact ⟨.rf _, fun ho => ⟨ho.1.1, ho.2 x k rfl⟩⟩
  · refine ⟨.push _ _, fun ho => ⟨ho.1.1.push (fun v hv => ?_), ?_⟩⟩
    · simp at hv
      rw [hv]
      trivial
    · show (h ++ [am_X x])[h.length]? = some (am_X x)
      simp
theorem am_Go_ok {F : am_F} (hnw : ∀ own k ci fs, am_nw F own k = some (ci, fs) → ∀ v ∈ fs, am_isR v = false) {cl : List vw_C} {ms : Nat → Option am_M} {E : am_EvT} (hE : am_okE E) {M : am_M} {a : am_S} {r : am_O × am_H} (hg : am_Go F cl ms E M r a) : am_Gr a.2.2.2.2 r.2 ∧ (am_OkS a → am_okh r.2 ∧ am_okO r.2 r.1) :=
  hg (fun a => am_Gr a.2.2.2.2 r.2 ∧ (am_OkS a → am_okh r.2 ∧ am_okO r.2 r.1)) (fun _ h => am_fin_ok h) (fun a b hs hb => by
    obtain ⟨g1, g2⟩ := am_Stp_ok hnw hE hs
    exact ⟨g1.trans hb.1, fun ho => hb.2 (g2 ho)⟩)
theorem am_ent_ok {M : am_M} {as : List Value} {n : Nat} (h : ∀ v ∈ as, am_okv n v) : ∀ v, some v ∈ am_ent M as → am_okv n v := by
  intro v hv
  rcases List.mem_append.mp hv with h1 | h1
  · obtain ⟨w, hw, e⟩ := List.mem_map.mp h1
    rw [← Option.some.inj e]
    exact h w hw
  · have := List.eq_of_mem_replicate h1
    cases this
theorem am_Ev_ok {F : am_F} (hnw : ∀ own k ci fs, am_nw F own k = some (ci, fs) → ∀ v ∈ fs, am_isR v = false) {cl : List vw_C} {ms : Nat → Option am_M} : ∀ d, am_okE (am_Ev F cl ms d)
  | 0 => fun _ _ _ _ _ h => h.elim
  | d + 1 => fun j as h o h' ⟨M, _, _, _, _, hg⟩ => by
    obtain ⟨g1, g2⟩ := am_Go_ok hnw (am_Ev_ok hnw d) hg
    exact ⟨g1, fun o1 o2 => g2 ⟨⟨o1, (fun v hv => by cases hv), am_ent_ok o2⟩, fun x k hx => by cases hx⟩⟩
