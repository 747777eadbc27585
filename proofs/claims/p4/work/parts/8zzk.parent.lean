/-! A node's parent, by depths alone. -/
section
variable {K : Nat → List Nat} {F : Fo}
theorem Re.nxO : ∀ {S : Sk} {v : Nat} {R : Fo}, Ob K v S → Re K S R → R ≠ [] → ∃ c S', Vi K c S' R ∧ (S'.map Prod.fst) <:+ (S.map Prod.fst)
  | [], _, _, _, h, hn => absurd h hn
  | (u, []) :: S, _, _, hO, h, hn => by
    obtain ⟨c, S', h1, h2⟩ := Re.nxO hO.2 h.nl hn
    exact ⟨c, S', h1, h2.trans (List.suffix_cons u _)⟩
  | (u, c :: l) :: S, _, _, hO, h, _ => ⟨c, (u, l) :: S, Re.cn hO h, List.suffix_refl _⟩
theorem Om.le {P Q : Fo} : ∀ {us : List Nat}, Om P us → (∀ e, e ∈ P → e ∈ Q) → Om Q us
  | [], _, _ => trivial
  | u :: t, h, hq => by
    refine ⟨?_, Om.le h.2 hq⟩
    rcases List.mem_cons.mp h.1 with e | e
    · rw [e]
      exact List.mem_cons_self
    · exact List.mem_cons_of_mem _ (hq _ e)
theorem Vi.atO : ∀ {i : Nat} {v : Nat} {S : Sk} {R P0 : Fo}, Vi K v S R → Om P0 (S.map Prod.fst) → i < R.length → ∃ P c S' R', R = P ++ R' ∧ P.length = i ∧ Vi K c S' R' ∧ Om (P0 ++ P) (S'.map Prod.fst)
  | 0, v, S, R, P0, h, hO, _ => ⟨[], v, S, R, rfl, rfl, h, by rw [List.append_nil]; exact hO⟩
  | i + 1, v, S, R, P0, h, hO, hi => by
    obtain ⟨R1, rfl, h1, h2⟩ := h.hd
    have hi' : i < R1.length := Nat.lt_of_succ_lt_succ hi
    have hn : R1 ≠ [] := fun e => by
      rw [e] at hi'
      exact absurd hi' (Nat.not_lt_zero _)
    have hO1 : Om (P0 ++ [(S.length, v)]) (v :: S.map Prod.fst) := by
      refine ⟨?_, hO.up⟩
      rw [List.length_map]
      exact List.mem_cons_of_mem _ (List.mem_append_right _ List.mem_cons_self)
    have fin : (∃ c S', Vi K c S' R1 ∧ (S'.map Prod.fst) <:+ (v :: S.map Prod.fst)) → ∃ P c S' R', (S.length, v) :: R1 = P ++ R' ∧ P.length = i + 1 ∧ Vi K c S' R' ∧ Om (P0 ++ P) (S'.map Prod.fst) := by
      intro ⟨c, S', hV, hs⟩
      obtain ⟨P, c2, S2, R2, e1, e2, e3, e4⟩ := Vi.atO hV (hO1.sf hs) hi'
      refine ⟨(S.length, v) :: P, c2, S2, R2, by rw [e1]; rfl, by rw [← e2]; rfl, e3, ?_⟩
      rw [List.append_assoc] at e4
      exact e4
    cases hK : K v with
    | nil =>
      obtain ⟨c, S', hV, hs⟩ := Re.nxO h.1 (h2 hK) hn
      exact fin ⟨c, S', hV, hs.trans (List.suffix_cons v _)⟩
    | cons c l => exact fin ⟨c, _, h1 c l hK, List.suffix_refl _⟩
/-- a node's parent is the root, or stands before it -/
theorem F_par (hD : Dn K 0 ((0, 0) :: F)) {i d x : Nat} (h : F[i]? = some (d, x)) : ∃ u, x ∈ K u ∧ ((u = 0 ∧ d = 1) ∨ ∃ j e, j < i ∧ F[j]? = some (e, u) ∧ d = e + 1) := by
  have hi : i < F.length := (List.getElem?_eq_some_iff.mp h).1
  obtain ⟨P, c, S, R, e1, e2, hV, hO⟩ := (Vi.start hD).atO (P0 := []) trivial (i := i + 1) (by show i + 1 < F.length + 1; omega)
  obtain ⟨R', rfl, -⟩ := hV.hd
  cases P with
  | nil => cases e2
  | cons a P =>
    obtain ⟨ea, e3'⟩ := List.cons.inj e1
    have e3 : F = P ++ (S.length, c) :: R' := e3'
    have hP : P.length = i := Nat.succ.inj e2
    rw [e3, List.getElem?_append_right (by omega), hP, Nat.sub_self] at h
    cases h
    cases S with
    | nil =>
      exfalso
      have hlen : ([] : Sk).length = 0 := rfl
      obtain ⟨-, A, B, ⟨k, hA⟩, hB, hR⟩ := hV
      obtain ⟨k', hk'⟩ := hD
      obtain ⟨G', hG'⟩ := po_hd hk'
      have : (0, x) ∈ up1 G' := by
        rw [← (List.cons.inj hG').2, e3]
        exact List.mem_append_right _ List.mem_cons_self
      obtain ⟨y, -, hy⟩ := List.mem_map.mp this
      have := (Prod.mk.inj hy).1
      omega
    | cons y S =>
      obtain ⟨u, l⟩ := y
      obtain ⟨⟨b, hb⟩, -⟩ := hV.1
      refine ⟨u, by rw [hb]; exact List.mem_append_right _ List.mem_cons_self, ?_⟩
      have hm := hO.1
      rw [List.length_map, List.nil_append] at hm
      have hm' : (S.length, u) ∈ (0, 0) :: (a :: P) := hm
      have h00 : (S.length, u) = (0, 0) → u = 0 ∧ ((u, l) :: S).length = 1 := fun e => by
        obtain ⟨q1, q2⟩ := Prod.mk.inj e
        exact ⟨q2, by show S.length + 1 = 1; omega⟩
      rcases List.mem_cons.mp hm' with e | e
      · exact Or.inl (h00 e)
      · rcases List.mem_cons.mp e with e | e
        · rw [← ea] at e
          exact Or.inl (h00 e)
        · obtain ⟨j, hj⟩ := List.getElem?_of_mem e
          have hjl : j < P.length := (List.getElem?_eq_some_iff.mp hj).1
          refine Or.inr ⟨j, S.length, by omega, ?_, rfl⟩
          rw [e3, List.getElem?_append_left hjl]
          exact hj
end
/-- j is the place of i's parent -/
def Par (ds : List Nat) (i j : Nat) : Prop := ∃ d e, ds[i]? = some d ∧ ds[j]? = some e ∧ j < i ∧ e < d ∧ ∀ m f, j < m → m < i → ds[m]? = some f → d ≤ f
theorem Par.un {ds : List Nat} {i j k : Nat} (h : Par ds i j) (h' : Par ds i k) : j = k := by
  obtain ⟨d, e, h1, h2, h3, h4, h5⟩ := h
  obtain ⟨d', e', h1', h2', h3', h4', h5'⟩ := h'
  rw [h1] at h1'
  cases h1'
  rcases Nat.lt_trichotomy j k with c | c | c
  · have := h5 k e' c h3' h2'
    omega
  · exact c
  · have := h5' j e c h3 h2
    omega
theorem kid_mem {d x : Nat} : ∀ {R : Fo}, x ∈ kid d R → ∃ m : Nat, R[m]? = some (d + 1, x) ∧ ∀ (m' f y : Nat), m' < m → R[m']? = some (f, y) → d + 1 ≤ f
  | [], h => by cases h
  | e :: t, h => by
    have h' : x ∈ (if e.1 ≤ d then [] else if e.1 = d + 1 then e.2 :: kid d t else kid d t) := h
    by_cases c1 : e.1 ≤ d
    · rw [if_pos c1] at h'
      cases h'
    · rw [if_neg c1] at h'
      have rc0 : x ∈ kid d t → ∃ m : Nat, (e :: t)[m]? = some (d + 1, x) ∧ ∀ (m' f y : Nat), m' < m → (e :: t)[m']? = some (f, y) → d + 1 ≤ f := by
        intro hx
        obtain ⟨m, h1, h2⟩ := kid_mem hx
        refine ⟨m + 1, h1, fun m' f y hm hy => ?_⟩
        cases m' with
        | zero =>
          cases hy
          show d + 1 ≤ f
          have c1' : ¬ f ≤ d := c1
          omega
        | succ m' => exact h2 m' f y (by omega) hy
      by_cases c2 : e.1 = d + 1
      · rw [if_pos c2] at h'
        rcases List.mem_cons.mp h' with e1 | e1
        · refine ⟨0, ?_, fun m' f y hm => absurd hm (Nat.not_lt_zero _)⟩
          show some e = some (d + 1, x)
          rw [e1, ← c2]
        · exact rc0 e1
      · rw [if_neg c2] at h'
        exact rc0 h'
theorem F_Par {K : Nat → List Nat} {F : Fo} (hD : Dn K 0 ((0, 0) :: F)) (hn : (ids F).Nodup) {i j d e x u : Nat} (h : F[i]? = some (d, x)) (hj : F[j]? = some (e, u)) (hx : x ∈ K u) : Par (F.map Prod.fst) i j := by
  rw [F_kid hD hj] at hx
  obtain ⟨m, h1, h2⟩ := kid_mem hx
  rw [List.getElem?_drop] at h1
  have hi : i = j + 1 + m := by
    have e1 : (ids F)[i]? = some x := by
      unfold ids
      rw [List.getElem?_map, h]
      rfl
    have e2 : (ids F)[j + 1 + m]? = some x := by
      unfold ids
      rw [List.getElem?_map, h1]
      rfl
    exact nd_ix hn e1 e2
  subst hi
  rw [h] at h1
  cases h1
  refine ⟨e + 1, e, by rw [List.getElem?_map, h]; rfl, by rw [List.getElem?_map, hj]; rfl, by omega, by omega, fun m' f hm1 hm2 hf => ?_⟩
  rw [List.getElem?_map] at hf
  cases hq : F[m']? with
  | none =>
    rw [hq] at hf
    cases hf
  | some y =>
    rw [hq] at hf
    cases hf
    refine h2 (m' - (j + 1)) y.1 y.2 (by omega) ?_
    rw [List.getElem?_drop, show j + 1 + (m' - (j + 1)) = m' by omega]
    exact hq
