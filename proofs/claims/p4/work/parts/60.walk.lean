/-! Walks that never come back: no place has two ahead of it, the first has none. -/
def wk_Ch (R : Nat → Nat → Prop) (s : Nat) : List Nat → Prop
  | [] => True
  | [t] => t = s
  | t :: u :: V => R u t ∧ wk_Ch R s (u :: V)
theorem wk_back {R : Nat → Nat → Prop} {s : Nat} : ∀ {t : Nat} {W : List Nat} {x : Nat}, wk_Ch R s (t :: W) → x ∈ t :: W → x = s ∨ ∃ y, y ∈ W ∧ R y x
  | t, [], x, h, hx => by
    have e : x = t := by simpa using hx
    subst e
    exact Or.inl h
  | t, u :: W, x, h, hx => by
    rcases List.mem_cons.mp hx with e | hx
    · subst e
      exact Or.inr ⟨u, List.mem_cons_self, h.1⟩
    · rcases wk_back h.2 hx with e | ⟨y, hy, hr⟩
      · exact Or.inl e
      · exact Or.inr ⟨y, List.mem_cons_of_mem _ hy, hr⟩
theorem wk_new {R : Nat → Nat → Prop} {s : Nat} (hi : ∀ x y u, R x u → R y u → x = y) (hs : ∀ x, ¬ R x s) {t u : Nat} {W : List Nat} (h : wk_Ch R s (t :: W)) (hn : (t :: W).Nodup) (hr : R t u) : u ∉ t :: W := by
  intro hu
  rcases wk_back h hu with e | ⟨y, hy, hry⟩
  · subst e
    exact hs t hr
  · have e := hi y t u hry hr
    subst e
    exact (List.nodup_cons.mp hn).1 hy
theorem wk_len : ∀ (N : Nat) (V : List Nat), V.Nodup → (∀ x, x ∈ V → x < N) → V.length ≤ N
  | 0, V, _, h => by
    cases V with
    | nil => exact Nat.le_refl 0
    | cons x V => exact absurd (h x List.mem_cons_self) (Nat.not_lt_zero x)
  | N + 1, V, hn, h => by
    by_cases hm : N ∈ V
    · have h1 := wk_len N (V.erase N) (hn.erase N) (fun x hx => by
        have h2 := (List.Nodup.mem_erase_iff hn).mp hx
        have h3 := h x h2.2
        have h4 := h2.1
        omega)
      rw [List.length_erase_of_mem hm] at h1
      omega
    · have h1 := wk_len N V hn (fun x hx => by
        have h3 := h x hx
        have h4 : x ≠ N := fun e => hm (e ▸ hx)
        omega)
      omega
/-! A forest: first and last child, next, above. A: what hangs somewhere. -/
def fu (f : Nat → Nat) (k v : Nat) : Nat → Nat := fun i => if i = k then v else f i
theorem fu_eq {f : Nat → Nat} {k v : Nat} : fu f k v k = v := if_pos rfl
theorem fu_ne {f : Nat → Nat} {k v i : Nat} (h : i ≠ k) : fu f k v i = f i := if_neg h
def TI (A : Nat → Prop) (N : Nat) (f l n a : Nat → Nat) : Prop :=
  (∀ x, A x → 0 < x ∧ x < N ∧ a x < N ∧ f (a x) ≠ 0) ∧
  (∀ p, p < N → f p ≠ 0 → A (f p) ∧ a (f p) = p ∧ A (l p) ∧ a (l p) = p) ∧
  (∀ x, A x → n x ≠ 0 → A (n x) ∧ a (n x) = a x ∧ ∀ p, p < N → f p ≠ n x) ∧
  (∀ x y, A x → A y → n x = n y → n x ≠ 0 → x = y) ∧
  (∀ x, A x → n x = 0 → l (a x) = x)
theorem TI.mk {A : Nat → Prop} {N : Nat} {f l n a : Nat → Nat} (h : TI A N f l n a) : TI A (N + 1) (fu f N 0) (fu l N 0) (fu n N 0) (fu a N 0) := by
  obtain ⟨h1, h2, h3, h4, h5⟩ := h
  have ne : ∀ x, A x → x ≠ N := fun x hx => by have := (h1 x hx).2.1; omega
  have na : ∀ x, A x → a x ≠ N := fun x hx => by have := (h1 x hx).2.2.1; omega
  refine ⟨fun x hx => ?_, fun p hp hf => ?_, fun x hx hn => ?_, fun x y hx hy he hn => ?_, fun x hx hn => ?_⟩
  · obtain ⟨a1, a2, a3, a4⟩ := h1 x hx
    rw [fu_ne (ne x hx), fu_ne (na x hx)]
    exact ⟨a1, by omega, by omega, a4⟩
  · by_cases e : p = N
    · subst e
      rw [fu_eq] at hf
      exact absurd rfl hf
    · rw [fu_ne e] at hf
      obtain ⟨b1, b2, b3, b4⟩ := h2 p (by omega) hf
      rw [fu_ne e, fu_ne e, fu_ne (ne _ b1), fu_ne (ne _ b3)]
      exact ⟨b1, b2, b3, b4⟩
  · rw [fu_ne (ne x hx)] at hn
    obtain ⟨c1, c2, c3⟩ := h3 x hx hn
    rw [fu_ne (ne x hx), fu_ne (ne _ c1), fu_ne (ne x hx)]
    refine ⟨c1, c2, fun p hp => ?_⟩
    by_cases e : p = N
    · subst e
      rw [fu_eq]
      exact fun e => hn e.symm
    · rw [fu_ne e]
      exact c3 p (by omega)
  · rw [fu_ne (ne x hx), fu_ne (ne y hy)] at he
    rw [fu_ne (ne x hx)] at hn
    exact h4 x y hx hy he hn
  · rw [fu_ne (ne x hx)] at hn
    rw [fu_ne (ne x hx), fu_ne (na x hx)]
    exact h5 x hx hn
/-- what doesn't hang may point where it will -/
theorem TI.nx {A : Nat → Prop} {N : Nat} {f l n a : Nat → Nat} (h : TI A N f l n a) {t v : Nat} (ht : ¬ A t) : TI A N f l (fu n t v) a := by
  obtain ⟨h1, h2, h3, h4, h5⟩ := h
  have ne : ∀ x, A x → x ≠ t := fun x hx e => ht (e ▸ hx)
  refine ⟨h1, h2, fun x hx hn => ?_, fun x y hx hy he hn => ?_, fun x hx hn => ?_⟩
  · rw [fu_ne (ne x hx)] at hn ⊢
    exact h3 x hx hn
  · rw [fu_ne (ne x hx), fu_ne (ne y hy)] at he
    rw [fu_ne (ne x hx)] at hn
    exact h4 x y hx hy he hn
  · rw [fu_ne (ne x hx)] at hn
    exact h5 x hx hn
/-- attach -/
theorem TI.at0 {A : Nat → Prop} {N : Nat} {f l n a : Nat → Nat} (h : TI A N f l n a) {p t : Nat} (hp : p < N) (ht : t < N) (h0 : 0 < t) (hA : ¬ A t) (hf : f p = 0) : TI (fun x => A x ∨ x = t) N (fu f p t) (fu l p t) (fu n t 0) (fu a t p) := by
  obtain ⟨h1, h2, h3, h4, h5⟩ := h
  have ne : ∀ x, A x → x ≠ t := fun x hx e => hA (e ▸ hx)
  have na : ∀ x, A x → a x ≠ p := fun x hx e => (h1 x hx).2.2.2 (e ▸ hf)
  refine ⟨fun x hx => ?_, fun q hq hf' => ?_, fun x hx hn => ?_, fun x y hx hy he hn => ?_, fun x hx hn => ?_⟩
  · rcases hx with hx | rfl
    · obtain ⟨a1, a2, a3, a4⟩ := h1 x hx
      rw [fu_ne (ne x hx), fu_ne (na x hx)]
      exact ⟨a1, a2, a3, a4⟩
    · rw [fu_eq, fu_eq]
      exact ⟨h0, ht, hp, by omega⟩
  · by_cases e : q = p
    · subst e
      rw [fu_eq, fu_eq, fu_eq, fu_eq]
      exact ⟨Or.inr rfl, rfl, Or.inr rfl, rfl⟩
    · rw [fu_ne e] at hf'
      obtain ⟨b1, b2, b3, b4⟩ := h2 q hq hf'
      rw [fu_ne e, fu_ne e, fu_ne (ne _ b1), fu_ne (ne _ b3)]
      exact ⟨Or.inl b1, b2, Or.inl b3, b4⟩
  · rcases hx with hx | rfl
    · rw [fu_ne (ne x hx)] at hn
      obtain ⟨c1, c2, c3⟩ := h3 x hx hn
      rw [fu_ne (ne x hx), fu_ne (ne _ c1), fu_ne (ne x hx)]
      refine ⟨Or.inl c1, c2, fun q hq => ?_⟩
      by_cases e : q = p
      · subst e
        rw [fu_eq]
        exact fun e => ne _ c1 e.symm
      · rw [fu_ne e]
        exact c3 q hq
    · rw [fu_eq] at hn
      exact absurd rfl hn
  · rcases hx with hx | rfl
    · rcases hy with hy | rfl
      · rw [fu_ne (ne x hx), fu_ne (ne y hy)] at he
        rw [fu_ne (ne x hx)] at hn
        exact h4 x y hx hy he hn
      · rw [fu_eq] at he
        exact absurd he hn
    · rw [fu_eq] at hn
      exact absurd rfl hn
  · rcases hx with hx | rfl
    · rw [fu_ne (ne x hx)] at hn
      rw [fu_ne (ne x hx), fu_ne (na x hx)]
      exact h5 x hx hn
    · rw [fu_eq, fu_eq]
theorem TI.at1 {A : Nat → Prop} {N : Nat} {f l n a : Nat → Nat} (h : TI A N f l n a) {p t : Nat} (hp : p < N) (ht : t < N) (h0 : 0 < t) (hA : ¬ A t) (hf : f p ≠ 0) : TI (fun x => A x ∨ x = t) N f (fu l p t) (fu (fu n t 0) (l p) t) (fu a t p) := by
  obtain ⟨h1, h2, h3, h4, h5⟩ := h
  have ne : ∀ x, A x → x ≠ t := fun x hx e => hA (e ▸ hx)
  obtain ⟨q1, q2, q3, q4⟩ := h2 p hp hf
  have hq : l p ≠ t := ne _ q3
  have nf : ∀ q, q < N → f q ≠ t := fun q hq e => by
    have := (h2 q hq (by omega)).1
    exact ne _ this e
  have nt : fu (fu n t 0) (l p) t t = 0 := by rw [fu_ne (fun e => hq e.symm), fu_eq]
  have no : ∀ x, A x → x ≠ l p → fu (fu n t 0) (l p) t x = n x := fun x hx e => by rw [fu_ne e, fu_ne (ne x hx)]
  refine ⟨fun x hx => ?_, fun q hq hf' => ?_, fun x hx hn => ?_, fun x y hx hy he hn => ?_, fun x hx hn => ?_⟩
  · rcases hx with hx | rfl
    · obtain ⟨a1, a2, a3, a4⟩ := h1 x hx
      rw [fu_ne (ne x hx)]
      exact ⟨a1, a2, a3, a4⟩
    · rw [fu_eq]
      exact ⟨h0, ht, hp, hf⟩
  · obtain ⟨b1, b2, b3, b4⟩ := h2 q hq hf'
    rw [fu_ne (ne _ b1)]
    by_cases e : q = p
    · subst e
      rw [fu_eq, fu_eq]
      exact ⟨Or.inl b1, b2, Or.inr rfl, rfl⟩
    · rw [fu_ne e, fu_ne (ne _ b3)]
      exact ⟨Or.inl b1, b2, Or.inl b3, b4⟩
  · rcases hx with hx | rfl
    · by_cases e : x = l p
      · subst e
        rw [fu_eq, fu_eq, fu_ne (ne _ hx), q4]
        exact ⟨Or.inr rfl, rfl, nf⟩
      · rw [no x hx e] at hn ⊢
        obtain ⟨c1, c2, c3⟩ := h3 x hx hn
        rw [fu_ne (ne _ c1), fu_ne (ne x hx)]
        exact ⟨Or.inl c1, c2, c3⟩
    · exact absurd nt hn
  · have key : ∀ y, A y → n y = t → False := fun y hy e => by
      have := (h3 y hy (by omega)).1
      exact ne _ this e
    rcases hx with hx | rfl
    · rcases hy with hy | rfl
      · by_cases e : x = l p
        · by_cases e2 : y = l p
          · rw [e, e2]
          · rw [e, fu_eq, no y hy e2] at he
            exact (key y hy he.symm).elim
        · by_cases e2 : y = l p
          · rw [e2, fu_eq, no x hx e] at he
            exact (key x hx he).elim
          · rw [no x hx e, no y hy e2] at he
            rw [no x hx e] at hn
            exact h4 x y hx hy he hn
      · rw [nt] at he
        exact absurd he hn
    · exact absurd nt hn
  · rcases hx with hx | rfl
    · by_cases e : x = l p
      · subst e
        rw [fu_eq] at hn
        omega
      · rw [no x hx e] at hn
        have h6 := h5 x hx hn
        rw [fu_ne (ne x hx)]
        by_cases e2 : a x = p
        · rw [e2] at h6
          exact absurd h6.symm e
        · rw [fu_ne e2]
          exact h6
    · rw [fu_eq, fu_eq]
/-! Its nodes one after another: the first child, or what follows the nearest that has a follower. -/
def tr_Up (A : Nat → Prop) (n a : Nat → Nat) : Nat → Nat → Nat → Prop
  | 0, t, s => t = s ∧ A t
  | k + 1, t, s => n t = 0 ∧ A t ∧ tr_Up A n a k (a t) s
def tr_it (l : Nat → Nat) : Nat → Nat → Nat
  | 0, s => s
  | k + 1, s => l (tr_it l k s)
theorem tr_up {A : Nat → Prop} {N : Nat} {f l n a : Nat → Nat} (h : TI A N f l n a) : ∀ {k t s : Nat}, tr_Up A n a k t s → t = tr_it l k s ∧ A s ∧ ∀ j, j < k → f (tr_it l j s) ≠ 0
  | 0, t, s, hu => ⟨hu.1, hu.1 ▸ hu.2, fun j hj => absurd hj (Nat.not_lt_zero j)⟩
  | k + 1, t, s, hu => by
    obtain ⟨u1, u2, u3⟩ := hu
    obtain ⟨i1, i2, i3⟩ := tr_up h u3
    refine ⟨?_, i2, fun j hj => ?_⟩
    · show t = l (tr_it l k s)
      rw [← i1]
      exact (h.2.2.2.2 t u2 u1).symm
    · by_cases e : j = k
      · subst e
        rw [← i1]
        exact (h.1 t u2).2.2.2
      · exact i3 j (by omega)
def tr_Sc (A : Nat → Prop) (f n a : Nat → Nat) (t u : Nat) : Prop := (A t ∧ f t ≠ 0 ∧ u = f t) ∨ (A t ∧ f t = 0 ∧ ∃ k s, tr_Up A n a k t s ∧ n s ≠ 0 ∧ u = n s)
theorem tr_inj {A : Nat → Prop} {N : Nat} {f l n a : Nat → Nat} (h : TI A N f l n a) (x y u : Nat) (hx : tr_Sc A f n a x u) (hy : tr_Sc A f n a y u) : x = y := by
  rcases hx with ⟨x1, x2, x3⟩ | ⟨x1, x2, k, s, x3, x4, x5⟩
  · have lx := (h.1 x x1).2.1
    rcases hy with ⟨y1, y2, y3⟩ | ⟨y1, y2, k', s', y3, y4, y5⟩
    · have ly := (h.1 y y1).2.1
      have e1 := (h.2.1 x lx x2).2.1
      have e2 := (h.2.1 y ly y2).2.1
      rw [← x3, y3, e2] at e1
      exact e1.symm
    · exact absurd (x3.symm.trans y5) ((h.2.2.1 s' (tr_up h y3).2.1 y4).2.2 x lx)
  · rcases hy with ⟨y1, y2, y3⟩ | ⟨y1, y2, k', s', y3, y4, y5⟩
    · have ly := (h.1 y y1).2.1
      exact absurd (y3.symm.trans x5) ((h.2.2.1 s (tr_up h x3).2.1 x4).2.2 y ly)
    · obtain ⟨a1, a2, a3⟩ := tr_up h x3
      obtain ⟨b1, b2, b3⟩ := tr_up h y3
      have e : s = s' := h.2.2.2.1 s s' a2 b2 (x5.symm.trans y5) x4
      subst e
      rcases Nat.lt_trichotomy k k' with hk | hk | hk
      · exact absurd (a1 ▸ x2) (b3 k hk)
      · subst hk
        rw [a1, b1]
      · exact absurd (b1 ▸ y2) (a3 k' hk)
theorem tr_no {A : Nat → Prop} {N : Nat} {f l n a : Nat → Nat} (h : TI A N f l n a) (h0 : 0 < N) (hf : f 0 ≠ 0) (x : Nat) : ¬ tr_Sc A f n a x (f 0) := by
  rintro (⟨x1, x2, x3⟩ | ⟨x1, x2, k, s, x3, x4, x5⟩)
  · have lx := (h.1 x x1).2.1
    have e1 := (h.2.1 x lx x2).2.1
    have e2 := (h.2.1 0 h0 hf).2.1
    rw [← x3, e2] at e1
    have := (h.1 x x1).1
    omega
  · exact (h.2.2.1 s (tr_up h x3).2.1 x4).2.2 0 h0 x5
/-- the way up to the root -/
def tr_Pa (A : Nat → Prop) (a : Nat → Nat) : Nat → List Nat → Prop
  | t, [] => A t ∧ a t = 0
  | t, p :: S => A t ∧ a t = p ∧ tr_Pa A a p S
theorem tr_pa {A : Nat → Prop} {a : Nat → Nat} : ∀ {t : Nat} {S : List Nat}, tr_Pa A a t S → A t
  | _, [], h => h.1
  | _, _ :: _, h => h.1
