/-! The class's tree in its row of cells. -/
def Io (o : Option Nat) : Int32 := match o with
  | none => -1
  | some x => Int32.ofNat x
/-- a relation's subject: an operand made before it -/
def Sxc (n : Nat) (D : Nat → TD) (C : Nat → Int32) : Prop := ∀ v, v < n → (D v).1 = 53 → (D v).2.2.2 = -1 ∨ ∃ s, s < v ∧ C (12 * v + 3) = Int32.ofNat s ∧ (D s).1 = 41 ∧ (D s).2.2.1 = (D v).2.2.2
def Cz (n : Nat) (D : Nat → TD) (K : Nat → List Nat) (C : Nat → Int32) : Prop :=
  (∀ i, i < n → (C (12 * i), C (12 * i + 1), C (12 * i + 2), if (D i).1 = 53 then (D i).2.2.2 else C (12 * i + 3)) = D i) ∧
  (∀ i, i < n → C (12 * i + 5) = Io (K i).head? ∧ C (12 * i + 6) = Io (K i).getLast? ∧ (C (12 * i + 8)).toInt = (K i).length) ∧
  (∀ i, i < n → ∀ l1 c l2, K i = l1 ++ c :: l2 → c < n ∧ C (12 * c + 4) = Int32.ofNat i ∧ C (12 * c + 7) = Io l2.head?) ∧
  ((∀ c, c < n → (∀ i, i < n → c ∉ K i) → C (12 * c + 7) = -1) ∧ Sxc n D C) ∧
  (∀ i, i < n → (K i).Nodup) ∧ (0 < n → C 9 = 0 ∧ (C 4 = -1 ∧ C 10 = -1) ∧ ∀ i, i < n → 0 ∉ K i)
def fK (K : Nat → List Nat) (i : Nat) (l : List Nat) : Nat → List Nat := fun j => if j = i then l else K j
def fD (D : Nat → TD) (i : Nat) (d : TD) : Nat → TD := fun j => if j = i then d else D j
theorem fK_eq {K : Nat → List Nat} {i : Nat} {l : List Nat} : fK K i l i = l := if_pos rfl
theorem fK_ne {K : Nat → List Nat} {i j : Nat} {l : List Nat} (h : j ≠ i) : fK K i l j = K j := if_neg h
theorem fD_eq {D : Nat → TD} {i : Nat} {d : TD} : fD D i d i = d := if_pos rfl
theorem fD_ne {D : Nat → TD} {i j : Nat} {d : TD} (h : j ≠ i) : fD D i d j = D j := if_neg h
theorem oN_inj {x y : Nat} (hx : x < 2147483648) (hy : y < 2147483648) (h : Int32.ofNat x = Int32.ofNat y) : x = y := by
  have := congrArg Int32.toInt h
  rw [on_eq hx, on_eq hy] at this
  omega
theorem Io_neg {o : Option Nat} (ho : ∀ x, o = some x → x < 2147483648) : (Io o).toInt < 0 ↔ o = none := by
  cases o with
  | none => exact ⟨fun _ => rfl, fun _ => by decide⟩
  | some x =>
    refine ⟨fun h => ?_, fun h => by cases h⟩
    have h' : (Int32.ofNat x).toInt < 0 := h
    rw [on_eq (ho x rfl)] at h'
    omega
section
variable {n : Nat} {D : Nat → TD} {K : Nat → List Nat} {C C' : Nat → Int32}
theorem Cz.kid (h : Cz n D K C) {i c : Nat} (hi : i < n) (hc : c ∈ K i) : c < n := by
  obtain ⟨l1, l2, e⟩ := List.append_of_mem hc
  exact (h.2.2.1 i hi l1 c l2 e).1
/-- one parent at most -/
theorem Cz.un (h : Cz n D K C) (hn : n < 2147483648) {i j c : Nat} (hi : i < n) (hj : j < n) (h1 : c ∈ K i) (h2 : c ∈ K j) : i = j := by
  obtain ⟨l1, l2, e⟩ := List.append_of_mem h1
  obtain ⟨l3, l4, e'⟩ := List.append_of_mem h2
  have a := (h.2.2.1 i hi l1 c l2 e).2.1
  have b := (h.2.2.1 j hj l3 c l4 e').2.1
  exact oN_inj (by omega) (by omega) (a.symm.trans b)
/-- a node made -/
theorem Cz.mk (h : Cz n D K C) {k v p : Int32} (h0 : ∀ x, x < 12 * n → C' x = C x) (h1 : C' (12 * n) = k) (h2 : C' (12 * n + 1) = v) (h3 : C' (12 * n + 2) = p) (h4 : C' (12 * n + 3) = -1) (h44 : C' (12 * n + 4) = -1) (h5 : C' (12 * n + 5) = -1) (h6 : C' (12 * n + 6) = -1) (h7 : C' (12 * n + 7) = -1) (h8 : C' (12 * n + 8) = 0) (h9 : C' (12 * n + 9) = 0) (h10 : C' (12 * n + 10) = -1) {e0 : Int32} (he : False ∨ e0 = -1) : Cz (n + 1) (fD D n (k, v, p, e0)) (fK K n []) C' := by
  obtain ⟨a1, a2, a3, ⟨a4, a7⟩, a5, a6⟩ := h
  have he0 : e0 = -1 := he.elim False.elim id
  have hcl : ∀ i j, i < n → j < 12 → C' (12 * i + j) = C (12 * i + j) := fun i j hi hj => h0 _ (by omega)
  refine ⟨fun i hi => ?_, fun i hi => ?_, fun i hi l1 c l2 e => ?_, ⟨fun c hc hd => ?_, fun v hv h53 => ?_⟩, fun i hi => ?_, fun _ => ?_⟩
  · by_cases e : i = n
    · subst e
      rw [fD_eq, h1, h2, h3, h4]
      rw [he0]
      by_cases q : k = 53
      · rw [if_pos q]
      · rw [if_neg q]
    · have hi' : i < n := by omega
      rw [fD_ne e, hcl i 1 hi' (by omega), hcl i 2 hi' (by omega), hcl i 3 hi' (by omega), show C' (12 * i) = C (12 * i) from h0 _ (by omega)]
      exact a1 i hi'
  · by_cases e : i = n
    · subst e
      rw [fK_eq, h5, h6, h8]
      exact ⟨rfl, rfl, rfl⟩
    · have hi' : i < n := by omega
      rw [fK_ne e, hcl i 5 hi' (by omega), hcl i 6 hi' (by omega), hcl i 8 hi' (by omega)]
      exact a2 i hi'
  · by_cases e2 : i = n
    · subst e2
      rw [fK_eq] at e
      exact absurd e (by simp)
    · have hi' : i < n := by omega
      rw [fK_ne e2] at e
      obtain ⟨b1, b2, b3⟩ := a3 i hi' l1 c l2 e
      rw [hcl c 4 b1 (by omega), hcl c 7 b1 (by omega)]
      exact ⟨by omega, b2, b3⟩
  · by_cases e : c = n
    · subst e
      exact h7
    · have hc' : c < n := by omega
      rw [hcl c 7 hc' (by omega)]
      refine a4 c hc' (fun i hi => ?_)
      have := hd i (by omega)
      rw [fK_ne (by omega)] at this
      exact this
  · by_cases e : v = n
    · subst e
      rw [fD_eq]
      exact Or.inl he0
    · have hv' : v < n := by omega
      rw [fD_ne e] at h53 ⊢
      rcases a7 v hv' h53 with q | ⟨s, s1, s2, s3, s4⟩
      · exact Or.inl q
      · refine Or.inr ⟨s, s1, ?_, ?_, ?_⟩
        · rw [hcl v 3 hv' (by omega)]
          exact s2
        · rw [fD_ne (by omega)]
          exact s3
        · rw [fD_ne (by omega)]
          exact s4
  · by_cases e : i = n
    · subst e
      rw [fK_eq]
      exact List.nodup_nil
    · rw [fK_ne e]
      exact a5 i (by omega)
  · by_cases e : n = 0
    · subst e
      refine ⟨h9, ⟨h44, h10⟩, fun i hi => ?_⟩
      rw [show i = 0 by omega, fK_eq]
      exact fun q => nomatch q
    · rw [show C' 9 = C 9 from h0 9 (by omega), show C' 4 = C 4 from h0 4 (by omega), show C' 10 = C 10 from h0 10 (by omega)]
      obtain ⟨z1, z2, z3⟩ := a6 (by omega)
      refine ⟨z1, z2, fun i hi => ?_⟩
      by_cases e2 : i = n
      · rw [e2, fK_eq]
        exact fun q => nomatch q
      · rw [fK_ne e2]
        exact z3 i (by omega)
/-- a cell of data set -/
theorem Cz.st (h : Cz n D K C) {i j : Nat} {x : Int32} (hi : i < n) (hj : j < 4) {d : TD} (hk : ((D i).1 ≠ 53 ∧ (D i).1 ≠ 41)) (hk' : (d.1 ≠ 53 ∧ d.1 ≠ 41)) (hd : ((if j = 0 then x else (D i).1), (if j = 1 then x else (D i).2.1), (if j = 2 then x else (D i).2.2.1), (if j = 3 then x else (D i).2.2.2)) = d) : Cz n (fD D i d) K (upd C (12 * i + j) x) := by
  obtain ⟨a1, a2, a3, ⟨a4, a7⟩, a5, a6⟩ := h
  have hne : ∀ y t, t < 12 → 4 ≤ t → upd C (12 * i + j) x (12 * y + t) = C (12 * y + t) := fun y t h1 h2 => upd_ne (by omega)
  refine ⟨fun y hy => ?_, fun y hy => ?_, fun y hy l1 c l2 e => ?_, ⟨fun c hc hd => ?_, fun v hv h53 => ?_⟩, a5, fun h0 => ?_⟩
  · by_cases e : y = i
    · subst e
      have a1y := a1 y hy
      rw [if_neg hk.1] at a1y
      rw [fD_eq, if_neg hk'.1, ← hd, ← a1y]
      have q : ∀ t, t < 4 → upd C (12 * y + j) x (12 * y + t) = if j = t then x else C (12 * y + t) := fun t ht => by
        by_cases c : j = t
        · rw [if_pos c, c, upd_eq]
        · rw [if_neg c, upd_ne (by omega)]
      have q0 := q 0 (by omega)
      rw [Nat.add_zero] at q0
      rw [q0, q 1 (by omega), q 2 (by omega), q 3 (by omega)]
    · rw [fD_ne e, upd_ne (by omega), upd_ne (by omega), upd_ne (by omega), upd_ne (by omega)]
      exact a1 y hy
  · rw [hne y 5 (by omega) (by omega), hne y 6 (by omega) (by omega), hne y 8 (by omega) (by omega)]
    exact a2 y hy
  · rw [hne c 4 (by omega) (by omega), hne c 7 (by omega) (by omega)]
    exact a3 y hy l1 c l2 e
  · rw [hne c 7 (by omega) (by omega)]
    exact a4 c hc hd
  · by_cases e : v = i
    · subst e
      rw [fD_eq] at h53
      exact absurd h53 hk'.1
    · rw [fD_ne e] at h53 ⊢
      rcases a7 v hv h53 with q | ⟨s, s1, s2, s3, s4⟩
      · exact Or.inl q
      · have hs : s ≠ i := fun q => hk.2 (q ▸ s3)
        refine Or.inr ⟨s, s1, ?_, ?_, ?_⟩
        · rw [upd_ne (by omega)]
          exact s2
        · rw [fD_ne hs]
          exact s3
        · rw [fD_ne hs]
          exact s4
  · have := hne 0 9 (by omega) (by omega)
    rw [show 12 * 0 + 9 = 9 by omega] at this
    have h44 := hne 0 4 (by omega) (by omega)
    rw [show 12 * 0 + 4 = 4 by omega] at h44
    have h10 := hne 0 10 (by omega) (by omega)
    rw [show 12 * 0 + 10 = 10 by omega] at h10
    rw [this, h44, h10]
    exact a6 h0
theorem Cz.st3 (h : Cz n D K C) {i s : Nat} {e : Int32} (hi : i < n) (hk : (D i).1 = 53) (hs : s < i) (h41 : (D s).1 = 41) (hp : (D s).2.2.1 = e) : Cz n (fD D i ((D i).1, (D i).2.1, (D i).2.2.1, e)) K (upd C (12 * i + 3) (Int32.ofNat s)) := by
  obtain ⟨a1, a2, a3, ⟨a4, a7⟩, a5, a6⟩ := h
  have hne : ∀ y t, t < 12 → t ≠ 3 → upd C (12 * i + 3) (Int32.ofNat s) (12 * y + t) = C (12 * y + t) := fun y t h1 h2 => upd_ne (by omega)
  refine ⟨fun y hy => ?_, fun y hy => ?_, fun y hy l1 c l2 e => ?_, ⟨fun c hc hd => ?_, fun v hv h53 => ?_⟩, a5, fun h0 => ?_⟩
  · have q0 : upd C (12 * i + 3) (Int32.ofNat s) (12 * y) = C (12 * y) := hne y 0 (by omega) (by omega)
    rw [q0, hne y 1 (by omega) (by omega), hne y 2 (by omega) (by omega)]
    by_cases e : y = i
    · subst e
      have := a1 y hy
      rw [if_pos hk] at this
      rw [fD_eq, if_pos hk]
      rw [show C (12 * y) = (D y).1 from congrArg (fun x => x.1) this, show C (12 * y + 1) = (D y).2.1 from congrArg (fun x => x.2.1) this, show C (12 * y + 2) = (D y).2.2.1 from congrArg (fun x => x.2.2.1) this]
    · rw [fD_ne e, upd_ne (by omega)]
      exact a1 y hy
  · rw [hne y 5 (by omega) (by omega), hne y 6 (by omega) (by omega), hne y 8 (by omega) (by omega)]
    exact a2 y hy
  · rw [hne c 4 (by omega) (by omega), hne c 7 (by omega) (by omega)]
    exact a3 y hy l1 c l2 e
  · rw [hne c 7 (by omega) (by omega)]
    exact a4 c hc hd
  · by_cases ev : v = i
    · subst ev
      refine Or.inr ⟨s, hs, upd_eq, ?_, ?_⟩
      · rw [fD_ne (by omega)]
        exact h41
      · rw [fD_ne (by omega), fD_eq]
        exact hp
    · rw [fD_ne ev] at h53 ⊢
      rcases a7 v hv h53 with q | ⟨t, s1, s2, s3, s4⟩
      · exact Or.inl q
      · have ht : t ≠ i := fun q => by rw [q, hk] at s3; exact absurd s3 (by decide)
        refine Or.inr ⟨t, s1, ?_, ?_, ?_⟩
        · rw [upd_ne (by omega)]
          exact s2
        · rw [fD_ne ht]
          exact s3
        · rw [fD_ne ht]
          exact s4
  · have := hne 0 9 (by omega) (by omega)
    rw [show 12 * 0 + 9 = 9 by omega] at this
    have h44 := hne 0 4 (by omega) (by omega)
    rw [show 12 * 0 + 4 = 4 by omega] at h44
    have h10 := hne 0 10 (by omega) (by omega)
    rw [show 12 * 0 + 10 = 10 by omega] at h10
    rw [this, h44, h10]
    exact a6 h0
/-- a node hung below another -/
theorem Cz.ap (h : Cz n D K C) (hn : n < 2147483648) {i c : Nat} (hi : i < n) (hc : c < n) (hc0 : 0 < c) (hd : ∀ j, j < n → c ∉ K j) {C1 : Nat → Int32} (h1 : (K i = [] ∧ C1 = upd C (12 * i + 5) (Int32.ofNat c)) ∨ ∃ l y, K i = l ++ [y] ∧ C1 = upd C (12 * y + 7) (Int32.ofNat c)) {z : Int32} (hz : z.toInt = ((K i).length : Int) + 1) : Cz n D (fK K i (K i ++ [c])) (upd (upd (upd C1 (12 * i + 6) (Int32.ofNat c)) (12 * i + 8) z) (12 * c + 4) (Int32.ofNat i)) := by
  have hun := fun {a b x : Nat} => Cz.un (i := a) (j := b) (c := x) h hn
  obtain ⟨a1, a2, a3, ⟨a4, a7⟩, a5, a6⟩ := h

  have hC1 : ∀ y t, t < 12 → (t ≠ 5 ∨ y ≠ i) → (t ≠ 7 ∨ ∀ l, K i ≠ l ++ [y]) → C1 (12 * y + t) = C (12 * y + t) := by
    intro y t ht h5 h7
    rcases h1 with ⟨-, rfl⟩ | ⟨l, x, e, rfl⟩
    · exact upd_ne (by omega)
    · refine upd_ne (fun e2 => ?_)
      have : y = x ∧ t = 7 := by omega
      rcases h7 with h7 | h7
      · omega
      · exact h7 l (by rw [this.1]; exact e)
  have hC : ∀ y t, t < 12 → (t ≠ 5 ∨ y ≠ i) → (t ≠ 7 ∨ ∀ l, K i ≠ l ++ [y]) → (t ≠ 6 ∨ y ≠ i) → (t ≠ 8 ∨ y ≠ i) → (t ≠ 4 ∨ y ≠ c) → (upd (upd (upd C1 (12 * i + 6) (Int32.ofNat c)) (12 * i + 8) z) (12 * c + 4) (Int32.ofNat i)) (12 * y + t) = C (12 * y + t) := by
    intro y t ht h5 h7 h6 h8 h4
    rw [upd_ne (by omega), upd_ne (by omega), upd_ne (by omega)]
    exact hC1 y t ht h5 h7
  refine ⟨fun y hy => ?_, fun y hy => ?_, fun y hy l1 x l2 e => ?_, ⟨fun x hx hdx => ?_, fun v hv h53 => ?_⟩, fun y hy => ?_, fun h0 => ?_⟩
  · have q : ∀ t, t < 4 → (upd (upd (upd C1 (12 * i + 6) (Int32.ofNat c)) (12 * i + 8) z) (12 * c + 4) (Int32.ofNat i)) (12 * y + t) = C (12 * y + t) := fun t (ht : t < 4) => hC y t (by omega) (Or.inl (by omega)) (Or.inl (by omega)) (Or.inl (by omega)) (Or.inl (by omega)) (Or.inl (by omega))
    have q0 : (upd (upd (upd C1 (12 * i + 6) (Int32.ofNat c)) (12 * i + 8) z) (12 * c + 4) (Int32.ofNat i)) (12 * y) = C (12 * y) := q 0 (by omega)
    rw [q0, q 1 (by omega), q 2 (by omega), q 3 (by omega)]
    exact a1 y hy
  · by_cases e : y = i
    · subst e
      rw [fK_eq, List.getLast?_append, List.head?_append]
      refine ⟨?_, ?_, ?_⟩
      · rw [upd_ne (by omega), upd_ne (by omega), upd_ne (by omega)]
        rcases h1 with ⟨e, rfl⟩ | ⟨l, x, e, rfl⟩
        · rw [upd_eq, e]
          rfl
        · rw [upd_ne (by omega), (a2 y hy).1, e]
          cases l <;> rfl
      · rw [upd_ne (by omega), upd_ne (by omega), upd_eq]
        rfl
      · rw [upd_ne (by omega), upd_eq, hz, List.length_append]
        rfl
    · rw [fK_ne e, hC y 5 (by omega) (by omega) (by omega) (by omega) (by omega) (by omega), hC y 6 (by omega) (by omega) (by omega) (by omega) (by omega) (by omega), hC y 8 (by omega) (by omega) (by omega) (by omega) (by omega) (by omega)]
      exact a2 y hy
  · by_cases ey : y = i
    · subst ey
      rw [fK_eq] at e
      rcases List.append_eq_append_iff.mp e with ⟨m', e1, e2⟩ | ⟨m', e1, e2⟩
      · skip
        cases m' with
        | nil =>
          rw [List.nil_append] at e2
          injection e2 with e3 e4
          subst e3
          rw [← e4]
          refine ⟨hc, upd_eq, ?_⟩
          have hne : ∀ l, K y ≠ l ++ [c] := fun l q => hd y hy (by rw [q]; exact List.mem_append_right _ List.mem_cons_self)
          rw [hC c 7 (by omega) (by omega) (Or.inr hne) (by omega) (by omega) (by omega)]
          exact a4 c hc hd
        | cons b m' =>
          exfalso
          have := congrArg List.length e2
          simp at this
      · skip
        cases m' with
        | nil =>
          rw [List.nil_append] at e2
          injection e2 with e3 e4
          subst e3
          rw [e4]
          refine ⟨hc, upd_eq, ?_⟩
          have hne : ∀ l, K y ≠ l ++ [x] := fun l q => hd y hy (by rw [q]; exact List.mem_append_right _ List.mem_cons_self)
          rw [hC x 7 (by omega) (by omega) (Or.inr hne) (by omega) (by omega) (by omega)]
          exact a4 x hc hd
        | cons b m' =>
          rw [List.cons_append] at e2
          injection e2 with e3 e4
          subst e3
          obtain ⟨b1, b2, b3⟩ := a3 y hy l1 x m' e1
          have hxc : x ≠ c := fun q => hd y hy (by rw [← q, e1]; exact List.mem_append_right _ List.mem_cons_self)
          refine ⟨b1, ?_, ?_⟩
          · rw [hC x 4 (by omega) (by omega) (by omega) (by omega) (by omega) (Or.inr hxc)]
            exact b2
          · rw [e4]
            cases m' with
            | nil =>
              rcases h1 with ⟨q, -⟩ | ⟨l, u, q, rfl⟩
              · rw [q] at e1
                exact absurd e1.symm (by simp)
              · have hu : u = x := by
                  rw [e1] at q
                  have := congrArg List.getLast? q
                  simp at this
                  exact this.symm
                subst hu
                rw [upd_ne (by omega), upd_ne (by omega), upd_ne (by omega), upd_eq]
                rfl
            | cons b m' =>
              have hne : ∀ l, K y ≠ l ++ [x] := fun l q => by
                have hnd := a5 y hy
                rw [e1] at hnd q
                have q2 := congrArg List.getLast? q
                rw [List.getLast?_append, List.getLast?_append] at q2
                have q4 : (x :: b :: m').getLast? = some x := by
                  cases hz : (x :: b :: m').getLast? with
                  | none => exact absurd (List.getLast?_eq_none_iff.mp hz) (by simp)
                  | some u =>
                    rw [hz] at q2
                    have q5 : some u = some x := q2
                    exact q5
                rw [List.getLast?_cons_cons] at q4
                have q3 : x ∈ b :: m' := List.mem_of_getLast? q4
                exact (List.nodup_cons.mp (List.nodup_append.mp hnd).2.1).1 q3
              rw [hC x 7 (by omega) (by omega) (Or.inr hne) (by omega) (by omega) (by omega)]
              exact b3
    · rw [fK_ne ey] at e
      obtain ⟨b1, b2, b3⟩ := a3 y hy l1 x l2 e
      have hxy : x ∈ K y := by rw [e]; exact List.mem_append_right _ List.mem_cons_self
      have hxc : x ≠ c := fun q => hd y hy (q ▸ hxy)
      have hne : ∀ l, K i ≠ l ++ [x] := fun l q => ey (hun hy hi hxy (by rw [q]; exact List.mem_append_right _ List.mem_cons_self))
      refine ⟨b1, ?_, ?_⟩
      · rw [hC x 4 (by omega) (by omega) (by omega) (by omega) (by omega) (Or.inr hxc)]
        exact b2
      · rw [hC x 7 (by omega) (by omega) (Or.inr hne) (by omega) (by omega) (by omega)]
        exact b3
  · have hd' : ∀ j, j < n → x ∉ K j := fun j hj q => by
      refine hdx j hj ?_
      by_cases e : j = i
      · rw [e, fK_eq]
        rw [e] at q
        exact List.mem_append_left _ q
      · rw [fK_ne e]
        exact q
    have hne : ∀ l, K i ≠ l ++ [x] := fun l q => hd' i hi (by rw [q]; exact List.mem_append_right _ List.mem_cons_self)
    rw [hC x 7 (by omega) (by omega) (Or.inr hne) (by omega) (by omega) (by omega)]
    exact a4 x hx hd'
  · rcases a7 v hv h53 with q | ⟨s, s1, s2, s3, s4⟩
    · exact Or.inl q
    · refine Or.inr ⟨s, s1, ?_, s3, s4⟩
      rw [hC v 3 (by omega) (by omega) (by omega) (by omega) (by omega) (by omega)]
      exact s2
  · by_cases e : y = i
    · subst e
      rw [fK_eq]
      refine List.nodup_append.mpr ⟨a5 y hy, List.nodup_cons.mpr ⟨(fun q => nomatch q), List.nodup_nil⟩, fun a ha b hb q => ?_⟩
      rw [List.mem_singleton.mp hb] at q
      exact hd y hy (q ▸ ha)
    · rw [fK_ne e]
      exact a5 y hy
  · have := hC 0 9 (by omega) (by omega) (by omega) (by omega) (by omega) (by omega)
    rw [show 12 * 0 + 9 = 9 by omega] at this
    have h44 := hC 0 4 (by omega) (by omega) (by omega) (by omega) (by omega) (by omega)
    rw [show 12 * 0 + 4 = 4 by omega] at h44
    have h10 := hC 0 10 (by omega) (by omega) (by omega) (by omega) (by omega) (by omega)
    rw [show 12 * 0 + 10 = 10 by omega] at h10
    rw [this, h44, h10]
    obtain ⟨z1, z2, z3⟩ := a6 h0
    refine ⟨z1, z2, fun y hy => ?_⟩
    by_cases e : y = i
    · rw [e, fK_eq]
      intro q
      rcases List.mem_append.mp q with q | q
      · exact z3 i hi q
      · have := List.mem_singleton.mp q
        omega
    · rw [fK_ne e]
      exact z3 y hy
end
