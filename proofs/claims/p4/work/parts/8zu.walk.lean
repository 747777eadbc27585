/-! The walk through a tree: a node, then what lies below it, then what stands behind it. -/
/-- what lies above a node, innermost first, each with the children behind -/
abbrev Sk : Type := List (Nat × List Nat)
def Ob (K : Nat → List Nat) : Nat → Sk → Prop
  | v, [] => v = 0
  | v, (u, l) :: S => (∃ a, K u = a ++ v :: l) ∧ Ob K u S
/-- what is still to be visited behind a node -/
def Re (K : Nat → List Nat) : Sk → Fo → Prop
  | [], R => R = []
  | (_, l) :: S, R => ∃ A B, DnL K l A ∧ Re K S B ∧ R = upn (S.length + 1) A ++ B
/-- what is still to be visited from a node on -/
def Vi (K : Nat → List Nat) (v : Nat) (S : Sk) (R : Fo) : Prop := Ob K v S ∧ ∃ A B, Dn K v A ∧ Re K S B ∧ R = upn S.length A ++ B
section
variable {K : Nat → List Nat} {v u c n : Nat} {S : Sk} {R F : Fo} {l : List Nat}
theorem DnL.nil' {A : Fo} (h : DnL K [] A) : A = [] := by
  obtain ⟨k, h⟩ := h
  exact (Option.some.inj h).symm
theorem Vi.hd (h : Vi K v S R) : ∃ R', R = (S.length, v) :: R' ∧ (∀ c l, K v = c :: l → Vi K c ((v, l) :: S) R') ∧ (K v = [] → Re K S R') := by
  obtain ⟨hO, A, B, ⟨k, hA⟩, hB, rfl⟩ := h
  cases k with
  | zero => cases hA
  | succ k =>
    obtain ⟨G, hG, rfl⟩ := po_succ.mp hA
    refine ⟨upn (S.length + 1) G ++ B, ?_, fun c l e => ?_, fun e => ?_⟩
    · show (0 + S.length, v) :: (upn S.length (up1 G) ++ B) = _
      rw [upn_up, Nat.zero_add]
    · rw [e] at hG
      obtain ⟨a, b, h1, h2, rfl⟩ := poL_cons.mp hG
      refine ⟨⟨⟨[], e⟩, hO⟩, a, upn (S.length + 1) b ++ B, ⟨k, h1⟩, ⟨b, B, ⟨k, h2⟩, hB, rfl⟩, ?_⟩
      show _ = upn (S.length + 1) a ++ (upn (S.length + 1) b ++ B)
      rw [upn_app, List.append_assoc]
    · rw [e] at hG
      have : G = [] := (Option.some.inj hG).symm
      subst this
      exact hB
/-- a sibling behind -/
theorem Re.cn {l : List Nat} (hO : Ob K v ((u, c :: l) :: S)) (hR : Re K ((u, c :: l) :: S) R) : Vi K c ((u, l) :: S) R := by
  obtain ⟨⟨a, e⟩, hO⟩ := hO
  obtain ⟨A, B, ⟨k, hA⟩, hB, rfl⟩ := hR
  obtain ⟨x, y, h1, h2, rfl⟩ := poL_cons.mp hA
  refine ⟨⟨⟨a ++ [v], by rw [e, List.append_assoc]; rfl⟩, hO⟩, x, upn (S.length + 1) y ++ B, ⟨k, h1⟩, ⟨y, B, ⟨k, h2⟩, hB, rfl⟩, ?_⟩
  show _ = upn (S.length + 1) x ++ (upn (S.length + 1) y ++ B)
  rw [upn_app, List.append_assoc]
/-- none behind -/
theorem Re.nl (hR : Re K ((u, []) :: S) R) : Re K S R := by
  obtain ⟨A, B, hA, hB, rfl⟩ := hR
  rw [hA.nil']
  exact hB
theorem Vi.start (h : Dn K 0 F) : Vi K 0 [] F := ⟨rfl, F, [], h, rfl, by
  show F = upn 0 F ++ []
  rw [upn_0, List.append_nil]⟩
theorem Ob.lt (hn : 0 < n) (hk : ∀ i c, i < n → c ∈ K i → c < n) : ∀ {S : Sk} {v : Nat}, Ob K v S → v < n
  | [], v, h => by
    have : v = 0 := h
    omega
  | (u, l) :: S, v, h => by
    obtain ⟨⟨a, e⟩, h⟩ := h
    exact hk u v (Ob.lt hn hk h) (by rw [e]; exact List.mem_append_right _ List.mem_cons_self)
theorem Ob.nz (hn : 0 < n) (hk : ∀ i c, i < n → c ∈ K i → c < n) (h0 : ∀ i, i < n → 0 ∉ K i) : ∀ {S : Sk} {v : Nat}, Ob K v S → (v = 0 ↔ S = [])
  | [], v, h => ⟨fun _ => rfl, fun _ => h⟩
  | (u, l) :: S, v, h => by
    obtain ⟨⟨a, e⟩, h⟩ := h
    refine ⟨fun ev => ?_, (fun e => nomatch e)⟩
    have := h0 u (Ob.lt hn hk h)
    rw [e, ev] at this
    exact absurd (List.mem_append_right _ List.mem_cons_self) this
end
/-- the greatest depth -/
def mx : Fo → Nat
  | [] => 0
  | x :: F => max x.1 (mx F)
theorem mx_app : ∀ (F G : Fo), mx (F ++ G) = max (mx F) (mx G)
  | [], G => by
    show mx G = max 0 (mx G)
    omega
  | x :: F, G => by
    show max x.1 (mx (F ++ G)) = max (max x.1 (mx F)) (mx G)
    rw [mx_app F G]
    omega
theorem mx_one (d x : Nat) : mx [(d, x)] = d := by
  show max d 0 = d
  omega
/-- tables of what has been visited -/
def Tb (P : Fo) (a b c : Nat → Int32) : Prop := ∀ i d x, P[i]? = some (d, x) → a i = Int32.ofNat x ∧ b x = Int32.ofNat i ∧ c x = Int32.ofNat d
theorem Tb.nil {a b c : Nat → Int32} : Tb [] a b c := fun i d x h => by cases h
theorem Tb.snoc {P : Fo} {a b c a' b' c' : Nat → Int32} {d x : Nat} (h : Tb P a b c) (hx : x ∉ ids P) (h1 : ∀ i, i < P.length → a' i = a i) (h2 : ∀ y, y ≠ x → b' y = b y) (h3 : ∀ y, y ≠ x → c' y = c y) (e1 : a' P.length = Int32.ofNat x) (e2 : b' x = Int32.ofNat P.length) (e3 : c' x = Int32.ofNat d) : Tb (P ++ [(d, x)]) a' b' c' := fun i d2 y hy => by
  by_cases hi : i < P.length
  · rw [List.getElem?_append_left hi] at hy
    have hm : y ∈ ids P := List.mem_map.mpr ⟨(d2, y), List.mem_of_getElem? hy, rfl⟩
    have hne : y ≠ x := fun e => hx (e ▸ hm)
    rw [h1 i hi, h2 y hne, h3 y hne]
    exact h i d2 y hy
  · rw [List.getElem?_append_right (by omega)] at hy
    have hi2 : i - P.length = 0 := by
      cases hz : i - P.length with
      | zero => rfl
      | succ z =>
        rw [hz] at hy
        cases hy
    rw [hi2] at hy
    cases hy
    have : i = P.length := by omega
    rw [this]
    exact ⟨e1, e2, e3⟩
/-- a walk's list: no node twice, all below n -/
theorem ids_len {n : Nat} {F : Fo} (hn : (ids F).Nodup) (hl : ∀ x, x ∈ ids F → x < n) : F.length ≤ n := by
  have hsub : ∀ x, x ∈ ids F → x ∈ List.range n := fun x hx => List.mem_range.mpr (hl x hx)
  have q := List.Nodup.length_le_of_subset hn hsub
  rw [List.length_range] at q
  unfold ids at q
  rw [List.length_map] at q
  exact q
