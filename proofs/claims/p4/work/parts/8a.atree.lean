/-! Trees as lists of (depth, node), first a node, then its children. -/
abbrev Fo : Type := List (Nat × Nat)
def up1 (F : Fo) : Fo := F.map fun x => (x.1 + 1, x.2)
def ids (F : Fo) : List Nat := F.map fun x => x.2
theorem up1_ids (F : Fo) : ids (up1 F) = ids F := by
  unfold ids up1
  rw [List.map_map]
  rfl
theorem ids_app (F G : Fo) : ids (F ++ G) = ids F ++ ids G := List.map_append
theorem up1_app (F G : Fo) : up1 (F ++ G) = up1 F ++ up1 G := List.map_append
def poL (f : Nat → Option Fo) : List Nat → Option Fo
  | [] => some []
  | x :: l => match f x, poL f l with
    | some a, some b => some (a ++ b)
    | _, _ => none
def po (K : Nat → List Nat) : Nat → Nat → Option Fo
  | 0, _ => none
  | k + 1, v => match poL (po K k) (K v) with
    | some F => some ((0, v) :: up1 F)
    | none => none
theorem poL_cons {f : Nat → Option Fo} {x : Nat} {l : List Nat} {F : Fo} : poL f (x :: l) = some F ↔ ∃ a b, f x = some a ∧ poL f l = some b ∧ F = a ++ b := by
  show (match f x, poL f l with
    | some a, some b => some (a ++ b)
    | _, _ => none) = some F ↔ _
  cases h1 : f x with
  | none => exact ⟨(fun e => nomatch e), (fun ⟨a, b, e, _⟩ => nomatch e)⟩
  | some a =>
    cases h2 : poL f l with
    | none => exact ⟨(fun e => nomatch e), (fun ⟨a, b, _, e, _⟩ => nomatch e)⟩
    | some b =>
      refine ⟨fun e => ⟨a, b, rfl, rfl, (Option.some.inj e).symm⟩, fun ⟨a', b', e1, e2, e3⟩ => ?_⟩
      cases e1
      cases e2
      rw [e3]
theorem po_succ {K : Nat → List Nat} {k v : Nat} {F : Fo} : po K (k + 1) v = some F ↔ ∃ G, poL (po K k) (K v) = some G ∧ F = (0, v) :: up1 G := by
  show (match poL (po K k) (K v) with
    | some F => some ((0, v) :: up1 F)
    | none => none) = some F ↔ _
  cases h : poL (po K k) (K v) with
  | none => exact ⟨(fun e => nomatch e), (fun ⟨G, e, _⟩ => nomatch e)⟩
  | some G =>
    refine ⟨fun e => ⟨G, rfl, (Option.some.inj e).symm⟩, fun ⟨G', e1, e2⟩ => ?_⟩
    cases e1
    rw [e2]
theorem poL_mono {f g : Nat → Option Fo} : ∀ {l : List Nat} {F : Fo}, (∀ x F, x ∈ l → f x = some F → g x = some F) → poL f l = some F → poL g l = some F
  | [], _, _, h => h
  | x :: l, F, hm, h => by
    obtain ⟨a, b, h1, h2, h3⟩ := poL_cons.mp h
    exact poL_cons.mpr ⟨a, b, hm x a List.mem_cons_self h1, poL_mono (fun y G hy e => hm y G (List.mem_cons_of_mem _ hy) e) h2, h3⟩
theorem poL_app {f : Nat → Option Fo} : ∀ {l l' : List Nat} {F G : Fo}, poL f l = some F → poL f l' = some G → poL f (l ++ l') = some (F ++ G)
  | [], l', F, G, h1, h2 => by
    cases h1
    exact h2
  | x :: l, l', F, G, h1, h2 => by
    obtain ⟨a, b, e1, e2, e3⟩ := poL_cons.mp h1
    refine poL_cons.mpr ⟨a, b ++ G, e1, poL_app e2 h2, ?_⟩
    rw [e3, List.append_assoc]
theorem po_up {K : Nat → List Nat} : ∀ {k v : Nat} {F : Fo}, po K k v = some F → po K (k + 1) v = some F
  | 0, _, _, h => nomatch h
  | k + 1, v, F, h => by
    obtain ⟨G, h1, h2⟩ := po_succ.mp h
    exact po_succ.mpr ⟨G, poL_mono (fun x F _ e => po_up e) h1, h2⟩
theorem po_le {K : Nat → List Nat} {k k' v : Nat} {F : Fo} (h : po K k v = some F) (hk : k ≤ k') : po K k' v = some F := by
  induction hk with
  | refl => exact h
  | step _ ih => exact po_up ih
/-- what lies below v -/
def Dn (K : Nat → List Nat) (v : Nat) (F : Fo) : Prop := ∃ k, po K k v = some F
def DnL (K : Nat → List Nat) (l : List Nat) (F : Fo) : Prop := ∃ k, poL (po K k) l = some F
theorem DnL.nil {K : Nat → List Nat} : DnL K [] [] := ⟨0, rfl⟩
theorem DnL.app {K : Nat → List Nat} {l l' : List Nat} {F G : Fo} (h : DnL K l F) (h' : DnL K l' G) : DnL K (l ++ l') (F ++ G) := by
  obtain ⟨k, h⟩ := h
  obtain ⟨k', h'⟩ := h'
  refine ⟨max k k', poL_app (poL_mono (fun x F _ e => po_le e (Nat.le_max_left k k')) h) (poL_mono (fun x F _ e => po_le e (Nat.le_max_right k k')) h')⟩
theorem DnL.one {K : Nat → List Nat} {v : Nat} {F : Fo} (h : Dn K v F) : DnL K [v] F := by
  obtain ⟨k, h⟩ := h
  exact ⟨k, poL_cons.mpr ⟨F, [], h, rfl, (List.append_nil F).symm⟩⟩
theorem Dn.node {K : Nat → List Nat} {v : Nat} {F : Fo} (h : DnL K (K v) F) : Dn K v ((0, v) :: up1 F) := by
  obtain ⟨k, h⟩ := h
  exact ⟨k + 1, po_succ.mpr ⟨F, h, rfl⟩⟩
theorem poL_loc {f g : Nat → Option Fo} {K K' : Nat → List Nat} (hf : ∀ x F, f x = some F → (∀ y, y ∈ ids F → K' y = K y) → g x = some F) : ∀ {l : List Nat} {F : Fo}, poL f l = some F → (∀ y, y ∈ ids F → K' y = K y) → poL g l = some F
  | [], _, h, _ => h
  | x :: l, F, h, hk => by
    obtain ⟨a, b, h1, h2, h3⟩ := poL_cons.mp h
    rw [h3, ids_app] at hk
    exact poL_cons.mpr ⟨a, b, hf x a h1 (fun y hy => hk y (List.mem_append_left _ hy)), poL_loc hf h2 (fun y hy => hk y (List.mem_append_right _ hy)), h3⟩
theorem po_loc {K K' : Nat → List Nat} : ∀ {k v : Nat} {F : Fo}, po K k v = some F → (∀ y, y ∈ ids F → K' y = K y) → po K' k v = some F
  | 0, _, _, h, _ => nomatch h
  | k + 1, v, F, h, hk => by
    obtain ⟨G, h1, h2⟩ := po_succ.mp h
    have e : ids F = v :: ids G := by
      rw [h2]
      show v :: ids (up1 G) = _
      rw [up1_ids]
    rw [e] at hk
    refine po_succ.mpr ⟨G, ?_, h2⟩
    rw [hk v List.mem_cons_self]
    exact poL_loc (K := K) (K' := K') (fun x F hx hy => po_loc hx hy) h1 (fun y hy => hk y (List.mem_cons_of_mem _ hy))
theorem Dn.loc {K K' : Nat → List Nat} {v : Nat} {F : Fo} (h : Dn K v F) (hk : ∀ y, y ∈ ids F → K' y = K y) : Dn K' v F := by
  obtain ⟨k, h⟩ := h
  exact ⟨k, po_loc h hk⟩
theorem DnL.loc {K K' : Nat → List Nat} {l : List Nat} {F : Fo} (h : DnL K l F) (hk : ∀ y, y ∈ ids F → K' y = K y) : DnL K' l F := by
  obtain ⟨k, h⟩ := h
  exact ⟨k, poL_loc (K := K) (K' := K') (fun x F hx hy => po_loc hx hy) h hk⟩
theorem po_hd {K : Nat → List Nat} {k v : Nat} {F : Fo} (h : po K k v = some F) : ∃ G, F = (0, v) :: up1 G := by
  cases k with
  | zero => cases h
  | succ k =>
    obtain ⟨G, -, h2⟩ := po_succ.mp h
    exact ⟨G, h2⟩
/-- what a node holds -/
abbrev TD : Type := Int32 × Int32 × Int32 × Int32
abbrev Tf : Type := List (Nat × TD)
def upT (T : Tf) : Tf := T.map fun x => (x.1 + 1, x.2)
def tr (D : Nat → TD) (F : Fo) : Tf := F.map fun x => (x.1, D x.2)
def nd (d : TD) (T : Tf) : Tf := (0, d) :: upT T
theorem tr_app (D : Nat → TD) (F G : Fo) : tr D (F ++ G) = tr D F ++ tr D G := List.map_append
theorem trf_up (D : Nat → TD) (F : Fo) : tr D (up1 F) = upT (tr D F) := by
  unfold tr up1 upT
  rw [List.map_map, List.map_map]
  rfl
theorem tr_loc {D D' : Nat → TD} {F : Fo} (h : ∀ y, y ∈ ids F → D' y = D y) : tr D' F = tr D F := by
  unfold tr
  refine List.map_congr_left (fun x hx => ?_)
  rw [h x.2 (List.mem_map_of_mem hx)]
/-- a subtree that lies within [a, b) -/
def Tr (K : Nat → List Nat) (D : Nat → TD) (a b : Nat) (v : Nat) (T : Tf) : Prop := ∃ F, Dn K v F ∧ T = tr D F ∧ (∀ x, x ∈ ids F → a ≤ x ∧ x < b) ∧ (ids F).Nodup ∧ a + F.length = b
def TrL (K : Nat → List Nat) (D : Nat → TD) (a b : Nat) (l : List Nat) (T : Tf) : Prop := ∃ F, DnL K l F ∧ T = tr D F ∧ (∀ x, x ∈ ids F → a ≤ x ∧ x < b) ∧ (ids F).Nodup ∧ a + F.length = b
section
variable {K K' : Nat → List Nat} {D D' : Nat → TD} {a b c v : Nat} {l l' : List Nat} {T T' : Tf}
theorem TrL.nil : TrL K D a a [] [] := ⟨[], DnL.nil, rfl, fun x hx => (nomatch hx), List.nodup_nil, rfl⟩
theorem TrL.nil' (h : a = b) : TrL K D a b [] [] := by
  rw [h]
  exact TrL.nil
theorem up1_len (F : Fo) : (up1 F).length = F.length := List.length_map _
theorem TrL.one (h : Tr K D a b v T) : TrL K D a b [v] T := by
  obtain ⟨F, h1, h2, h3, h4, h5⟩ := h
  exact ⟨F, DnL.one h1, h2, h3, h4, h5⟩
theorem DnL.one' {F : Fo} (h : Dn K v F) : DnL K [v] F := DnL.one h
theorem TrL.app (h : TrL K D a b l T) (h' : TrL K D b c l' T') (hab : a ≤ b) (hbc : b ≤ c) : TrL K D a c (l ++ l') (T ++ T') := by
  obtain ⟨F, h1, h2, h3, h4, h5⟩ := h
  obtain ⟨F', g1, g2, g3, g4, g5⟩ := h'
  refine ⟨F ++ F', h1.app g1, by rw [tr_app, h2, g2], fun x hx => ?_, ?_, by rw [List.length_append]; omega⟩
  · rw [ids_app] at hx
    rcases List.mem_append.mp hx with e | e
    · have := h3 x e
      omega
    · have := g3 x e
      omega
  · rw [ids_app]
    refine List.nodup_append.mpr ⟨h4, g4, fun x hx y hy e => ?_⟩
    have e1 := h3 x hx
    have e2 := g3 y hy
    omega
/-- what is changed lies elsewhere -/
theorem Tr.loc (h : Tr K D a b v T) (hk : ∀ y, a ≤ y → y < b → K' y = K y ∧ D' y = D y) : Tr K' D' a b v T := by
  obtain ⟨F, h1, h2, h3, h4⟩ := h
  refine ⟨F, h1.loc (fun y hy => (hk y (h3 y hy).1 (h3 y hy).2).1), ?_, h3, h4⟩
  rw [h2]
  exact (tr_loc (fun y hy => (hk y (h3 y hy).1 (h3 y hy).2).2)).symm
theorem TrL.loc (h : TrL K D a b l T) (hk : ∀ y, a ≤ y → y < b → K' y = K y ∧ D' y = D y) : TrL K' D' a b l T := by
  obtain ⟨F, h1, h2, h3, h4⟩ := h
  refine ⟨F, h1.loc (fun y hy => (hk y (h3 y hy).1 (h3 y hy).2).1), ?_, h3, h4⟩
  rw [h2]
  exact (tr_loc (fun y hy => (hk y (h3 y hy).1 (h3 y hy).2).2)).symm
/-- a node whose children lie behind it -/
theorem Tr.node (h : TrL K D (v + 1) b (K v) T) (hb : v < b) : Tr K D v b v (nd (D v) T) := by
  obtain ⟨F, h1, h2, h3, h4, h5⟩ := h
  have e : ids ((0, v) :: up1 F) = v :: ids F := by
    show v :: ids (up1 F) = _
    rw [up1_ids]
  refine ⟨(0, v) :: up1 F, Dn.node h1, ?_, fun x hx => ?_, ?_, by rw [List.length_cons, up1_len]; omega⟩
  · rw [h2]
    show _ = (0, D v) :: tr D (up1 F)
    rw [trf_up]
    rfl
  · rw [e] at hx
    rcases List.mem_cons.mp hx with rfl | hx
    · omega
    · have := h3 x hx
      omega
  · rw [e]
    refine List.nodup_cons.mpr ⟨fun hx => ?_, h4⟩
    have := h3 v hx
    omega
/-- a node made behind its first child -/
theorem Tr.wrap {u : Nat} (hu : Tr K D a v u T) (h : TrL K D (v + 1) b l T') (hK : K v = u :: l) (ha : a ≤ v) (hb : v < b) : Tr K D a b v (nd (D v) (T ++ T')) := by
  obtain ⟨F, h1, h2, h3, h4, h5⟩ := hu
  obtain ⟨F', g1, g2, g3, g4, g5⟩ := h
  have e : ids ((0, v) :: up1 (F ++ F')) = v :: (ids F ++ ids F') := by
    show v :: ids (up1 (F ++ F')) = _
    rw [up1_ids, ids_app]
  have hd : DnL K (K v) (F ++ F') := by
    rw [hK]
    exact DnL.app (l := [u]) (DnL.one h1) g1
  refine ⟨(0, v) :: up1 (F ++ F'), Dn.node hd, ?_, fun x hx => ?_, ?_, by rw [List.length_cons, up1_len, List.length_append]; omega⟩
  · rw [h2, g2]
    show _ = (0, D v) :: tr D (up1 (F ++ F'))
    rw [trf_up, tr_app]
    rfl
  · rw [e] at hx
    rcases List.mem_cons.mp hx with rfl | hx
    · omega
    · rcases List.mem_append.mp hx with hx | hx
      · have := h3 x hx
        omega
      · have := g3 x hx
        omega
  · rw [e]
    refine List.nodup_cons.mpr ⟨fun hx => ?_, List.nodup_append.mpr ⟨h4, g4, fun x hx y hy e => ?_⟩⟩
    · rcases List.mem_append.mp hx with hx | hx
      · have := h3 v hx
        omega
      · have := g3 v hx
        omega
    · have e1 := h3 x hx
      have e2 := g3 y hy
      omega
end
