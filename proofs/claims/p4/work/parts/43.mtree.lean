/-! The model's nodes: make, attach, child. -/
/-- one place of an array written -/
def aw (r : a2_A) (q i : Nat) (x : Int32) : a2_A := a2_ua r q ((r q).1, upd (r q).2 i x)
theorem aw_len (r : a2_A) (q i : Nat) (x : Int32) (p : Nat) : (aw r q i x p).1 = (r p).1 := by
  unfold aw a2_ua
  by_cases h : p = q
  · rw [if_pos h, h]
  · rw [if_neg h]
theorem aw_ne {r : a2_A} {q i p : Nat} {x : Int32} (h : p ≠ q) : aw r q i x p = r p := if_neg h
theorem aw_eq {r : a2_A} {q i : Nat} {x : Int32} : aw r q i x q = ((r q).1, upd (r q).2 i x) := if_pos rfl
/-- the nodes' rows have their lengths -/
def MN (r : a2_A) : Prop := (r fM_kind).1 = 8000 ∧ (r fM_value).1 = 8000 ∧ (r fM_place).1 = 8000 ∧ (r fM_extra).1 = 8000 ∧ (r fM_first).1 = 8000 ∧ (r fM_last).1 = 8000 ∧ (r fM_next).1 = 8000 ∧ (r fM_above).1 = 8000
theorem MN.aw {r : a2_A} (h : MN r) (q i : Nat) (x : Int32) : MN (aw r q i x) := by
  simp only [MN, aw_len]
  exact h
/-- a new node t -/
def MmkR (t : Nat) (k v p : Int32) (r : a2_A) : a2_A := aw (aw (aw (aw (aw (aw (aw (aw r fM_kind t k) fM_value t v) fM_place t p) fM_extra t 0) fM_first t 0) fM_last t 0) fM_next t 0) fM_above t 0
def MmkG (g : a2_G) : a2_G := upd g fM_nodes (g fM_nodes + 1)
theorem MN.mk {r : a2_A} (h : MN r) (t : Nat) (k v p : Int32) : MN (MmkR t k v p r) := ((((((((h.aw _ _ _).aw _ _ _).aw _ _ _).aw _ _ _).aw _ _ _).aw _ _ _).aw _ _ _).aw _ _ _)
theorem M_make (L : Nat) (xs : Nat → Int32) (m d : Nat) {k v p : Int32} {g : a2_G} {r : a2_A} (h0 : 0 ≤ (g fM_nodes).toInt) (h1 : (g fM_nodes).toInt < 8000) (hN : MN r) : ev L xs (m + 1) (d + 1) nM_make [.ref cM, .int k, .int v, .int p] g r = some (.inl (some (.int (g fM_nodes))), MmkG g, MmkR (g fM_nodes).toInt.toNat k v p r) := by
  obtain ⟨n1, n2, n3, n4, n5, n6, n7, n8⟩ := hN
  rw [qM_make]
  simp only [inr_eq, nc_eq]
  rw [if_pos ⟨h0, by omega⟩, if_pos ⟨h0, by omega⟩, if_pos ⟨h0, by omega⟩, if_pos ⟨h0, by omega⟩, if_pos ⟨h0, by omega⟩, if_pos ⟨h0, by omega⟩, if_pos ⟨h0, by omega⟩, if_pos ⟨h0, by omega⟩]
  rfl
/-- t behind the children of a -/
def MatR (a t : Int32) (r : a2_A) : a2_A :=
  aw (if (r fM_first).2 a.toInt.toNat = 0 then aw (aw (aw r fM_above t.toInt.toNat a) fM_next t.toInt.toNat 0) fM_first a.toInt.toNat t else aw (aw (aw r fM_above t.toInt.toNat a) fM_next t.toInt.toNat 0) fM_next ((r fM_last).2 a.toInt.toNat).toInt.toNat t) fM_last a.toInt.toNat t
theorem MN.at {r : a2_A} (h : MN r) (a t : Int32) : MN (MatR a t r) := by
  unfold MatR
  refine MN.aw ?_ _ _ _
  split
  · exact ((h.aw _ _ _).aw _ _ _).aw _ _ _
  · exact ((h.aw _ _ _).aw _ _ _).aw _ _ _
theorem M_attach (L : Nat) (xs : Nat → Int32) (m d : Nat) {a t : Int32} {g : a2_G} {r : a2_A} (ha : 0 ≤ a.toInt ∧ a.toInt < 8000) (ht : 0 ≤ t.toInt ∧ t.toInt < 8000) (hl : ¬ (r fM_first).2 a.toInt.toNat = 0 → 0 ≤ ((r fM_last).2 a.toInt.toNat).toInt ∧ ((r fM_last).2 a.toInt.toNat).toInt < 8000) (hN : MN r) : ev L xs (m + 1) (d + 1) nM_attach [.ref cM, .int a, .int t] g r = some (.inl none, g, MatR a t r) := by
  obtain ⟨n1, n2, n3, n4, n5, n6, n7, n8⟩ := hN
  rw [qM_attach]
  simp only [inr_eq, nc_eq, c2_ne, BM_attach_45, MatR]
  rw [if_pos ⟨ht.1, by omega⟩, if_pos ⟨ht.1, by omega⟩, if_pos ⟨ha.1, by omega⟩]
  by_cases hf : (r fM_first).2 a.toInt.toNat = 0
  · rw [if_neg (fun h => h hf), if_pos ⟨ha.1, by omega⟩, if_pos hf]
    exact if_pos ⟨ha.1, by rw [show (a2_ua (a2_ua (a2_ua r fM_above _) fM_next _) fM_first _ fM_last).1 = (r fM_last).1 from rfl]; omega⟩
  · have h2 := hl hf
    rw [if_pos hf, if_pos ⟨ha.1, by omega⟩, if_pos ⟨h2.1, by omega⟩, if_neg hf]
    exact if_pos ⟨ha.1, by rw [show (a2_ua (a2_ua (a2_ua r fM_above _) fM_next _) fM_next _ fM_last).1 = (r fM_last).1 from rfl]; omega⟩
