/-! The model's nodes point at nodes: kept by make and attach. -/
theorem upd_c {f : Nat → Int32} {k : Nat} {x : Int32} (P : Int32 → Prop) (j : Nat) (h1 : j = k → P x) (h2 : j ≠ k → P (f j)) : P (upd f k x j) := by
  by_cases h : j = k
  · subst h
    rw [show upd f j x j = x from if_pos rfl]
    exact h1 rfl
  · rw [show upd f k x j = f j from if_neg h]
    exact h2 h
/-- a node of those there are -/
def Mi (g : a2_G) (x : Int32) : Prop := 0 ≤ x.toInt ∧ x.toInt < (g fM_nodes).toInt
def MT (g : a2_G) (r : a2_A) : Prop := MN r ∧ 0 < (g fM_nodes).toInt ∧ (g fM_nodes).toInt ≤ 8000 ∧ ∀ i : Nat, (i : Int) < (g fM_nodes).toInt → Mi g ((r fM_first).2 i) ∧ Mi g ((r fM_last).2 i) ∧ Mi g ((r fM_next).2 i) ∧ Mi g ((r fM_above).2 i)
theorem Mi.up {g : a2_G} {x : Int32} (h8 : (g fM_nodes).toInt < 8000) (h : Mi g x) : Mi (MmkG g) x := by
  have e1 : (1 : Int32).toInt = 1 := rfl
  have lo := i32_lo (g fM_nodes)
  have e2 : (MmkG g fM_nodes).toInt = (g fM_nodes).toInt + 1 := by
    show (g fM_nodes + 1).toInt = _
    rw [ad_eq (by rw [e1]; omega) (by rw [e1]; omega), e1]
  unfold Mi
  rw [e2]
  exact ⟨h.1, by have := h.2; omega⟩
theorem MT.mk {g : a2_G} {r : a2_A} (h : MT g r) (h8 : (g fM_nodes).toInt < 8000) (k v p : Int32) : MT (MmkG g) (MmkR (g fM_nodes).toInt.toNat k v p r) := by
  obtain ⟨hN, h0, -, hi⟩ := h
  have e1 : (1 : Int32).toInt = 1 := rfl
  have z0 : (0 : Int32).toInt = 0 := rfl
  have e2 : (MmkG g fM_nodes).toInt = (g fM_nodes).toInt + 1 := by
    show (g fM_nodes + 1).toInt = _
    rw [ad_eq (by rw [e1]; omega) (by rw [e1]; omega), e1]
  have hz : Mi (MmkG g) 0 := by
    unfold Mi
    rw [e2, z0]
    omega
  refine ⟨hN.mk _ _ _ _, by rw [e2]; omega, by rw [e2]; omega, fun i hlt => ?_⟩
  rw [e2] at hlt
  have hj : i ≠ (g fM_nodes).toInt.toNat → (i : Int) < (g fM_nodes).toInt := fun h => by omega
  refine ⟨?_, ?_, ?_, ?_⟩
  · exact upd_c (f := (r fM_first).2) (Mi (MmkG g)) i (fun _ => hz) (fun h => (hi i (hj h)).1.up h8)
  · exact upd_c (f := (r fM_last).2) (Mi (MmkG g)) i (fun _ => hz) (fun h => (hi i (hj h)).2.1.up h8)
  · exact upd_c (f := (r fM_next).2) (Mi (MmkG g)) i (fun _ => hz) (fun h => (hi i (hj h)).2.2.1.up h8)
  · exact upd_c (f := (r fM_above).2) (Mi (MmkG g)) i (fun _ => hz) (fun h => (hi i (hj h)).2.2.2.up h8)
theorem MT.at {g : a2_G} {r : a2_A} (h : MT g r) {a t : Int32} (ha : Mi g a) (ht : Mi g t) : MT g (MatR a t r) := by
  obtain ⟨hN, h0, h8, hi⟩ := h
  have z0 : (0 : Int32).toInt = 0 := rfl
  have hz : Mi g 0 := by
    unfold Mi
    rw [z0]
    omega
  refine ⟨hN.at a t, h0, h8, fun i hlt => ?_⟩
  have hn : Mi g (upd (r fM_next).2 t.toInt.toNat 0 i) := upd_c (Mi g) i (fun _ => hz) (fun _ => (hi i hlt).2.2.1)
  unfold MatR
  by_cases hf : (r fM_first).2 a.toInt.toNat = 0
  · rw [if_pos hf]
    refine ⟨?_, ?_, ?_, ?_⟩
    · exact upd_c (f := (r fM_first).2) (Mi g) i (fun _ => ht) (fun _ => (hi i hlt).1)
    · exact upd_c (f := (r fM_last).2) (Mi g) i (fun _ => ht) (fun _ => (hi i hlt).2.1)
    · exact hn
    · exact upd_c (f := (r fM_above).2) (Mi g) i (fun _ => ha) (fun _ => (hi i hlt).2.2.2)
  · rw [if_neg hf]
    refine ⟨?_, ?_, ?_, ?_⟩
    · exact (hi i hlt).1
    · exact upd_c (f := (r fM_last).2) (Mi g) i (fun _ => ht) (fun _ => (hi i hlt).2.1)
    · exact upd_c (f := upd (r fM_next).2 t.toInt.toNat 0) (Mi g) i (fun _ => ht) (fun _ => hn)
    · exact upd_c (f := (r fM_above).2) (Mi g) i (fun _ => ha) (fun _ => (hi i hlt).2.2.2)
/-- attach, among nodes that there are -/
theorem M_attachT (L : Nat) (xs : Nat → Int32) (m d : Nat) {a t : Int32} {g : a2_G} {r : a2_A} (h : MT g r) (ha : Mi g a) (ht : Mi g t) : ev L xs (m + 1) (d + 1) nM_attach [.ref cM, .int a, .int t] g r = some (.inl none, g, MatR a t r) := by
  obtain ⟨hN, h0, h8, hi⟩ := h
  have h2 := hi a.toInt.toNat (by have := ha.1; have := ha.2; omega)
  exact M_attach L xs m d ⟨ha.1, by have := ha.2; omega⟩ ⟨ht.1, by have := ht.2; omega⟩ (fun _ => ⟨h2.2.1.1, by have := h2.2.1.2; omega⟩) hN
/-- child: a new node, behind the children of a -/
theorem M_child (L : Nat) (xs : Nat → Int32) (m d : Nat) {a k v p : Int32} {g : a2_G} {r : a2_A} (h : MT g r) (ha : Mi g a) (h8 : (g fM_nodes).toInt < 8000) : ev L xs (m + 1) (d + 2) nM_child4 [.ref cM, .int a, .int k, .int v, .int p] g r = some (.inl none, MmkG g, MatR a (g fM_nodes) (MmkR (g fM_nodes).toInt.toNat k v p r)) := by
  have hm := h.mk h8 k v p
  have e1 : (1 : Int32).toInt = 1 := rfl
  have h0 := h.2.1
  have e2 : (MmkG g fM_nodes).toInt = (g fM_nodes).toInt + 1 := by
    show (g fM_nodes + 1).toInt = _
    rw [ad_eq (by rw [e1]; omega) (by rw [e1]; omega), e1]
  have ht : Mi (MmkG g) (g fM_nodes) := ⟨by omega, by rw [e2]; omega⟩
  rw [qM_child4, M_make L xs m d (by omega) h8 h.1]
  simp only [fn_v]
  rw [M_attachT L xs m d hm (ha.up h8) ht]
  rfl
