/-! The model's leaves, within a clause. -/
theorem Mst.W {b : Int} {s : Sg} {P : List Nat} {g : a2_G} {r : a2_A} (h : Mst b s P g r) : MW g r := by
  have h1 := h.1.1.at 0
  have h2 := h.1.1.at 1
  have h3 := h.1.2.2.2.2.1
  exact ⟨by rw [h1]; exact h3, by rw [h2]; exact h3⟩
theorem Mst.F {b : Int} {s : Sg} {P : List Nat} {g : a2_G} {r : a2_A} (h : Mst b s P g r) : MF g r := ⟨h.1.2.2.2.2.2.1, h.1.2.2.2.2.2.2, h.1.1.at 2, h.1.1.at 3⟩
theorem Mst.N {b : Int} {s : Sg} {P : List Nat} {g : a2_G} {r : a2_A} (h : Mst b s P g r) : MN r := ⟨h.1.1.at 4, h.1.1.at 5, h.1.1.at 6, h.1.1.at 7, h.1.1.at 8, h.1.1.at 9, h.1.1.at 10, h.1.1.at 11⟩
theorem Mst.a0 {b : Int} {s : Sg} {P : List Nat} {g : a2_G} {r : a2_A} (h : Mst b s P g r) : 0 ≤ (g fM_at).toInt := by
  have := h.2.1
  omega
theorem Mst.an {b : Int} {s : Sg} {P : List Nat} {g : a2_G} {r : a2_A} (h : Mst b s P g r) (hb : g fM_bad = 0) : (g fM_at).toInt ≤ (g fM_n).toInt := by
  rcases h.2.1.2.2.2.2 with ⟨-, h2⟩ | ⟨h2, -⟩
  · exact h2
  · rw [hb] at h2
    exact absurd h2 (by decide)
/-- all of it in numbers -/
theorem Mst.q {b : Int} {s : Sg} {P : List Nat} {g : a2_G} {r : a2_A} (h : Mst b s P g r) : 0 ≤ (g fM_n).toInt ∧ (g fM_n).toInt ≤ 1500 ∧ 0 ≤ (g fM_faults).toInt ∧ (g fM_faults).toInt ≤ 20 ∧ 0 ≤ s.1 ∧ s.1 ≤ (g fM_at).toInt ∧ 1 ≤ (g fM_nodes).toInt ∧ (g fM_nodes).toInt ≤ 4 * (g fM_at).toInt + b ∧ (g fM_at).toInt ≤ 1502 := by
  have h1 := h.1.2.2.2
  have h2 := h.2.1
  refine ⟨h1.1, h1.2.1, h1.2.2.1, h1.2.2.2, h2.1.1, h2.2.1, h2.2.2.1, h2.2.2.2.1, ?_⟩
  rcases h2.2.2.2.2 with ⟨-, h3⟩ | ⟨-, -, -, h3, h4⟩ <;> omega
/-- a word is passed -/
theorem Mst.ps {b : Int} {s : Sg} {P : List Nat} {g : a2_G} {r : a2_A} (h : Mst b s P g r) (hb : g fM_bad = 0) (hl : (g fM_at).toInt < (g fM_n).toInt) : Mst (b - 4) s P (upd g fM_at (g fM_at + 1)) r ∧ (g fM_at + 1).toInt = (g fM_at).toInt + 1 ∧ En g r (upd g fM_at (g fM_at + 1)) r := by
  have q := h.q
  have e := i32_inc (x := g fM_at) (by omega)
  refine ⟨⟨⟨h.1.1, h.1.2.1, h.1.2.2.1.up _ _ (fun hk => absurd hk (by decide)), h.1.2.2.2⟩, ⟨h.2.1.1, ?_, h.2.1.2.2.1, ?_, Or.inl ⟨hb, ?_⟩⟩, h.2.2⟩, e, ⟨Fm.rf.up (by decide), Int.le_refl _, ?_⟩⟩
  · show s.1 ≤ (g fM_at + 1).toInt
    omega
  · show (g fM_nodes).toInt ≤ 4 * (g fM_at + 1).toInt + (b - 4)
    omega
  · show (g fM_at + 1).toInt ≤ (g fM_n).toInt
    omega
  · show (g fM_at).toInt ≤ (g fM_at + 1).toInt
    omega
/-- a fault -/
theorem Mst.fl {b : Int} {s : Sg} {P : List Nat} {g : a2_G} {r : a2_A} (n : Int32) {w : Int32} (h : Mst b s P g r) (hb : g fM_bad = 0) (h1 : s.1 ≤ w.toInt) (h2 : w.toInt ≤ (g fM_n).toInt) (h3 : (g fM_at).toInt ≤ w.toInt + 2) : Mst b s P (MfG w g) (MfR n w g r) ∧ En g r (MfG w g) (MfR n w g r) ∧ MfG w g fM_bad = 1 := by
  have q := h.q
  have q2 := h.2.1.1
  unfold MfG MfR
  rw [if_pos hb, if_pos hb]
  by_cases hf : g fM_faults = 20
  · have e : (g fM_faults).toInt = 20 := by rw [hf]; rfl
    rw [if_pos hf, if_pos hf]
    refine ⟨⟨⟨h.1.1, h.1.2.1, (h.1.2.2.1.up _ _ (fun hk => absurd hk (by decide))).up _ _ (fun hk => absurd hk (by decide)), h.1.2.2.2⟩, ⟨h.2.1.1, h.2.1.2.1, h.2.1.2.2.1, h.2.1.2.2.2.1, Or.inr ⟨rfl, ?_, h1, h2, h3⟩⟩, h.2.2⟩, ⟨(Fm.rf.up (by decide)).up (by decide), Int.le_refl _, Int.le_refl _⟩, rfl⟩
    show s.2 < (g fM_faults).toInt
    omega
  · have hf' : (g fM_faults).toInt ≠ 20 := fun e => hf (Int32.toInt_inj.mp e)
    have e := i32_inc (x := g fM_faults) (by omega)
    rw [if_neg hf, if_neg hf]
    refine ⟨⟨⟨(h.1.1.aw _ _ _).aw _ _ _, ((h.1.2.1.aw _ _ _ (fun hk => absurd hk (by decide)) (fun hk => absurd hk (by decide))).aw _ _ _ (fun hk => absurd hk (by decide)) (fun hk => absurd hk (by decide))), (((h.1.2.2.1.up _ _ (fun hk => absurd hk (by decide))).up _ _ (fun hk => absurd hk (by decide)))).up _ _ (fun hk => absurd hk (by decide)), q.1, q.2.1, ?_, ?_⟩, ⟨⟨q2.1, (by show s.2 ≤ (g fM_faults + 1).toInt; omega), q2.2.2⟩, h.2.1.2.1, h.2.1.2.2.1, h.2.1.2.2.2.1, Or.inr ⟨rfl, ?_, h1, h2, h3⟩⟩, h.2.2.eq rfl rfl rfl rfl⟩, ⟨(((Fm.rf.up (by decide)).up (by decide)).up (by decide)).aw (by decide) |>.aw (by decide), Int.le_refl _, Int.le_refl _⟩, rfl⟩
    · show 0 ≤ (g fM_faults + 1).toInt
      omega
    · show (g fM_faults + 1).toInt ≤ 20
      omega
    · show s.2 < (g fM_faults + 1).toInt
      omega
/-- .. where there was one -/
theorem Mst.fb {b : Int} {s : Sg} {P : List Nat} {g : a2_G} {r : a2_A} (n w : Int32) (h : Mst b s P g r) (hb : g fM_bad = 1) : Mst b s P (MfG w g) (MfR n w g r) ∧ En g r (MfG w g) (MfR n w g r) ∧ MfG w g fM_bad = 1 := by
  have hb' : ¬ g fM_bad = 0 := by rw [hb]; decide
  unfold MfG MfR
  rw [if_neg hb', if_neg hb']
  have h5 := h.2.1.2.2.2.2.resolve_left (fun hh => hb' hh.1)
  exact ⟨⟨⟨h.1.1, h.1.2.1, (h.1.2.2.1.up _ _ (fun hk => absurd hk (by decide))).up _ _ (fun hk => absurd hk (by decide)), h.1.2.2.2⟩, ⟨h.2.1.1, h.2.1.2.1, h.2.1.2.2.1, h.2.1.2.2.2.1, Or.inr ⟨rfl, h5.2⟩⟩, h.2.2⟩, ⟨(Fm.rf.up (by decide)).up (by decide), Int.le_refl _, Int.le_refl _⟩, rfl⟩
/-- a new node -/
theorem Mst.mk {b : Int} {s : Sg} {P : List Nat} {g : a2_G} {r : a2_A} (k v p : Int32) (h : Mst b s P g r) (hb : b ≤ 1900) : Mst (b + 1) s ((g fM_nodes).toInt.toNat :: P) (MmkG g) (MmkR (g fM_nodes).toInt.toNat k v p r) ∧ En g r (MmkG g) (MmkR (g fM_nodes).toInt.toNat k v p r) ∧ (MmkG g fM_nodes).toInt = (g fM_nodes).toInt + 1 := by
  have q := h.q
  have e := i32_inc (x := g fM_nodes) (by omega)
  have dd : ∀ {a c : Nat}, a ∉ QN → a ∈ QN → In8 c.toInt32 := fun h1 h2 => absurd h2 h1
  refine ⟨⟨⟨?_, ?_, h.1.2.2.1.up _ _ (fun hk => absurd hk (by decide)), h.1.2.2.2⟩, ⟨h.2.1.1, h.2.1.2.1, ?_, ?_, h.2.1.2.2.2.2⟩, ?_⟩, ⟨?_, ?_, Int.le_refl _⟩, e⟩
  · exact (((((((h.1.1.aw _ _ _).aw _ _ _).aw _ _ _).aw _ _ _).aw _ _ _).aw _ _ _).aw _ _ _).aw _ _ _
  · refine (((((((h.1.2.1.aw _ _ _ (fun hk => absurd hk (by decide)) (fun hk => absurd hk (by decide))).aw _ _ _ (fun hk => absurd hk (by decide)) (fun hk => absurd hk (by decide))).aw _ _ _ (fun hk => absurd hk (by decide)) (fun hk => absurd hk (by decide))).aw _ _ _ (fun _ => in8_0) (fun hk => absurd hk (by decide))).aw _ _ _ (fun _ => in8_0) (fun hk => absurd hk (by decide))).aw _ _ _ (fun _ => in8_0) (fun hk => absurd hk (by decide))).aw _ _ _ (fun _ => in8_0) (fun hk => absurd hk (by decide))).aw _ _ _ (fun _ => in8_0) (fun hk => absurd hk (by decide))
  · show 1 ≤ (g fM_nodes + 1).toInt
    omega
  · show (g fM_nodes + 1).toInt ≤ 4 * (g fM_at).toInt + (b + 1)
    omega
  · have t := h.2.2.mk (by omega) k v p
    have e2 : (MmkG g fM_nodes).toInt.toNat = (g fM_nodes).toInt.toNat + 1 := by
      show (g fM_nodes + 1).toInt.toNat = _
      omega
    rw [e2]
    exact t
  · exact ((((((((Fm.rf.up (by decide)).aw (by decide)).aw (by decide)).aw (by decide)).aw (by decide)).aw (by decide)).aw (by decide)).aw (by decide)).aw (by decide)
  · show (g fM_nodes).toInt ≤ (g fM_nodes + 1).toInt
    omega
/-- a node is hung up -/
theorem Mst.ac {b : Int} {s : Sg} {P : List Nat} {g : a2_G} {r : a2_A} {a t : Int32} (h : Mst b s (t.toInt.toNat :: P) g r) (ha : Mi g a) (ht : Mi g t) (hb : b ≤ 1900) : Mst b s P g (MatR a t r) ∧ En g r g (MatR a t r) := by
  have q := h.q
  have i8 : In8 t := ⟨ht.1, by have := ht.2; omega⟩
  refine ⟨⟨⟨?_, ?_, h.1.2.2⟩, h.2.1, h.2.2.at (by have := ha.1; have := ha.2; omega) h.1.2.1 ha.1⟩, ⟨?_, Int.le_refl _, Int.le_refl _⟩⟩
  · unfold MatR
    refine ML.aw ?_ _ _ _
    split
    · exact ((h.1.1.aw _ _ _).aw _ _ _).aw _ _ _
    · exact ((h.1.1.aw _ _ _).aw _ _ _).aw _ _ _
  · have i8a : In8 a := ⟨ha.1, by have := ha.2; omega⟩
    unfold MatR
    refine MR.aw ?_ _ _ _ (fun _ => i8) (fun hk => absurd hk (by decide))
    split
    · exact ((h.1.2.1.aw _ _ _ (fun _ => i8a) (fun hk => absurd hk (by decide))).aw _ _ _ (fun _ => in8_0) (fun hk => absurd hk (by decide))).aw _ _ _ (fun _ => i8) (fun hk => absurd hk (by decide))
    · exact ((h.1.2.1.aw _ _ _ (fun _ => i8a) (fun hk => absurd hk (by decide))).aw _ _ _ (fun _ => in8_0) (fun hk => absurd hk (by decide))).aw _ _ _ (fun _ => i8) (fun hk => absurd hk (by decide))
  · unfold MatR
    refine Fm.aw ?_ (by decide)
    split
    · exact ((Fm.rf.aw (by decide)).aw (by decide)).aw (by decide)
    · exact ((Fm.rf.aw (by decide)).aw (by decide)).aw (by decide)
