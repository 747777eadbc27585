/-! The model's rows: lengths, what they hold, and the forest of its nodes. -/
def LN : List (Nat × Nat) := [(fM_kinds, 1500), (fM_values, 1500), (fM_faultNumber, 20), (fM_faultWord, 20), (fM_kind, 8000), (fM_value, 8000), (fM_place, 8000), (fM_extra, 8000), (fM_first, 8000), (fM_last, 8000), (fM_next, 8000), (fM_above, 8000), (fM_number, 8000), (fM_order, 8000), (fM_unitNode, 600), (fM_environment, 600), (fM_data, 600), (fM_procedure, 600), (fM_state, 11), (fM_unit, 11), (fM_its, 11), (fM_function, 11), (fM_had, 11), (fM_levels, 64), (fM_itemNode, 64), (fM_pileKind, 128), (fM_pileNode, 128), (fM_pilePhase, 128), (fM_sums, 64), (fM_sumSign, 64), (fM_products, 64), (fM_productSign, 64), (fM_mark, 64), (fM_andFirst, 64), (fM_andLast, 64), (fM_andMany, 64), (fM_orFirst, 64), (fM_orLast, 64), (fM_orMany, 64)]
def ML (r : a2_A) : Prop := ∀ e, e ∈ LN → (r e.1).1 = e.2
theorem ML.at {r : a2_A} (h : ML r) (i : Nat) {q n : Nat} (hi : LN[i]? = some (q, n) := by rfl) : (r q).1 = n := h (q, n) (List.mem_of_getElem? hi)
theorem ML.aw {r : a2_A} (h : ML r) (q i : Nat) (x : Int32) : ML (aw r q i x) := fun e he => (aw_len r q i x e.1).trans (h e he)
def In8 (x : Int32) : Prop := 0 ≤ x.toInt ∧ x.toInt < 8000
def QN : List Nat := [fM_extra, fM_first, fM_last, fM_next, fM_above, fM_order, fM_unitNode, fM_environment, fM_data, fM_procedure, fM_itemNode, fM_pileNode, fM_sums, fM_products, fM_andFirst, fM_andLast, fM_orFirst, fM_orLast]
def MR (r : a2_A) : Prop := (∀ q, q ∈ QN → ∀ i, In8 ((r q).2 i)) ∧ ∀ i, 0 ≤ ((r fM_its).2 i).toInt ∧ ((r fM_its).2 i).toInt < 600
theorem MR.at {r : a2_A} (h : MR r) (j : Nat) (i : Nat) {q : Nat} (hj : QN[j]? = some q := by rfl) : In8 ((r q).2 i) := h.1 q (List.mem_of_getElem? hj) i
theorem aw_c {r : a2_A} {q i p j : Nat} {x : Int32} (P : Int32 → Prop) (h1 : p = q → P x) (h2 : P ((r p).2 j)) : P ((aw r q i x p).2 j) := by
  by_cases h : p = q
  · subst h
    rw [aw_eq]
    exact upd_c P j (fun _ => h1 rfl) (fun _ => h2)
  · rw [aw_ne h]
    exact h2
theorem MR.aw {r : a2_A} (h : MR r) (q i : Nat) (x : Int32) (hx : q ∈ QN → In8 x) (hi : q = fM_its → 0 ≤ x.toInt ∧ x.toInt < 600) : MR (aw r q i x) := ⟨fun p hp j => aw_c In8 (fun e => hx (e ▸ hp)) (h.1 p hp j), fun j => aw_c (fun y => 0 ≤ y.toInt ∧ y.toInt < 600) (fun e => hi e.symm) (h.2 j)⟩
def GN : List Nat := [fM_files, fM_holder, fM_declaratives, fM_section, fM_paragraph, fM_latest, fM_subject]
def MG (g : a2_G) : Prop := (∀ k, k ∈ GN → In8 (g k)) ∧ g fM_size = 0 ∧ g fM_told = 0
theorem MG.up {g : a2_G} (h : MG g) (k : Nat) (x : Int32) (hx : k ∈ GN → In8 x) (hk : fM_size ≠ k ∧ fM_told ≠ k := by decide) : MG (upd g k x) := ⟨fun j hj => upd_c In8 j (fun e => hx (e ▸ hj)) (fun _ => h.1 j hj), (show upd g k x fM_size = g fM_size from if_neg hk.1).trans h.2.1, (show upd g k x fM_told = g fM_told from if_neg hk.2).trans h.2.2⟩
theorem in8_0 : In8 0 := ⟨Int.le_refl 0, by decide⟩
def MB (g : a2_G) (r : a2_A) : Prop := ML r ∧ MR r ∧ MG g ∧ 0 ≤ (g fM_n).toInt ∧ (g fM_n).toInt ≤ 1500 ∧ 0 ≤ (g fM_faults).toInt ∧ (g fM_faults).toInt ≤ 20
/-- an array's contents as numbers -/
def vf (r : a2_A) (q : Nat) : Nat → Nat := fun i => ((r q).2 i).toInt.toNat
theorem vf_eq {r : a2_A} {q i : Nat} {x : Int32} : vf (aw r q i x) q = fu (vf r q) i x.toInt.toNat := by
  funext j
  unfold vf fu
  rw [aw_eq]
  by_cases h : j = i
  · subst h
    rw [if_pos rfl]
    exact congrArg (fun y : Int32 => y.toInt.toNat) (if_pos rfl)
  · rw [if_neg h]
    exact congrArg (fun y : Int32 => y.toInt.toNat) (if_neg h)
theorem vf_ne {r : a2_A} {q i p : Nat} {x : Int32} (h : p ≠ q) : vf (aw r q i x) p = vf r p := by
  funext j
  unfold vf
  rw [aw_ne h]
def TF (A : Nat → Prop) (N : Nat) (r : a2_A) : Prop := TI A N (vf r fM_first) (vf r fM_last) (vf r fM_next) (vf r fM_above)
/-- the forest; P: nodes that hang nowhere yet -/
def TP (P : List Nat) (N : Nat) (r : a2_A) : Prop := ∃ A, TF A N r ∧ P.Nodup ∧ ∀ t, t ∈ P → 0 < t ∧ t < N ∧ ¬ A t
theorem TP.sub {P P' : List Nat} {N : Nat} {r : a2_A} (h : TP P N r) (hn : P'.Nodup) (hs : ∀ t, t ∈ P' → t ∈ P) : TP P' N r := by
  obtain ⟨A, h1, h2, h3⟩ := h
  exact ⟨A, h1, hn, fun t ht => h3 t (hs t ht)⟩
theorem TP.tl {P : List Nat} {t N : Nat} {r : a2_A} (h : TP (t :: P) N r) : TP P N r := by
  obtain ⟨A, h1, h2, h3⟩ := h
  exact ⟨A, h1, (List.nodup_cons.mp h2).2, fun x hx => h3 x (List.mem_cons_of_mem _ hx)⟩
theorem TP.eq {P : List Nat} {N : Nat} {r r' : a2_A} (h : TP P N r) (h1 : r' fM_first = r fM_first) (h2 : r' fM_last = r fM_last) (h3 : r' fM_next = r fM_next) (h4 : r' fM_above = r fM_above) : TP P N r' := by
  obtain ⟨A, f, h5, h6⟩ := h
  refine ⟨A, ?_, h5, h6⟩
  unfold TF vf at f ⊢
  rw [h1, h2, h3, h4]
  exact f
theorem TP.mk {P : List Nat} {N : Nat} {r : a2_A} (h : TP P N r) (h0 : 0 < N) (k v p : Int32) : TP (N :: P) (N + 1) (MmkR N k v p r) := by
  obtain ⟨A, f, h5, h6⟩ := h
  have hA : ¬ A N := fun hx => absurd (f.1 N hx).2.1 (Nat.lt_irrefl N)
  refine ⟨A, ?_, List.nodup_cons.mpr ⟨fun hm => absurd (h6 N hm).2.1 (Nat.lt_irrefl N), h5⟩, fun t ht => ?_⟩
  · have e := TI.mk f
    unfold TF MmkR
    rw [vf_ne (by decide), vf_ne (by decide), vf_ne (by decide), vf_eq, vf_ne (by decide), vf_ne (by decide), vf_ne (by decide), vf_ne (by decide)]
    rw [vf_ne (by decide), vf_ne (by decide), vf_eq, vf_ne (by decide), vf_ne (by decide), vf_ne (by decide), vf_ne (by decide), vf_ne (by decide)]
    rw [vf_ne (by decide), vf_eq, vf_ne (by decide), vf_ne (by decide), vf_ne (by decide), vf_ne (by decide), vf_ne (by decide), vf_ne (by decide)]
    rw [vf_eq, vf_ne (by decide), vf_ne (by decide), vf_ne (by decide), vf_ne (by decide), vf_ne (by decide), vf_ne (by decide), vf_ne (by decide)]
    exact e
  · rcases List.mem_cons.mp ht with rfl | ht
    · exact ⟨h0, Nat.lt_succ_self _, hA⟩
    · obtain ⟨a1, a2, a3⟩ := h6 t ht
      exact ⟨a1, Nat.lt_succ_of_lt a2, a3⟩
theorem TP.at {P : List Nat} {N : Nat} {r : a2_A} {a t : Int32} (h : TP (t.toInt.toNat :: P) N r) (ha : a.toInt.toNat < N) (hR : MR r) (h0 : 0 ≤ a.toInt) : TP P N (MatR a t r) := by
  obtain ⟨A, f, h5, h6⟩ := h
  obtain ⟨n1, n2⟩ := List.nodup_cons.mp h5
  obtain ⟨t1, t2, t3⟩ := h6 _ List.mem_cons_self
  refine ⟨fun x => A x ∨ x = t.toInt.toNat, ?_, n2, fun x hx => ?_⟩
  · unfold TF MatR
    have hin := hR.at 1 a.toInt.toNat
    by_cases hf : (r fM_first).2 a.toInt.toNat = 0
    · rw [if_pos hf]
      have e := TI.at0 f ha t2 t1 t3 (show vf r fM_first a.toInt.toNat = 0 by unfold vf; rw [hf]; rfl)
      rw [vf_ne (by decide), vf_eq, vf_ne (by decide), vf_ne (by decide)]
      rw [vf_eq, vf_ne (by decide), vf_ne (by decide), vf_ne (by decide)]
      rw [vf_ne (by decide), vf_ne (by decide), vf_eq, vf_ne (by decide)]
      rw [vf_ne (by decide), vf_ne (by decide), vf_ne (by decide), vf_eq]
      exact e
    · rw [if_neg hf]
      have hz : vf r fM_first a.toInt.toNat ≠ 0 := fun e => hf (Int32.toInt_inj.mp (by
        have := hin.1
        unfold vf at e
        rw [i32_0]
        omega))
      have e := TI.at1 f ha t2 t1 t3 hz
      rw [vf_ne (by decide), vf_ne (by decide), vf_ne (by decide), vf_ne (by decide)]
      rw [vf_eq, vf_ne (by decide), vf_ne (by decide), vf_ne (by decide)]
      rw [vf_ne (by decide), vf_eq, vf_eq, vf_ne (by decide)]
      rw [vf_ne (by decide), vf_ne (by decide), vf_ne (by decide), vf_eq]
      exact e
  · obtain ⟨a1, a2, a3⟩ := h6 x (List.mem_cons_of_mem _ hx)
    refine ⟨a1, a2, fun hh => ?_⟩
    rcases hh with hh | rfl
    · exact a3 hh
    · exact n1 hx
/-- what may change, nothing else -/
def Fm (W WA : List Nat) (g : a2_G) (r : a2_A) (g' : a2_G) (r' : a2_A) : Prop := (∀ k, k ∉ W → g' k = g k) ∧ ∀ q, q ∉ WA → r' q = r q
theorem Fm.rf {W WA : List Nat} {g : a2_G} {r : a2_A} : Fm W WA g r g r := ⟨fun _ _ => rfl, fun _ _ => rfl⟩
theorem Fm.trans {W WA : List Nat} {g1 g2 g3 : a2_G} {r1 r2 r3 : a2_A} (a : Fm W WA g1 r1 g2 r2) (b : Fm W WA g2 r2 g3 r3) : Fm W WA g1 r1 g3 r3 := ⟨fun k hk => (b.1 k hk).trans (a.1 k hk), fun q hq => (b.2 q hq).trans (a.2 q hq)⟩
theorem Fm.sub {W WA V VA : List Nat} {g g' : a2_G} {r r' : a2_A} (h : Fm W WA g r g' r') (h1 : ∀ k, k ∈ W → k ∈ V) (h2 : ∀ q, q ∈ WA → q ∈ VA) : Fm V VA g r g' r' := ⟨fun k hk => h.1 k (fun hh => hk (h1 k hh)), fun q hq => h.2 q (fun hh => hq (h2 q hh))⟩
theorem Fm.up {W WA : List Nat} {g g' : a2_G} {r r' : a2_A} (h : Fm W WA g r g' r') {k : Nat} {x : Int32} (hk : k ∈ W) : Fm W WA g r (upd g' k x) r' := ⟨fun j hj => (show upd g' k x j = g' j from if_neg (fun (e : j = k) => hj (by rw [e]; exact hk))).trans (h.1 j hj), h.2⟩
theorem Fm.aw {W WA : List Nat} {g g' : a2_G} {r r' : a2_A} (h : Fm W WA g r g' r') {q i : Nat} {x : Int32} (hq : q ∈ WA) : Fm W WA g r g' (aw r' q i x) := ⟨h.1, fun p hp => (aw_ne (fun (e : p = q) => hp (by rw [e]; exact hq))).trans (h.2 p hp)⟩
def WE : List Nat := [fM_at, fM_failed, fM_bad, fM_faults, fM_nodes]
def WEa : List Nat := [fM_faultNumber, fM_faultWord, fM_kind, fM_value, fM_place, fM_extra, fM_first, fM_last, fM_next, fM_above]
/-- a clause: the word that it begins at, the faults ahead of it -/
abbrev Sg : Type := Int × Int
/-- the state within a clause that began at the word s; b: nodes against words; P: nodes that hang nowhere yet -/
def Mst (b : Int) (s : Sg) (P : List Nat) (g : a2_G) (r : a2_A) : Prop :=
  MB g r ∧ ((0 ≤ s.1 ∧ s.2 ≤ (g fM_faults).toInt ∧ s.2 < 20) ∧ s.1 ≤ (g fM_at).toInt ∧ 1 ≤ (g fM_nodes).toInt ∧ (g fM_nodes).toInt ≤ 4 * (g fM_at).toInt + b ∧
    (g fM_bad = 0 ∧ (g fM_at).toInt ≤ (g fM_n).toInt ∨ g fM_bad = 1 ∧ s.2 < (g fM_faults).toInt ∧ s.1 ≤ (g fM_failed).toInt ∧ (g fM_failed).toInt ≤ (g fM_n).toInt ∧ (g fM_at).toInt ≤ (g fM_failed).toInt + 2)) ∧
  TP P (g fM_nodes).toInt.toNat r
theorem Mst.le {b b' : Int} {s : Sg} {P : List Nat} {g : a2_G} {r : a2_A} (h : Mst b s P g r) (hb : b ≤ b') : Mst b' s P g r := ⟨h.1, ⟨h.2.1.1, h.2.1.2.1, h.2.1.2.2.1, by have := h.2.1.2.2.2.1; omega, h.2.1.2.2.2.2⟩, h.2.2⟩
theorem Mst.tl {b : Int} {s : Sg} {P : List Nat} {t : Nat} {g : a2_G} {r : a2_A} (h : Mst b s (t :: P) g r) : Mst b s P g r := ⟨h.1, h.2.1, h.2.2.tl⟩
/-- what every call below keeps -/
def En (g : a2_G) (r : a2_A) (g' : a2_G) (r' : a2_A) : Prop := Fm WE WEa g r g' r' ∧ (g fM_nodes).toInt ≤ (g' fM_nodes).toInt ∧ (g fM_at).toInt ≤ (g' fM_at).toInt
theorem En.rf {g : a2_G} {r : a2_A} : En g r g r := ⟨Fm.rf, Int.le_refl _, Int.le_refl _⟩
theorem En.trans {g1 g2 g3 : a2_G} {r1 r2 r3 : a2_A} (a : En g1 r1 g2 r2) (b : En g2 r2 g3 r3) : En g1 r1 g3 r3 := ⟨a.1.trans b.1, Int.le_trans a.2.1 b.2.1, Int.le_trans a.2.2 b.2.2⟩
