/-! Frames between the class and the model, and where the law begins. -/
theorem LN_9 : ∀ e ∈ LN, e.1 / 100 = 9 := by decide
theorem QN_9 : ∀ q ∈ QN, q / 100 = 9 := by decide
theorem GN_9 : ∀ q ∈ GN, q / 100 = 9 := by decide
theorem MI.fr {g g' : a2_G} {r r' : a2_A} (h : MI g r) (hg : ∀ k, k / 100 = 9 → g' k = g k) (hr : ∀ q, q / 100 = 9 → r' q = r q) : MI g' r' := by
  obtain ⟨h1, h2, h3, h4, h5, h6, h7, h8⟩ := h
  refine ⟨fun e he => by rw [hr _ (LN_9 e he)]; exact h1 e he, ⟨fun q hq i => by rw [hr _ (QN_9 q hq)]; exact h2.1 q hq i, fun i => by rw [hr _ (by decide)]; exact h2.2 i⟩, fun k hk => by rw [hg _ (GN_9 k hk)]; exact h3 k hk, by rw [hg _ (by decide)]; exact h4, by rw [hg _ (by decide)]; exact h5, by rw [hg _ (by decide)]; exact h6, by rw [hg _ (by decide)]; exact h7, ?_⟩
  rw [hg _ (by decide)]
  intro h0
  obtain ⟨A, N, a1, a2, a3⟩ := h8 h0
  refine ⟨A, N, a1, ?_, fun i hi => by rw [hr _ (by decide)]; exact a3 i hi⟩
  unfold TF vf
  rw [hr fM_first (by decide), hr fM_last (by decide), hr fM_next (by decide), hr fM_above (by decide)]
  exact a2
theorem CI.fr {g g' : a2_G} {r r' : a2_A} (h : CI g r) (hg : ∀ k, k / 100 < 9 → g' k = g k) (hr : ∀ q, q / 100 < 9 → r' q = r q) : CI g' r' := by
  unfold CI at h ⊢
  rw [hg fR_at (by decide), hg fR_size (by decide), hr fR_kinds (by decide), hr fR_values (by decide), hg fR_faultSize (by decide), hr fR_faultNumbers (by decide), hr fR_faultPlaces (by decide), hg fT_made (by decide), hr fT_cells (by decide), hg fU_size (by decide), hr fU_states (by decide), hr fU_kinds (by decide), hr fU_names (by decide), hr fU_handles (by decide), hg fI_openSize (by decide), hr fI_openLevels (by decide), hr fI_openHandles (by decide)]
  exact h
theorem cpF.nc {g g' : a2_G} {r r' : a2_A} (h : cpF cpCC g r g' r') : (∀ k, k / 100 = 9 → g' k = g k) ∧ ∀ q, q / 100 = 9 → r' q = r q := ⟨fun k hk => h.1 k (by unfold cpCC; omega), fun k hk => h.2 k (by unfold cpCC; omega)⟩
theorem cpF.nm {g g' : a2_G} {r r' : a2_A} (h : cpF cpMM g r g' r') : (∀ k, k / 100 < 9 → g' k = g k) ∧ ∀ q, q / 100 < 9 → r' q = r q := ⟨fun k hk => h.1 k (by unfold cpMM; omega), fun k hk => h.2 k (by unfold cpMM; omega)⟩
/-- where the objects lie -/
def rh_c : List Nat := [0, 1, 6, 8, 9, 10, 11, 12, 15, 20]
def rh_f (k : Nat) : Option Value := match p1_h23[rh_c.getD (k / 100) 0]? with
  | some (.inl (_, fs)) => fs[k % 100]?
  | _ => none
def rh (k : Nat) : Nat := if k < 10000 then rh_c.getD k 0 else match rh_f (k - 10000) with
  | some (.ref a) => a
  | _ => 0
def g_0 (k : Nat) : Int32 := match rh_f k with
  | some (.int v) => v
  | _ => 0
def rh_e (o : Option am_E) : Nat × (Nat → Int32) := match o with
  | some (.inr (.inl (_, e))) => e
  | _ => (0, fun _ => 0)
def r_0 (q : Nat) : Nat × (Nat → Int32) := rh_e p1_h23[rh (10000 + q)]?
def rh_i : List Nat := [0, 0, 100, 101, 105, 106, 0, 200, 0, 0, 0, 0, 0, 703, 704, 0, 800, 801, 802, 803, 0, 902, 903, 906, 907, 909, 910, 911, 912, 913, 914, 915, 916, 917, 918, 922, 923, 924, 925, 927, 928, 929, 930, 931, 939, 940, 946, 947, 948, 950, 951, 952, 953, 958, 959, 960, 961, 962, 963, 964, 0]
def rh_k (ci j : Nat) : Bool := match (nm_YL.getD ci [])[j]? with
  | some (3, _) => (match p1_h23[rh (10000 + (100 * ci + j))]? with
    | some (.inr (.inl (false, _))) => true
    | _ => false) && rh_i.getD (rh (10000 + (100 * ci + j))) 0 == 100 * ci + j
  | some (4, _) => (match p1_h23[rh (10000 + (100 * ci + j))]? with
    | some (.inr (.inl (true, _))) => true
    | _ => false) && rh_i.getD (rh (10000 + (100 * ci + j))) 0 == 100 * ci + j
  | _ => true
theorem rh_ok : (List.range 12).all (fun ci => (List.range 100).all (fun j => rh_k ci j)) = true := by decide +kernel
theorem nm_Y_in {ci j : Nat} {x : Nat × Nat} (h : (nm_Y ci)[j]? = some x) : ci < 12 ∧ j < 100 := by
  refine ⟨?_, Nat.lt_of_lt_of_le (List.getElem?_eq_some_iff.mp h).1 (nm_Y_len ci)⟩
  by_cases hc : ci < 12
  · exact hc
  · have h2 : (nm_YL.getD ci [])[j]? = some x := h
    rw [List.getD_eq_getElem?_getD, show nm_YL[ci]? = none from List.getElem?_eq_none (by have e : nm_YL.length = 12 := rfl; omega)] at h2
    cases h2
theorem rh_at {ci j : Nat} {x : Nat × Nat} (h : (nm_Y ci)[j]? = some x) : rh_k ci j = true := List.all_eq_true.mp (List.all_eq_true.mp rh_ok ci (List.mem_range.mpr (nm_Y_in h).1)) j (List.mem_range.mpr (nm_Y_in h).2)
theorem rh_3 {ci j x : Nat} (h : (nm_Y ci)[j]? = some (3, x)) : p1_h23[rh (10000 + (100 * ci + j))]? = some (.inr (.inl (false, r_0 (100 * ci + j)))) ∧ rh_i.getD (rh (10000 + (100 * ci + j))) 0 = 100 * ci + j := by
  have h1 := rh_at h
  have h2 : (nm_YL.getD ci [])[j]? = some (3, x) := h
  unfold rh_k at h1
  simp only [h2, Bool.and_eq_true, beq_iff_eq] at h1
  refine ⟨?_, h1.2⟩
  have h3 := h1.1
  unfold r_0
  split at h3
  · rename_i e he
    rw [he]
    rfl
  · cases h3
theorem rh_4 {ci j x : Nat} (h : (nm_Y ci)[j]? = some (4, x)) : p1_h23[rh (10000 + (100 * ci + j))]? = some (.inr (.inl (true, r_0 (100 * ci + j)))) ∧ rh_i.getD (rh (10000 + (100 * ci + j))) 0 = 100 * ci + j := by
  have h1 := rh_at h
  have h2 : (nm_YL.getD ci [])[j]? = some (4, x) := h
  unfold rh_k at h1
  simp only [h2, Bool.and_eq_true, beq_iff_eq] at h1
  refine ⟨?_, h1.2⟩
  have h3 := h1.1
  unfold r_0
  split at h3
  · rename_i e he
    rw [he]
    rfl
  · cases h3
set_option maxRecDepth 20000 in
theorem rh_rel : a2_Rel nm_Y rh g_0 r_0 p1_h23 := by
  refine ⟨fun ci h => ?_, fun ci j x h => (rh_3 h).1, fun ci j x h => (rh_4 h).1, fun ci j x ci' j' x' h h' e => ?_, nm_Y_len⟩
  · match ci, h with
    | 0, _ => rfl
    | 1, _ => rfl
    | 2, _ => rfl
    | 3, _ => rfl
    | 4, _ => rfl
    | 5, _ => rfl
    | 6, _ => rfl
    | 7, _ => rfl
    | 8, _ => rfl
    | 9, _ => rfl
    | 10, h => exact absurd rfl h
    | 11, h => exact absurd rfl h
    | n + 12, h => exact absurd rfl h
  · have q1 : rh_i.getD (rh (10000 + (100 * ci + j))) 0 = 100 * ci + j := h.elim (fun h => (rh_3 h).2) (fun h => (rh_4 h).2)
    have q2 : rh_i.getD (rh (10000 + (100 * ci' + j'))) 0 = 100 * ci' + j' := h'.elim (fun h => (rh_3 h).2) (fun h => (rh_4 h).2)
    have q3 : j < 100 := h.elim (fun h => (nm_Y_in h).2) (fun h => (nm_Y_in h).2)
    have q4 : j' < 100 := h'.elim (fun h => (nm_Y_in h).2) (fun h => (nm_Y_in h).2)
    rw [e, q2] at q1
    omega
theorem rh_CI : CI g_0 r_0 := by
  unfold CI
  decide +kernel
theorem rh_z (q : Nat) (i : Nat) : (r_0 q).2 i = 0 := by
  have h : ∀ k : Nat, (rh_e p1_h23[k]?).2 i = 0 := by
    intro k
    match k with
    | 0 => rfl
    | 1 => rfl
    | 2 => rfl
    | 3 => rfl
    | 4 => rfl
    | 5 => rfl
    | 6 => rfl
    | 7 => rfl
    | 8 => rfl
    | 9 => rfl
    | 10 => rfl
    | 11 => rfl
    | 12 => rfl
    | 13 => rfl
    | 14 => rfl
    | 15 => rfl
    | 16 => rfl
    | 17 => rfl
    | 18 => rfl
    | 19 => rfl
    | 20 => rfl
    | 21 => rfl
    | 22 => rfl
    | 23 => rfl
    | 24 => rfl
    | 25 => rfl
    | 26 => rfl
    | 27 => rfl
    | 28 => rfl
    | 29 => rfl
    | 30 => rfl
    | 31 => rfl
    | 32 => rfl
    | 33 => rfl
    | 34 => rfl
    | 35 => rfl
    | 36 => rfl
    | 37 => rfl
    | 38 => rfl
    | 39 => rfl
    | 40 => rfl
    | 41 => rfl
    | 42 => rfl
    | 43 => rfl
    | 44 => rfl
    | 45 => rfl
    | 46 => rfl
    | 47 => rfl
    | 48 => rfl
    | 49 => rfl
    | 50 => rfl
    | 51 => rfl
    | 52 => rfl
    | 53 => rfl
    | 54 => rfl
    | 55 => rfl
    | 56 => rfl
    | 57 => rfl
    | 58 => rfl
    | 59 => rfl
    | 60 => rfl
    | n + 61 => rfl
  exact h _
theorem rh_MI : MI g_0 r_0 := by
  refine ⟨by unfold ML; decide +kernel, ⟨fun q _ i => by rw [rh_z]; exact in8_0, fun i => by rw [rh_z]; decide⟩, by unfold In8; decide +kernel, by decide +kernel, by decide +kernel, by decide +kernel, by decide +kernel, fun h => absurd h (by decide +kernel)⟩
