/-! Written by wip/p2/gensafe.py: the class's questions, II (behind 53.dhand). -/
theorem sP_node (L : Nat) (xs : Nat → Int32) {m d : Nat} (hd : 5 ≤ d) (a1 : Int32) (a2 : Int32) {g : a2_G} {r : a2_A} (h : CI g r) : wp (ev L xs (m + 1) d nP_node [.ref cP, .int a1, .int a2] g r) (kP g r (fun _ => True)) kN := by
  obtain ⟨d, rfl⟩ : ∃ e, d = e + 1 := ⟨d - 1, by omega⟩
  rw [qP_node]
  refine wp_if (fun _ => ?_) (fun _ => ?_)
  · refine wp_vP (sT_kindOf L xs (by omega) a1 h) (fun v1 _ => ?_)
    exact ⟨_, rfl, trivial, rfl, rfl⟩
  · refine wp_if (fun _ => ?_) (fun _ => ?_)
    · refine wp_vP (sT_valueOf L xs (by omega) a1 h) (fun v2 _ => ?_)
      exact ⟨_, rfl, trivial, rfl, rfl⟩
    · refine wp_if (fun _ => ?_) (fun _ => ?_)
      · refine wp_vP (sT_placeOf L xs (by omega) a1 h) (fun v3 _ => ?_)
        exact ⟨_, rfl, trivial, rfl, rfl⟩
      · refine wp_if (fun _ => ?_) (fun _ => ?_)
        · refine wp_vP (sT_childrenOf L xs (by omega) a1 h) (fun v4 _ => ?_)
          exact ⟨_, rfl, trivial, rfl, rfl⟩
        · refine wp_if (fun _ => ?_) (fun _ => ?_)
          · refine wp_vP (sT_parentOf L xs (by omega) a1 h) (fun v5 _ => ?_)
            exact ⟨_, rfl, trivial, rfl, rfl⟩
          · refine wp_if (fun _ => ?_) (fun _ => ?_)
            · refine wp_vP (sT_extraOf L xs (by omega) a1 h) (fun v6 _ => ?_)
              exact ⟨_, rfl, trivial, rfl, rfl⟩
            · exact ⟨_, rfl, trivial, rfl, rfl⟩
theorem sP_child (L : Nat) (xs : Nat → Int32) {m d : Nat} (hm : 4294967296 ≤ m) (hd : 4 ≤ d) (a1 : Int32) (a2 : Int32) {g : a2_G} {r : a2_A} (h : CI g r) : wp (ev L xs (m + 1) d nP_child [.ref cP, .int a1, .int a2] g r) (kP g r (fun _ => True)) kN := by
  obtain ⟨d, rfl⟩ : ∃ e, d = e + 1 := ⟨d - 1, by omega⟩
  rw [qP_child]
  refine wp_vP (sT_childOf L xs hm (by omega) a1 a2 h) (fun v1 _ => ?_)
  exact ⟨_, rfl, trivial, rfl, rfl⟩
theorem sP_faults (L : Nat) (xs : Nat → Int32) {m d : Nat} (hd : 2 ≤ d) {g : a2_G} {r : a2_A} (h : CI g r) : wp (ev L xs (m + 1) d nP_faults [.ref cP] g r) (kP g r (fun _ => True)) kN := by
  obtain ⟨d, rfl⟩ : ∃ e, d = e + 1 := ⟨d - 1, by omega⟩
  rw [qP_faults]
  refine wp_vP (sR_faultCount L xs (by omega) h) (fun v1 _ => ?_)
  exact ⟨_, rfl, trivial, rfl, rfl⟩
theorem sP_fault (L : Nat) (xs : Nat → Int32) {m d : Nat} (hd : 2 ≤ d) (a1 : Int32) (a2 : Int32) {g : a2_G} {r : a2_A} (h : CI g r) : wp (ev L xs (m + 1) d nP_fault [.ref cP, .int a1, .int a2] g r) (kP g r (fun _ => True)) kN := by
  obtain ⟨d, rfl⟩ : ∃ e, d = e + 1 := ⟨d - 1, by omega⟩
  rw [qP_fault]
  refine wp_if (fun _ => ?_) (fun _ => ?_)
  · refine wp_vP (sR_faultNumber L xs (by omega) a1 h) (fun v1 _ => ?_)
    exact ⟨_, rfl, trivial, rfl, rfl⟩
  · refine wp_if (fun _ => ?_) (fun _ => ?_)
    · refine wp_vP (sR_faultPlace L xs (by omega) a1 h) (fun v2 _ => ?_)
      exact ⟨_, rfl, trivial, rfl, rfl⟩
    · exact ⟨_, rfl, trivial, rfl, rfl⟩
theorem sP_division (L : Nat) (xs : Nat → Int32) {m d : Nat} (hm : 4294967296 ≤ m) (hd : 4 ≤ d) (a1 : Int32) (a2 : Int32) {g : a2_G} {r : a2_A} (h : CI g r) : wp (ev L xs (m + 1) d nP_division [.ref cP, .int a1, .int a2] g r) (kP g r (fun _ => True)) kN := by
  obtain ⟨d, rfl⟩ : ∃ e, d = e + 1 := ⟨d - 1, by omega⟩
  rw [qP_division]
  refine wp_vP (sT_unitAt L xs hm (by omega) a1 h) (fun v1 _ => ?_)
  refine wp_if (fun _ => ?_) (fun _ => ?_)
  · exact ⟨_, rfl, trivial, rfl, rfl⟩
  · refine wp_if (fun _ => ?_) (fun _ => ?_)
    · refine wp_vP (sT_childOfKind L xs hm (by omega) v1 3 h) (fun v2 _ => ?_)
      exact ⟨_, rfl, trivial, rfl, rfl⟩
    · refine wp_if (fun _ => ?_) (fun _ => ?_)
      · refine wp_vP (sT_childOfKind L xs hm (by omega) v1 7 h) (fun v3 _ => ?_)
        exact ⟨_, rfl, trivial, rfl, rfl⟩
      · refine wp_if (fun _ => ?_) (fun _ => ?_)
        · refine wp_vP (sT_childOfKind L xs hm (by omega) v1 20 h) (fun v4 _ => ?_)
          exact ⟨_, rfl, trivial, rfl, rfl⟩
        · exact ⟨_, rfl, trivial, rfl, rfl⟩
theorem sP_depth (L : Nat) (xs : Nat → Int32) {m d : Nat} (hd : 2 ≤ d) {g : a2_G} {r : a2_A} (h : CI g r) : wp (ev L xs (m + 1) d nP_depth [.ref cP] g r) (kP g r (fun _ => True)) kN := by
  obtain ⟨d, rfl⟩ : ∃ e, d = e + 1 := ⟨d - 1, by omega⟩
  rw [qP_depth]
  refine wp_vP (sT_deepest L xs (by omega) h) (fun v1 _ => ?_)
  exact ⟨_, rfl, trivial, rfl, rfl⟩
theorem sP_count (L : Nat) (xs : Nat → Int32) {m d : Nat} (hd : 2 ≤ d) (a1 : Int32) {g : a2_G} {r : a2_A} (h : CI g r) : wp (ev L xs (m + 1) d nP_count [.ref cP, .int a1] g r) (kP g r (fun _ => True)) kN := by
  obtain ⟨d, rfl⟩ : ∃ e, d = e + 1 := ⟨d - 1, by omega⟩
  rw [qP_count]
  refine wp_if (fun _ => ?_) (fun _ => ?_)
  · refine wp_vP (sR_wordCount L xs (by omega) h) (fun v1 _ => ?_)
    exact ⟨_, rfl, trivial, rfl, rfl⟩
  · refine wp_if (fun _ => ?_) (fun _ => ?_)
    · refine wp_vP (sT_nodeCount L xs (by omega) h) (fun v2 _ => ?_)
      exact ⟨_, rfl, trivial, rfl, rfl⟩
    · refine wp_if (fun _ => ?_) (fun _ => ?_)
      · refine wp_vP (sT_unitCount L xs (by omega) h) (fun v3 _ => ?_)
        exact ⟨_, rfl, trivial, rfl, rfl⟩
      · exact ⟨_, rfl, trivial, rfl, rfl⟩
