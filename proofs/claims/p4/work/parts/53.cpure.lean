/-! Written by wip/p2/gensafe.py: the class's questions. -/
theorem sT_handleOf (L : Nat) (xs : Nat → Int32) {m d : Nat} (hd : 2 ≤ d) (a1 : Int32) {g : a2_G} {r : a2_A} (h : CI g r) : wp (ev L xs (m + 1) d nT_handleOf [.ref cT, .int a1] g r) (kP g r (fun _ => True)) kN := by
  obtain ⟨d, rfl⟩ : ∃ e, d = e + 1 := ⟨d - 1, by omega⟩
  rw [qT_handleOf]
  refine wp_if (fun _ => ?_) (fun _ => ?_)
  · unfold BT_handleOf_22
    unfold BT_handleOf_23
    exact ⟨_, rfl, trivial, rfl, rfl⟩
  · refine wp_if (fun _ => ?_) (fun _ => ?_)
    · unfold BT_handleOf_22
      unfold BT_handleOf_23
      exact ⟨_, rfl, trivial, rfl, rfl⟩
    · refine wp_vP (sT_get L xs (by omega) a1 11 h) (fun v1 _ => ?_)
      unfold BT_handleOf_23
      exact ⟨_, rfl, trivial, rfl, rfl⟩
theorem sT_numberOf (L : Nat) (xs : Nat → Int32) {m d : Nat} (hd : 2 ≤ d) (a1 : Int32) {g : a2_G} {r : a2_A} (h : CI g r) : wp (ev L xs (m + 1) d nT_numberOf [.ref cT, .int a1] g r) (kP g r (fun _ => True)) kN := by
  obtain ⟨d, rfl⟩ : ∃ e, d = e + 1 := ⟨d - 1, by omega⟩
  rw [qT_numberOf]
  refine wp_vP (sT_get L xs (by omega) a1 10 h) (fun v1 _ => ?_)
  exact ⟨_, rfl, trivial, rfl, rfl⟩
theorem sT_kindOf (L : Nat) (xs : Nat → Int32) {m d : Nat} (hd : 3 ≤ d) (a1 : Int32) {g : a2_G} {r : a2_A} (h : CI g r) : wp (ev L xs (m + 1) d nT_kindOf [.ref cT, .int a1] g r) (kP g r (fun _ => True)) kN := by
  obtain ⟨d, rfl⟩ : ∃ e, d = e + 1 := ⟨d - 1, by omega⟩
  rw [qT_kindOf]
  refine wp_vP (sT_handleOf L xs (by omega) a1 h) (fun v1 _ => ?_)
  refine wp_vP (sT_get L xs (by omega) v1 0 h) (fun v2 _ => ?_)
  exact ⟨_, rfl, trivial, rfl, rfl⟩
theorem sT_valueOf (L : Nat) (xs : Nat → Int32) {m d : Nat} (hd : 3 ≤ d) (a1 : Int32) {g : a2_G} {r : a2_A} (h : CI g r) : wp (ev L xs (m + 1) d nT_valueOf [.ref cT, .int a1] g r) (kP g r (fun _ => True)) kN := by
  obtain ⟨d, rfl⟩ : ∃ e, d = e + 1 := ⟨d - 1, by omega⟩
  rw [qT_valueOf]
  refine wp_vP (sT_handleOf L xs (by omega) a1 h) (fun v1 _ => ?_)
  refine wp_vP (sT_get L xs (by omega) v1 1 h) (fun v2 _ => ?_)
  exact ⟨_, rfl, trivial, rfl, rfl⟩
theorem sT_placeOf (L : Nat) (xs : Nat → Int32) {m d : Nat} (hd : 3 ≤ d) (a1 : Int32) {g : a2_G} {r : a2_A} (h : CI g r) : wp (ev L xs (m + 1) d nT_placeOf [.ref cT, .int a1] g r) (kP g r (fun _ => True)) kN := by
  obtain ⟨d, rfl⟩ : ∃ e, d = e + 1 := ⟨d - 1, by omega⟩
  rw [qT_placeOf]
  refine wp_vP (sT_handleOf L xs (by omega) a1 h) (fun v1 _ => ?_)
  refine wp_vP (sT_get L xs (by omega) v1 2 h) (fun v2 _ => ?_)
  exact ⟨_, rfl, trivial, rfl, rfl⟩
theorem sT_childrenOf (L : Nat) (xs : Nat → Int32) {m d : Nat} (hd : 3 ≤ d) (a1 : Int32) {g : a2_G} {r : a2_A} (h : CI g r) : wp (ev L xs (m + 1) d nT_childrenOf [.ref cT, .int a1] g r) (kP g r (fun _ => True)) kN := by
  obtain ⟨d, rfl⟩ : ∃ e, d = e + 1 := ⟨d - 1, by omega⟩
  rw [qT_childrenOf]
  refine wp_vP (sT_handleOf L xs (by omega) a1 h) (fun v1 _ => ?_)
  refine wp_vP (sT_get L xs (by omega) v1 8 h) (fun v2 _ => ?_)
  exact ⟨_, rfl, trivial, rfl, rfl⟩
theorem sT_parentOf (L : Nat) (xs : Nat → Int32) {m d : Nat} (hd : 3 ≤ d) (a1 : Int32) {g : a2_G} {r : a2_A} (h : CI g r) : wp (ev L xs (m + 1) d nT_parentOf [.ref cT, .int a1] g r) (kP g r (fun _ => True)) kN := by
  obtain ⟨d, rfl⟩ : ∃ e, d = e + 1 := ⟨d - 1, by omega⟩
  rw [qT_parentOf]
  refine wp_vP (sT_handleOf L xs (by omega) a1 h) (fun v1 _ => ?_)
  refine wp_vP (sT_get L xs (by omega) v1 4 h) (fun v2 _ => ?_)
  refine wp_vP (sT_numberOf L xs (by omega) v2 h) (fun v3 _ => ?_)
  exact ⟨_, rfl, trivial, rfl, rfl⟩
theorem sT_extraOf (L : Nat) (xs : Nat → Int32) {m d : Nat} (hd : 4 ≤ d) (a1 : Int32) {g : a2_G} {r : a2_A} (h : CI g r) : wp (ev L xs (m + 1) d nT_extraOf [.ref cT, .int a1] g r) (kP g r (fun _ => True)) kN := by
  obtain ⟨d, rfl⟩ : ∃ e, d = e + 1 := ⟨d - 1, by omega⟩
  rw [qT_extraOf]
  refine wp_vP (sT_handleOf L xs (by omega) a1 h) (fun v1 _ => ?_)
  refine wp_vP (sT_get L xs (by omega) v1 3 h) (fun v2 _ => ?_)
  refine wp_vP (sT_kindOf L xs (by omega) a1 h) (fun v3 _ => ?_)
  refine wp_if (fun _ => ?_) (fun _ => ?_)
  · unfold BT_extraOf_30
    exact ⟨_, rfl, trivial, rfl, rfl⟩
  · refine wp_vP (sT_numberOf L xs (by omega) v2 h) (fun v4 _ => ?_)
    unfold BT_extraOf_30
    exact ⟨_, rfl, trivial, rfl, rfl⟩
theorem sT_deepest (L : Nat) (xs : Nat → Int32) {m d : Nat} (hd : 1 ≤ d) {g : a2_G} {r : a2_A} (h : CI g r) : wp (ev L xs (m + 1) d nT_deepest [.ref cT] g r) (kP g r (fun _ => True)) kN := by
  obtain ⟨d, rfl⟩ : ∃ e, d = e + 1 := ⟨d - 1, by omega⟩
  rw [qT_deepest]
  exact ⟨_, rfl, trivial, rfl, rfl⟩
theorem sT_nodeCount (L : Nat) (xs : Nat → Int32) {m d : Nat} (hd : 1 ≤ d) {g : a2_G} {r : a2_A} (h : CI g r) : wp (ev L xs (m + 1) d nT_nodeCount [.ref cT] g r) (kP g r (fun _ => True)) kN := by
  obtain ⟨d, rfl⟩ : ∃ e, d = e + 1 := ⟨d - 1, by omega⟩
  rw [qT_nodeCount]
  exact ⟨_, rfl, trivial, rfl, rfl⟩
theorem sT_unitCount (L : Nat) (xs : Nat → Int32) {m d : Nat} (hd : 1 ≤ d) {g : a2_G} {r : a2_A} (h : CI g r) : wp (ev L xs (m + 1) d nT_unitCount [.ref cT] g r) (kP g r (fun _ => True)) kN := by
  obtain ⟨d, rfl⟩ : ∃ e, d = e + 1 := ⟨d - 1, by omega⟩
  rw [qT_unitCount]
  exact ⟨_, rfl, trivial, rfl, rfl⟩
theorem sT_isUnit (L : Nat) (xs : Nat → Int32) {m d : Nat} (hd : 2 ≤ d) (a1 : Int32) {g : a2_G} {r : a2_A} (h : CI g r) : wp (ev L xs (m + 1) d nT_isUnit [.ref cT, .int a1] g r) (kB g r True) kN := by
  obtain ⟨d, rfl⟩ : ∃ e, d = e + 1 := ⟨d - 1, by omega⟩
  rw [qT_isUnit]
  refine wp_vP (sT_get L xs (by omega) a1 0 h) (fun v1 _ => ?_)
  refine wp_if (fun _ => ?_) (fun _ => ?_)
  · unfold BT_isUnit_17
    unfold BT_isUnit_22
    refine wp_if (fun _ => ?_) (fun hc => absurd (by decide) hc)
    exact ⟨_, rfl, Or.inr ⟨rfl, trivial⟩, rfl, rfl⟩
  · refine wp_if (fun _ => ?_) (fun _ => ?_)
    · unfold BT_isUnit_22
      refine wp_if (fun _ => ?_) (fun hc => absurd (by decide) hc)
      exact ⟨_, rfl, Or.inl rfl, rfl, rfl⟩
    · unfold BT_isUnit_17
      unfold BT_isUnit_22
      refine wp_if (fun _ => ?_) (fun hc => absurd (by decide) hc)
      exact ⟨_, rfl, Or.inr ⟨rfl, trivial⟩, rfl, rfl⟩
theorem sS_isNext (L : Nat) (xs : Nat → Int32) {m d : Nat} (hd : 2 ≤ d) {g : a2_G} {r : a2_A} (h : CI g r) : wp (ev L xs (m + 1) d nS_isNext [.ref cS] g r) (kB g r (Lt g)) kN := by
  obtain ⟨d, rfl⟩ : ∃ e, d = e + 1 := ⟨d - 1, by omega⟩
  rw [qS_isNext]
  refine wp_vP (sR_value L xs (by omega) h) (fun v1 _ => ?_)
  refine wp_if (fun _ => ?_) (fun _ => ?_)
  · unfold BS_isNext_20
    refine wp_if (fun _ => ?_) (fun _ => ?_)
    · unfold BS_isNext_31
      refine wp_vB (sR_isKind L xs (by omega) 0 h) ?_ (fun f2 => ?_)
      · refine wp_if (fun _ => ?_) (fun hc => absurd (by decide) hc)
        unfold BS_isNext_51
        unfold BS_isNext_52
        refine wp_if (fun _ => ?_) (fun hc => absurd (by decide) hc)
        exact ⟨_, rfl, Or.inl rfl, rfl, rfl⟩
      · refine wp_if (fun hc => absurd hc (by decide)) (fun _ => ?_)
        refine wp_if (fun _ => ?_) (fun hc => absurd (by decide) hc)
        unfold BS_isNext_51
        unfold BS_isNext_52
        refine wp_if (fun _ => ?_) (fun hc => absurd (by decide) hc)
        exact ⟨_, rfl, Or.inl rfl, rfl, rfl⟩
    · unfold BS_isNext_26
      unfold BS_isNext_31
      refine wp_vB (sR_isKind L xs (by omega) 0 h) ?_ (fun f3 => ?_)
      · refine wp_if (fun _ => ?_) (fun hc => absurd (by decide) hc)
        unfold BS_isNext_51
        unfold BS_isNext_52
        refine wp_if (fun _ => ?_) (fun hc => absurd (by decide) hc)
        exact ⟨_, rfl, Or.inl rfl, rfl, rfl⟩
      · refine wp_if (fun hc => absurd hc (by decide)) (fun _ => ?_)
        refine wp_if (fun hc => absurd hc (by decide)) (fun _ => ?_)
        unfold BS_isNext_52
        refine wp_if (fun _ => ?_) (fun hc => absurd (by decide) hc)
        exact ⟨_, rfl, Or.inr ⟨rfl, f3⟩, rfl, rfl⟩
  · refine wp_if (fun _ => ?_) (fun _ => ?_)
    · unfold BS_isNext_26
      unfold BS_isNext_31
      refine wp_vB (sR_isKind L xs (by omega) 0 h) ?_ (fun f4 => ?_)
      · refine wp_if (fun _ => ?_) (fun hc => absurd (by decide) hc)
        unfold BS_isNext_51
        unfold BS_isNext_52
        refine wp_if (fun _ => ?_) (fun hc => absurd (by decide) hc)
        exact ⟨_, rfl, Or.inl rfl, rfl, rfl⟩
      · refine wp_if (fun hc => absurd hc (by decide)) (fun _ => ?_)
        refine wp_if (fun hc => absurd hc (by decide)) (fun _ => ?_)
        unfold BS_isNext_52
        refine wp_if (fun _ => ?_) (fun hc => absurd (by decide) hc)
        exact ⟨_, rfl, Or.inr ⟨rfl, f4⟩, rfl, rfl⟩
    · unfold BS_isNext_20
      refine wp_if (fun _ => ?_) (fun _ => ?_)
      · unfold BS_isNext_31
        refine wp_vB (sR_isKind L xs (by omega) 0 h) ?_ (fun f5 => ?_)
        · refine wp_if (fun _ => ?_) (fun hc => absurd (by decide) hc)
          unfold BS_isNext_51
          unfold BS_isNext_52
          refine wp_if (fun _ => ?_) (fun hc => absurd (by decide) hc)
          exact ⟨_, rfl, Or.inl rfl, rfl, rfl⟩
        · refine wp_if (fun hc => absurd hc (by decide)) (fun _ => ?_)
          refine wp_if (fun _ => ?_) (fun hc => absurd (by decide) hc)
          unfold BS_isNext_51
          unfold BS_isNext_52
          refine wp_if (fun _ => ?_) (fun hc => absurd (by decide) hc)
          exact ⟨_, rfl, Or.inl rfl, rfl, rfl⟩
      · unfold BS_isNext_26
        unfold BS_isNext_31
        refine wp_vB (sR_isKind L xs (by omega) 0 h) ?_ (fun f6 => ?_)
        · refine wp_if (fun _ => ?_) (fun hc => absurd (by decide) hc)
          unfold BS_isNext_51
          unfold BS_isNext_52
          refine wp_if (fun _ => ?_) (fun hc => absurd (by decide) hc)
          exact ⟨_, rfl, Or.inl rfl, rfl, rfl⟩
        · refine wp_if (fun hc => absurd hc (by decide)) (fun _ => ?_)
          refine wp_if (fun hc => absurd hc (by decide)) (fun _ => ?_)
          unfold BS_isNext_52
          refine wp_if (fun _ => ?_) (fun hc => absurd (by decide) hc)
          exact ⟨_, rfl, Or.inr ⟨rfl, f6⟩, rfl, rfl⟩
theorem sX_isComparing (L : Nat) (xs : Nat → Int32) {m d : Nat} (hd : 2 ≤ d) (a1 : Int32) {g : a2_G} {r : a2_A} (h : CI g r) : wp (ev L xs (m + 1) d nX_isComparing [.ref cX, .int a1] g r) (kB g r True) kN := by
  obtain ⟨d, rfl⟩ : ∃ e, d = e + 1 := ⟨d - 1, by omega⟩
  rw [qX_isComparing]
  refine wp_vB (sR_isReserved L xs (by omega) 67 a1 h) ?_ (fun f1 => ?_)
  · refine wp_if (fun hc => absurd hc (by decide)) (fun _ => ?_)
    refine wp_vB (sR_isComparingWord L xs (by omega) a1 h) ?_ (fun f2 => ?_)
    · refine wp_if (fun hc => absurd hc (by decide)) (fun _ => ?_)
      refine wp_vB (sR_isReserved L xs (by omega) 64 a1 h) ?_ (fun f3 => ?_)
      · refine wp_if (fun _ => ?_) (fun hc => absurd (by decide) hc)
        unfold BX_isComparing_54
        unfold BX_isComparing_55
        refine wp_if (fun _ => ?_) (fun hc => absurd (by decide) hc)
        exact ⟨_, rfl, Or.inl rfl, rfl, rfl⟩
      · refine wp_if (fun hc => absurd hc (by decide)) (fun _ => ?_)
        refine wp_vB (sR_isComparingWord L xs (by omega) (a1 + 1) h) ?_ (fun f4 => ?_)
        · refine wp_if (fun _ => ?_) (fun hc => absurd (by decide) hc)
          unfold BX_isComparing_54
          unfold BX_isComparing_55
          refine wp_if (fun _ => ?_) (fun hc => absurd (by decide) hc)
          exact ⟨_, rfl, Or.inl rfl, rfl, rfl⟩
        · refine wp_if (fun hc => absurd hc (by decide)) (fun _ => ?_)
          unfold BX_isComparing_50
          unfold BX_isComparing_55
          refine wp_if (fun _ => ?_) (fun hc => absurd (by decide) hc)
          exact ⟨_, rfl, Or.inr ⟨rfl, trivial⟩, rfl, rfl⟩
    · refine wp_if (fun _ => ?_) (fun hc => absurd (by decide) hc)
      unfold BX_isComparing_50
      unfold BX_isComparing_55
      refine wp_if (fun _ => ?_) (fun hc => absurd (by decide) hc)
      exact ⟨_, rfl, Or.inr ⟨rfl, trivial⟩, rfl, rfl⟩
  · refine wp_if (fun _ => ?_) (fun hc => absurd (by decide) hc)
    unfold BX_isComparing_50
    unfold BX_isComparing_55
    refine wp_if (fun _ => ?_) (fun hc => absurd (by decide) hc)
    exact ⟨_, rfl, Or.inr ⟨rfl, trivial⟩, rfl, rfl⟩
theorem sC_mayHoldSentences (L : Nat) (xs : Nat → Int32) {m d : Nat} (hd : 2 ≤ d) {g : a2_G} {r : a2_A} (h : CI g r) : wp (ev L xs (m + 1) d nC_mayHoldSentences [.ref cC] g r) (kB g r True) kN := by
  obtain ⟨d, rfl⟩ : ∃ e, d = e + 1 := ⟨d - 1, by omega⟩
  rw [qC_mayHoldSentences]
  refine wp_vP (sU_state L xs (by omega) h) (fun v1 _ => ?_)
  refine wp_if (fun _ => ?_) (fun _ => ?_)
  · unfold BC_mayHoldSentences_20
    unfold BC_mayHoldSentences_25
    refine wp_if (fun _ => ?_) (fun hc => absurd (by decide) hc)
    exact ⟨_, rfl, Or.inr ⟨rfl, trivial⟩, rfl, rfl⟩
  · refine wp_if (fun _ => ?_) (fun _ => ?_)
    · unfold BC_mayHoldSentences_25
      refine wp_if (fun _ => ?_) (fun hc => absurd (by decide) hc)
      exact ⟨_, rfl, Or.inl rfl, rfl, rfl⟩
    · unfold BC_mayHoldSentences_20
      unfold BC_mayHoldSentences_25
      refine wp_if (fun _ => ?_) (fun hc => absurd (by decide) hc)
      exact ⟨_, rfl, Or.inr ⟨rfl, trivial⟩, rfl, rfl⟩
theorem sC_mayEndOrContain (L : Nat) (xs : Nat → Int32) {m d : Nat} (hd : 2 ≤ d) {g : a2_G} {r : a2_A} (h : CI g r) : wp (ev L xs (m + 1) d nC_mayEndOrContain [.ref cC] g r) (kB g r True) kN := by
  obtain ⟨d, rfl⟩ : ∃ e, d = e + 1 := ⟨d - 1, by omega⟩
  rw [qC_mayEndOrContain]
  refine wp_vP (sU_state L xs (by omega) h) (fun v1 _ => ?_)
  refine wp_if (fun _ => ?_) (fun _ => ?_)
  · unfold BC_mayEndOrContain_27
    unfold BC_mayEndOrContain_28
    refine wp_if (fun _ => ?_) (fun hc => absurd (by decide) hc)
    exact ⟨_, rfl, Or.inl rfl, rfl, rfl⟩
  · refine wp_vP (sU_state L xs (by omega) h) (fun v2 _ => ?_)
    refine wp_if (fun _ => ?_) (fun _ => ?_)
    · unfold BC_mayEndOrContain_27
      unfold BC_mayEndOrContain_28
      refine wp_if (fun _ => ?_) (fun hc => absurd (by decide) hc)
      exact ⟨_, rfl, Or.inl rfl, rfl, rfl⟩
    · unfold BC_mayEndOrContain_28
      refine wp_if (fun _ => ?_) (fun hc => absurd (by decide) hc)
      exact ⟨_, rfl, Or.inr ⟨rfl, trivial⟩, rfl, rfl⟩
