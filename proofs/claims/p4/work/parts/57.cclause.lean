/-! Written by wip/p2/gensafe.py: clauses keep the class's rows. -/
theorem sC_sentence (L : Nat) (xs : Nat → Int32) {m d : Nat} (hm : 4294967296 ≤ m) (hd : 666 ≤ d) {b bq bx : Int} {g : a2_G} {r : a2_A} (h : Cs b g r) (hb : b ≤ 3243) (hq : b + (-2) ≤ bq) (hx : b + (1) ≤ bx) : wp (ev L xs (m + 1) d nC_sentence [.ref cC] g r) (kO bq) (kX bx) := by
  obtain ⟨d, rfl⟩ : ∃ e, d = e + 1 := ⟨d - 1, by omega⟩
  rw [qC_sentence]
  refine wp_nO (sC_requireState L xs hm (by omega) 8 11 h (by omega) (Int.le_refl _) (by omega)) (fun g1 r1 h1 => ?_)
  refine wp_vB (sC_mayHoldSentences L xs (by omega) h1.1) ?_ (fun f2 => ?_)
  · refine wp_nO (sC_requireThat L xs hm (by omega) 0 h1 (by omega) (Int.le_refl _) (by omega)) (fun g3 r3 h3 => ?_)
    refine wp_vV ((s_list L xs hm 41) 25 0 (by omega) (by first | decide | omega) (by first | decide | omega) (by first | decide | omega) h3 (by omega) (Int.le_refl _) (by omega)) (fun v4 g4 r4 h4 => ?_)
    refine wp_vV (sR_requireKind L xs hm (by omega) 4 h4 (by omega) (Int.le_refl _) (by omega)) (fun v5 g5 r5 h5 => ?_)
    refine wp_if (fun _ => ?_) (fun _ => ?_)
    · unfold BC_sentence_55
      refine wp_if (fun _ => ?_) (fun _ => ?_)
      · unfold BC_sentence_76
        refine wp_nT (sT_append L xs (by omega) (g5 fC_paragraph) v4 h5) (fun g6 r6 h6 q6 => ?_)
        refine wp_nO (sC_enterBody L xs hm (by omega) h6 (by omega) (Int.le_refl _) (by omega)) (fun g7 r7 h7 => ?_)
        exact ⟨rfl, Cs.le h7 (by omega)⟩
      · unfold BC_sentence_76
        refine wp_nT (sT_append L xs (by omega) (g5 fC_section) v4 h5) (fun g8 r8 h8 q8 => ?_)
        refine wp_nO (sC_enterBody L xs hm (by omega) h8 (by omega) (Int.le_refl _) (by omega)) (fun g9 r9 h9 => ?_)
        exact ⟨rfl, Cs.le h9 (by omega)⟩
    · unfold BC_sentence_55
      refine wp_if (fun _ => ?_) (fun _ => ?_)
      · unfold BC_sentence_76
        refine wp_nT (sT_append L xs (by omega) (g5 fC_paragraph) v4 h5) (fun g10 r10 h10 q10 => ?_)
        refine wp_nO (sC_enterBody L xs hm (by omega) h10 (by omega) (Int.le_refl _) (by omega)) (fun g11 r11 h11 => ?_)
        exact ⟨rfl, Cs.le h11 (by omega)⟩
      · unfold BC_sentence_76
        refine wp_nT (sT_append L xs (by omega) (g5 fC_openDivision) v4 h5) (fun g12 r12 h12 q12 => ?_)
        refine wp_nO (sC_enterBody L xs hm (by omega) h12 (by omega) (Int.le_refl _) (by omega)) (fun g13 r13 h13 => ?_)
        exact ⟨rfl, Cs.le h13 (by omega)⟩
  · refine wp_nO (sC_requireThat L xs hm (by omega) 1 h1 (by omega) (Int.le_refl _) (by omega)) (fun g14 r14 h14 => ?_)
    refine wp_vV ((s_list L xs hm 41) 25 0 (by omega) (by first | decide | omega) (by first | decide | omega) (by first | decide | omega) h14 (by omega) (Int.le_refl _) (by omega)) (fun v15 g15 r15 h15 => ?_)
    refine wp_vV (sR_requireKind L xs hm (by omega) 4 h15 (by omega) (Int.le_refl _) (by omega)) (fun v16 g16 r16 h16 => ?_)
    refine wp_if (fun _ => ?_) (fun _ => ?_)
    · unfold BC_sentence_55
      refine wp_if (fun _ => ?_) (fun _ => ?_)
      · unfold BC_sentence_76
        refine wp_nT (sT_append L xs (by omega) (g16 fC_paragraph) v15 h16) (fun g17 r17 h17 q17 => ?_)
        refine wp_nO (sC_enterBody L xs hm (by omega) h17 (by omega) (Int.le_refl _) (by omega)) (fun g18 r18 h18 => ?_)
        exact ⟨rfl, Cs.le h18 (by omega)⟩
      · unfold BC_sentence_76
        refine wp_nT (sT_append L xs (by omega) (g16 fC_section) v15 h16) (fun g19 r19 h19 q19 => ?_)
        refine wp_nO (sC_enterBody L xs hm (by omega) h19 (by omega) (Int.le_refl _) (by omega)) (fun g20 r20 h20 => ?_)
        exact ⟨rfl, Cs.le h20 (by omega)⟩
    · unfold BC_sentence_55
      refine wp_if (fun _ => ?_) (fun _ => ?_)
      · unfold BC_sentence_76
        refine wp_nT (sT_append L xs (by omega) (g16 fC_paragraph) v15 h16) (fun g21 r21 h21 q21 => ?_)
        refine wp_nO (sC_enterBody L xs hm (by omega) h21 (by omega) (Int.le_refl _) (by omega)) (fun g22 r22 h22 => ?_)
        exact ⟨rfl, Cs.le h22 (by omega)⟩
      · unfold BC_sentence_76
        refine wp_nT (sT_append L xs (by omega) (g16 fC_openDivision) v15 h16) (fun g23 r23 h23 q23 => ?_)
        refine wp_nO (sC_enterBody L xs hm (by omega) h23 (by omega) (Int.le_refl _) (by omega)) (fun g24 r24 h24 => ?_)
        exact ⟨rfl, Cs.le h24 (by omega)⟩
theorem sC_sectionOrParagraph (L : Nat) (xs : Nat → Int32) {m d : Nat} (hm : 4294967296 ≤ m) (hd : 4 ≤ d) {b bq bx : Int} {g : a2_G} {r : a2_A} (h : Cs b g r) (hb : b ≤ 3250) (hq : b + (-5) ≤ bq) (hx : b + (0) ≤ bx) : wp (ev L xs (m + 1) d nC_sectionOrParagraph [.ref cC] g r) (kO bq) (kX bx) := by
  obtain ⟨d, rfl⟩ : ∃ e, d = e + 1 := ⟨d - 1, by omega⟩
  rw [qC_sectionOrParagraph]
  refine wp_vB (sR_isReserved L xs (by omega) 16 1 h.1) ?_ (fun f1 => ?_)
  · refine wp_nO (sC_requireState L xs hm (by omega) 8 11 h (by omega) (Int.le_refl _) (by omega)) (fun g2 r2 h2 => ?_)
    refine wp_if (fun hc => absurd hc (by decide)) (fun _ => ?_)
    refine wp_vB (sC_mayHoldSentences L xs (by omega) h2.1) ?_ (fun f3 => ?_)
    · refine wp_if (fun _ => ?_) (fun hc => absurd (by decide) hc)
      unfold BC_sectionOrParagraph_36
      refine wp_nO (sC_requireThat L xs hm (by omega) 0 h2 (by omega) (Int.le_refl _) (by omega)) (fun g4 r4 h4 => ?_)
      refine wp_vP (sR_place L xs (by omega) h4.1) (fun v5 _ => ?_)
      refine wp_if (fun _ => ?_) (fun hc => absurd (by decide) hc)
      unfold BC_sectionOrParagraph_62
      refine wp_vV (sR_requireKind L xs hm (by omega) 1 h4 (by omega) (Int.le_refl _) (by omega)) (fun v6 g6 r6 h6 => ?_)
      refine wp_vT (sT_make L xs hm (by omega) 24 v6 v5 h6 (by omega)) (fun v7 g7 r7 h7 q7 => ?_)
      refine wp_vVN (sR_skipW L xs (by omega) 16 h7) (fun v8 g8 r8 h8 => ?_)
      refine wp_vV (sR_requireKind L xs hm (by omega) 4 h8 (by omega) (Int.le_refl _) (by omega)) (fun v9 g9 r9 h9 => ?_)
      refine wp_if (fun _ => ?_) (fun hc => absurd (by decide) hc)
      refine wp_if (fun _ => ?_) (fun _ => ?_)
      · unfold BC_sectionOrParagraph_165
        refine wp_nT (sT_append L xs (by omega) (g9 fC_section) v7 h9) (fun g10 r10 h10 q10 => ?_)
        unfold BC_sectionOrParagraph_174
        refine wp_nO (sC_enterBody L xs hm (by omega) (show Cs _ (upd g10 fC_paragraph v7) r10 from h10) (by omega) (Int.le_refl _) (by omega)) (fun g11 r11 h11 => ?_)
        exact ⟨rfl, Cs.le h11 (by omega)⟩
      · unfold BC_sectionOrParagraph_165
        refine wp_nT (sT_append L xs (by omega) (g9 fC_openDivision) v7 h9) (fun g12 r12 h12 q12 => ?_)
        unfold BC_sectionOrParagraph_174
        refine wp_nO (sC_enterBody L xs hm (by omega) (show Cs _ (upd g12 fC_paragraph v7) r12 from h12) (by omega) (Int.le_refl _) (by omega)) (fun g13 r13 h13 => ?_)
        exact ⟨rfl, Cs.le h13 (by omega)⟩
    · refine wp_if (fun hc => absurd hc (by decide)) (fun _ => ?_)
      unfold BC_sectionOrParagraph_31
      unfold BC_sectionOrParagraph_36
      refine wp_nO (sC_requireThat L xs hm (by omega) 1 h2 (by omega) (Int.le_refl _) (by omega)) (fun g14 r14 h14 => ?_)
      refine wp_vP (sR_place L xs (by omega) h14.1) (fun v15 _ => ?_)
      refine wp_if (fun _ => ?_) (fun hc => absurd (by decide) hc)
      unfold BC_sectionOrParagraph_62
      refine wp_vV (sR_requireKind L xs hm (by omega) 1 h14 (by omega) (Int.le_refl _) (by omega)) (fun v16 g16 r16 h16 => ?_)
      refine wp_vT (sT_make L xs hm (by omega) 24 v16 v15 h16 (by omega)) (fun v17 g17 r17 h17 q17 => ?_)
      refine wp_vVN (sR_skipW L xs (by omega) 16 h17) (fun v18 g18 r18 h18 => ?_)
      refine wp_vV (sR_requireKind L xs hm (by omega) 4 h18 (by omega) (Int.le_refl _) (by omega)) (fun v19 g19 r19 h19 => ?_)
      refine wp_if (fun _ => ?_) (fun hc => absurd (by decide) hc)
      refine wp_if (fun _ => ?_) (fun _ => ?_)
      · unfold BC_sectionOrParagraph_165
        refine wp_nT (sT_append L xs (by omega) (g19 fC_section) v17 h19) (fun g20 r20 h20 q20 => ?_)
        unfold BC_sectionOrParagraph_174
        refine wp_nO (sC_enterBody L xs hm (by omega) (show Cs _ (upd g20 fC_paragraph v17) r20 from h20) (by omega) (Int.le_refl _) (by omega)) (fun g21 r21 h21 => ?_)
        exact ⟨rfl, Cs.le h21 (by omega)⟩
      · unfold BC_sectionOrParagraph_165
        refine wp_nT (sT_append L xs (by omega) (g19 fC_openDivision) v17 h19) (fun g22 r22 h22 q22 => ?_)
        unfold BC_sectionOrParagraph_174
        refine wp_nO (sC_enterBody L xs hm (by omega) (show Cs _ (upd g22 fC_paragraph v17) r22 from h22) (by omega) (Int.le_refl _) (by omega)) (fun g23 r23 h23 => ?_)
        exact ⟨rfl, Cs.le h23 (by omega)⟩
  · refine wp_nO (sC_requireState L xs hm (by omega) 8 11 h (by omega) (Int.le_refl _) (by omega)) (fun g24 r24 h24 => ?_)
    refine wp_if (fun _ => ?_) (fun hc => absurd (by decide) hc)
    unfold BC_sectionOrParagraph_31
    unfold BC_sectionOrParagraph_36
    refine wp_nO (sC_requireThat L xs hm (by omega) 1 h24 (by omega) (Int.le_refl _) (by omega)) (fun g25 r25 h25 => ?_)
    refine wp_vP (sR_place L xs (by omega) h25.1) (fun v26 _ => ?_)
    refine wp_if (fun hc => absurd hc (by decide)) (fun _ => ?_)
    unfold BC_sectionOrParagraph_62
    refine wp_vV (sR_requireKind L xs hm (by omega) 1 h25 (by omega) (Int.le_refl _) (by omega)) (fun v27 g27 r27 h27 => ?_)
    refine wp_vT (sT_make L xs hm (by omega) 23 v27 v26 h27 (by omega)) (fun v28 g28 r28 h28 q28 => ?_)
    refine wp_vVN (sR_skipW L xs (by omega) 16 h28) (fun v29 g29 r29 h29 => ?_)
    refine wp_vV (sR_requireKind L xs hm (by omega) 4 h29 (by omega) (Int.le_refl _) (by omega)) (fun v30 g30 r30 h30 => ?_)
    refine wp_if (fun hc => absurd hc (by decide)) (fun _ => ?_)
    refine wp_vP (sU_state L xs (by omega) h30.1) (fun v31 _ => ?_)
    refine wp_if (fun _ => ?_) (fun _ => ?_)
    · unfold BC_sectionOrParagraph_125
      refine wp_nT (sT_append L xs (by omega) (g30 fC_openDivision) v28 h30) (fun g32 r32 h32 q32 => ?_)
      unfold BC_sectionOrParagraph_174
      refine wp_nO (sC_enterBody L xs hm (by omega) (show Cs _ (upd (upd g32 fC_section v28) fC_paragraph (-1)) r32 from h32) (by omega) (Int.le_refl _) (by omega)) (fun g33 r33 h33 => ?_)
      exact ⟨rfl, Cs.le h33 (by omega)⟩
    · unfold BC_sectionOrParagraph_125
      refine wp_nT (sT_append L xs (by omega) (g30 fC_declaratives) v28 h30) (fun g34 r34 h34 q34 => ?_)
      unfold BC_sectionOrParagraph_174
      refine wp_nO (sC_enterBody L xs hm (by omega) (show Cs _ (upd (upd g34 fC_section v28) fC_paragraph (-1)) r34 from h34) (by omega) (Int.le_refl _) (by omega)) (fun g35 r35 h35 => ?_)
      exact ⟨rfl, Cs.le h35 (by omega)⟩
theorem sC_unitName (L : Nat) (xs : Nat → Int32) {m d : Nat} (hm : 4294967296 ≤ m) (hd : 3 ≤ d) (a1 : Int32) {b bq bx : Int} {g : a2_G} {r : a2_A} (h : Cs b g r) (hb : b ≤ 3250) (hq : b + (-6) ≤ bq) (hx : b + (0) ≤ bx) : wp (ev L xs (m + 1) d nC_unitName [.ref cC, .int a1] g r) (kO bq) (kX bx) := by
  obtain ⟨d, rfl⟩ : ∃ e, d = e + 1 := ⟨d - 1, by omega⟩
  rw [qC_unitName]
  refine wp_nON (sR_advance L xs (by omega) h) (fun g1 r1 h1 => ?_)
  refine wp_vV (sR_requireKind L xs hm (by omega) 1 h1 (by omega) (Int.le_refl _) (by omega)) (fun v2 g2 r2 h2 => ?_)
  refine wp_vV (sR_requireKind L xs hm (by omega) 4 h2 (by omega) (Int.le_refl _) (by omega)) (fun v3 g3 r3 h3 => ?_)
  refine wp_nT (sU_identify L xs (by omega) a1 v2 h3) (fun g4 r4 h4 q4 => ?_)
  refine wp_nT (sU_setState L xs (by omega) 1 h4) (fun g5 r5 h5 q5 => ?_)
  refine wp_vP (sU_handle L xs (by omega) h5.1) (fun v6 _ => ?_)
  refine wp_nT (sT_set L xs (by omega) v6 0 a1 h5) (fun g7 r7 h7 q7 => ?_)
  refine wp_vP (sU_handle L xs (by omega) h7.1) (fun v8 _ => ?_)
  refine wp_nT (sT_set L xs (by omega) v8 1 v2 h7) (fun g9 r9 h9 q9 => ?_)
  exact ⟨rfl, Cs.le h9 (by omega)⟩
theorem sC_organization (L : Nat) (xs : Nat → Int32) {m d : Nat} (hm : 4294967296 ≤ m) (hd : 3 ≤ d) (a1 : Int32) {b bq bx : Int} {g : a2_G} {r : a2_A} (h : Cs b g r) (hb : b ≤ 3250) (hq : b + (1) ≤ bq) (hx : b + (0) ≤ bx) : wp (ev L xs (m + 1) d nC_organization [.ref cC, .int a1] g r) (kO bq) (kX bx) := by
  obtain ⟨d, rfl⟩ : ∃ e, d = e + 1 := ⟨d - 1, by omega⟩
  rw [qC_organization]
  refine wp_vP (sR_place L xs (by omega) h.1) (fun v1 _ => ?_)
  refine wp_nON (sR_advance L xs (by omega) h) (fun g2 r2 h2 => ?_)
  refine wp_vVN (sR_skipW L xs (by omega) 67 h2) (fun v3 g3 r3 h3 => ?_)
  refine wp_vP (sR_value L xs (by omega) h3.1) (fun v4 _ => ?_)
  refine wp_vB (sR_isKind L xs (by omega) 0 h3.1) ?_ (fun f5 => ?_)
  · refine wp_if (fun _ => ?_) (fun hc => absurd (by decide) hc)
    unfold BC_organization_61
    unfold BC_organization_62
    refine wp_nO (sC_requireThat L xs hm (by omega) 0 h3 (by omega) (Int.le_refl _) (by omega)) (fun g6 r6 h6 => ?_)
    refine wp_nON (sR_advance L xs (by omega) h6) (fun g7 r7 h7 => ?_)
    refine wp_vT (sT_make L xs hm (by omega) 5 (v4 - 8) v1 h7 (by omega)) (fun v8 g8 r8 h8 q8 => ?_)
    refine wp_nT (sT_append L xs (by omega) a1 v8 h8) (fun g9 r9 h9 q9 => ?_)
    exact ⟨rfl, Cs.le h9 (by omega)⟩
  · refine wp_if (fun hc => absurd hc (by decide)) (fun _ => ?_)
    refine wp_if (fun _ => ?_) (fun _ => ?_)
    · unfold BC_organization_61
      unfold BC_organization_62
      refine wp_nO (sC_requireThat L xs hm (by omega) 0 h3 (by omega) (Int.le_refl _) (by omega)) (fun g10 r10 h10 => ?_)
      refine wp_nON (sR_advance L xs (by omega) h10) (fun g11 r11 h11 => ?_)
      refine wp_vT (sT_make L xs hm (by omega) 5 (v4 - 8) v1 h11 (by omega)) (fun v12 g12 r12 h12 q12 => ?_)
      refine wp_nT (sT_append L xs (by omega) a1 v12 h12) (fun g13 r13 h13 q13 => ?_)
      exact ⟨rfl, Cs.le h13 (by omega)⟩
    · refine wp_if (fun _ => ?_) (fun _ => ?_)
      · unfold BC_organization_61
        unfold BC_organization_62
        refine wp_nO (sC_requireThat L xs hm (by omega) 0 h3 (by omega) (Int.le_refl _) (by omega)) (fun g14 r14 h14 => ?_)
        refine wp_nON (sR_advance L xs (by omega) h14) (fun g15 r15 h15 => ?_)
        refine wp_vT (sT_make L xs hm (by omega) 5 (v4 - 8) v1 h15 (by omega)) (fun v16 g16 r16 h16 q16 => ?_)
        refine wp_nT (sT_append L xs (by omega) a1 v16 h16) (fun g17 r17 h17 q17 => ?_)
        exact ⟨rfl, Cs.le h17 (by omega)⟩
      · unfold BC_organization_62
        refine wp_nO (sC_requireThat L xs hm (by omega) 1 h3 (by omega) (Int.le_refl _) (by omega)) (fun g18 r18 h18 => ?_)
        refine wp_nON (sR_advance L xs (by omega) h18) (fun g19 r19 h19 => ?_)
        refine wp_vT (sT_make L xs hm (by omega) 5 (v4 - 8) v1 h19 (by omega)) (fun v20 g20 r20 h20 q20 => ?_)
        refine wp_nT (sT_append L xs (by omega) a1 v20 h20) (fun g21 r21 h21 q21 => ?_)
        exact ⟨rfl, Cs.le h21 (by omega)⟩
theorem sC_key (L : Nat) (xs : Nat → Int32) {m d : Nat} (hm : 4294967296 ≤ m) (hd : 3 ≤ d) (a1 : Int32) {b bq bx : Int} {g : a2_G} {r : a2_A} (h : Cs b g r) (hb : b ≤ 3250) (hq : b + (-2) ≤ bq) (hx : b + (0) ≤ bx) : wp (ev L xs (m + 1) d nC_key [.ref cC, .int a1] g r) (kO bq) (kX bx) := by
  obtain ⟨d, rfl⟩ : ∃ e, d = e + 1 := ⟨d - 1, by omega⟩
  rw [qC_key]
  refine wp_vP (sR_place L xs (by omega) h.1) (fun v1 _ => ?_)
  refine wp_nON (sR_advance L xs (by omega) h) (fun g2 r2 h2 => ?_)
  refine wp_vVN (sR_skipW L xs (by omega) 67 h2) (fun v3 g3 r3 h3 => ?_)
  refine wp_vV (sR_requireKind L xs hm (by omega) 1 h3 (by omega) (Int.le_refl _) (by omega)) (fun v4 g4 r4 h4 => ?_)
  refine wp_vT (sT_make L xs hm (by omega) 6 v4 v1 h4 (by omega)) (fun v5 g5 r5 h5 q5 => ?_)
  refine wp_nT (sT_append L xs (by omega) a1 v5 h5) (fun g6 r6 h6 q6 => ?_)
  exact ⟨rfl, Cs.le h6 (by omega)⟩
theorem sC_select (L : Nat) (xs : Nat → Int32) {m d : Nat} (hm : 4294967296 ≤ m) (hd : 4 ≤ d) {b bq bx : Int} {g : a2_G} {r : a2_A} (h : Cs b g r) (hb : b ≤ 3249) (hq : b + (-9) ≤ bq) (hx : b + (1) ≤ bx) : wp (ev L xs (m + 1) d nC_select [.ref cC] g r) (kO bq) (kX bx) := by
  obtain ⟨d, rfl⟩ : ∃ e, d = e + 1 := ⟨d - 1, by omega⟩
  rw [qC_select]
  refine wp_vP (sR_place L xs (by omega) h.1) (fun v1 _ => ?_)
  refine wp_vT (sT_make L xs hm (by omega) 4 0 v1 h (by omega)) (fun v2 g2 r2 h2 q2 => ?_)
  refine wp_nON (sR_advance L xs (by omega) h2) (fun g3 r3 h3 => ?_)
  refine wp_vV (sR_requireKind L xs hm (by omega) 1 h3 (by omega) (Int.le_refl _) (by omega)) (fun v4 g4 r4 h4 => ?_)
  refine wp_nT (sT_set L xs (by omega) v2 1 v4 h4) (fun g5 r5 h5 q5 => ?_)
  refine wp_nO (sR_require L xs hm (by omega) 6 h5 (by omega) (Int.le_refl _) (by omega)) (fun g6 r6 h6 => ?_)
  refine wp_vVN (sR_skipW L xs (by omega) 48 h6) (fun v7 g7 r7 h7 => ?_)
  refine wp_vB (sR_isKind L xs (by omega) 2 h7.1) ?_ (fun f8 => ?_)
  · refine wp_if (fun hc => absurd hc (by decide)) (fun _ => ?_)
    unfold BC_select_77
    refine wp_nO (sC_requireThat L xs hm (by omega) 1 h7 (by omega) (Int.le_refl _) (by omega)) (fun g9 r9 h9 => ?_)
    refine wp_nO (sL_operandIn L xs hm (by omega) v2 h9 (by omega) (Int.le_refl _) (by omega)) (fun g10 r10 h10 => ?_)
    refine wp_vB (sR_isReserved L xs (by omega) 7 0 h10.1) ?_ (fun f11 => ?_)
    · refine wp_if (fun _ => ?_) (fun hc => absurd (by decide) hc)
      unfold BC_select_106
      refine wp_vB (sR_isReserved L xs (by omega) 11 0 h10.1) ?_ (fun f12 => ?_)
      · refine wp_if (fun _ => ?_) (fun hc => absurd (by decide) hc)
        unfold BC_select_124
        refine wp_vV (sR_requireKind L xs hm (by omega) 4 h10 (by omega) (Int.le_refl _) (by omega)) (fun v13 g13 r13 h13 => ?_)
        refine wp_nT (sT_append L xs (by omega) (g13 fC_openDivision) v2 h13) (fun g14 r14 h14 q14 => ?_)
        exact ⟨rfl, Cs.le h14 (by omega)⟩
      · refine wp_if (fun hc => absurd hc (by decide)) (fun _ => ?_)
        refine wp_nO (sC_key L xs hm (by omega) v2 h10 (by omega) (Int.le_refl _) (by omega)) (fun g15 r15 h15 => ?_)
        unfold BC_select_124
        refine wp_vV (sR_requireKind L xs hm (by omega) 4 h15 (by omega) (Int.le_refl _) (by omega)) (fun v16 g16 r16 h16 => ?_)
        refine wp_nT (sT_append L xs (by omega) (g16 fC_openDivision) v2 h16) (fun g17 r17 h17 q17 => ?_)
        exact ⟨rfl, Cs.le h17 (by omega)⟩
    · refine wp_if (fun hc => absurd hc (by decide)) (fun _ => ?_)
      refine wp_nO (sC_organization L xs hm (by omega) v2 h10 (by omega) (Int.le_refl _) (by omega)) (fun g18 r18 h18 => ?_)
      unfold BC_select_106
      refine wp_vB (sR_isReserved L xs (by omega) 11 0 h18.1) ?_ (fun f19 => ?_)
      · refine wp_if (fun _ => ?_) (fun hc => absurd (by decide) hc)
        unfold BC_select_124
        refine wp_vV (sR_requireKind L xs hm (by omega) 4 h18 (by omega) (Int.le_refl _) (by omega)) (fun v20 g20 r20 h20 => ?_)
        refine wp_nT (sT_append L xs (by omega) (g20 fC_openDivision) v2 h20) (fun g21 r21 h21 q21 => ?_)
        exact ⟨rfl, Cs.le h21 (by omega)⟩
      · refine wp_if (fun hc => absurd hc (by decide)) (fun _ => ?_)
        refine wp_nO (sC_key L xs hm (by omega) v2 h18 (by omega) (Int.le_refl _) (by omega)) (fun g22 r22 h22 => ?_)
        unfold BC_select_124
        refine wp_vV (sR_requireKind L xs hm (by omega) 4 h22 (by omega) (Int.le_refl _) (by omega)) (fun v23 g23 r23 h23 => ?_)
        refine wp_nT (sT_append L xs (by omega) (g23 fC_openDivision) v2 h23) (fun g24 r24 h24 q24 => ?_)
        exact ⟨rfl, Cs.le h24 (by omega)⟩
  · refine wp_if (fun _ => ?_) (fun hc => absurd (by decide) hc)
    unfold BC_select_77
    refine wp_nO (sC_requireThat L xs hm (by omega) 0 h7 (by omega) (Int.le_refl _) (by omega)) (fun g25 r25 h25 => ?_)
    refine wp_nO (sL_operandIn L xs hm (by omega) v2 h25 (by omega) (Int.le_refl _) (by omega)) (fun g26 r26 h26 => ?_)
    refine wp_vB (sR_isReserved L xs (by omega) 7 0 h26.1) ?_ (fun f27 => ?_)
    · refine wp_if (fun _ => ?_) (fun hc => absurd (by decide) hc)
      unfold BC_select_106
      refine wp_vB (sR_isReserved L xs (by omega) 11 0 h26.1) ?_ (fun f28 => ?_)
      · refine wp_if (fun _ => ?_) (fun hc => absurd (by decide) hc)
        unfold BC_select_124
        refine wp_vV (sR_requireKind L xs hm (by omega) 4 h26 (by omega) (Int.le_refl _) (by omega)) (fun v29 g29 r29 h29 => ?_)
        refine wp_nT (sT_append L xs (by omega) (g29 fC_openDivision) v2 h29) (fun g30 r30 h30 q30 => ?_)
        exact ⟨rfl, Cs.le h30 (by omega)⟩
      · refine wp_if (fun hc => absurd hc (by decide)) (fun _ => ?_)
        refine wp_nO (sC_key L xs hm (by omega) v2 h26 (by omega) (Int.le_refl _) (by omega)) (fun g31 r31 h31 => ?_)
        unfold BC_select_124
        refine wp_vV (sR_requireKind L xs hm (by omega) 4 h31 (by omega) (Int.le_refl _) (by omega)) (fun v32 g32 r32 h32 => ?_)
        refine wp_nT (sT_append L xs (by omega) (g32 fC_openDivision) v2 h32) (fun g33 r33 h33 q33 => ?_)
        exact ⟨rfl, Cs.le h33 (by omega)⟩
    · refine wp_if (fun hc => absurd hc (by decide)) (fun _ => ?_)
      refine wp_nO (sC_organization L xs hm (by omega) v2 h26 (by omega) (Int.le_refl _) (by omega)) (fun g34 r34 h34 => ?_)
      unfold BC_select_106
      refine wp_vB (sR_isReserved L xs (by omega) 11 0 h34.1) ?_ (fun f35 => ?_)
      · refine wp_if (fun _ => ?_) (fun hc => absurd (by decide) hc)
        unfold BC_select_124
        refine wp_vV (sR_requireKind L xs hm (by omega) 4 h34 (by omega) (Int.le_refl _) (by omega)) (fun v36 g36 r36 h36 => ?_)
        refine wp_nT (sT_append L xs (by omega) (g36 fC_openDivision) v2 h36) (fun g37 r37 h37 q37 => ?_)
        exact ⟨rfl, Cs.le h37 (by omega)⟩
      · refine wp_if (fun hc => absurd hc (by decide)) (fun _ => ?_)
        refine wp_nO (sC_key L xs hm (by omega) v2 h34 (by omega) (Int.le_refl _) (by omega)) (fun g38 r38 h38 => ?_)
        unfold BC_select_124
        refine wp_vV (sR_requireKind L xs hm (by omega) 4 h38 (by omega) (Int.le_refl _) (by omega)) (fun v39 g39 r39 h39 => ?_)
        refine wp_nT (sT_append L xs (by omega) (g39 fC_openDivision) v2 h39) (fun g40 r40 h40 q40 => ?_)
        exact ⟨rfl, Cs.le h40 (by omega)⟩
theorem sC_procedure (L : Nat) (xs : Nat → Int32) {m d : Nat} (hm : 4294967296 ≤ m) (hd : 4 ≤ d) {b bq bx : Int} {g : a2_G} {r : a2_A} (h : Cs b g r) (hb : b ≤ 3249) (hq : b + (-5) ≤ bq) (hx : b + (1) ≤ bx) : wp (ev L xs (m + 1) d nC_procedure [.ref cC] g r) (kO bq) (kX bx) := by
  obtain ⟨d, rfl⟩ : ∃ e, d = e + 1 := ⟨d - 1, by omega⟩
  rw [qC_procedure]
  refine wp_vP (sR_place L xs (by omega) h.1) (fun v1 _ => ?_)
  refine wp_vT (sT_make L xs hm (by omega) 20 0 v1 h (by omega)) (fun v2 g2 r2 h2 q2 => ?_)
  refine wp_nON (sR_advance L xs (by omega) h2) (fun g3 r3 h3 => ?_)
  refine wp_nO (sR_require L xs hm (by omega) 1 h3 (by omega) (Int.le_refl _) (by omega)) (fun g4 r4 h4 => ?_)
  refine wp_vS (sR_skip L xs (by omega) 31 h4) (fun _ => ?_) (fun g5 r5 h5 => ?_)
  · refine wp_if (fun _ => ?_) (fun hc => absurd (by decide) hc)
    unfold BC_procedure_55
    refine wp_vV (sR_requireKind L xs hm (by omega) 4 h4 (by omega) (Int.le_refl _) (by omega)) (fun v6 g6 r6 h6 => ?_)
    refine wp_vP (sU_handle L xs (by omega) h6.1) (fun v7 _ => ?_)
    refine wp_nT (sT_append L xs (by omega) v7 v2 h6) (fun g8 r8 h8 q8 => ?_)
    refine wp_nT (sU_setState L xs (by omega) 8 (show Cs _ (upd (upd (upd g8 fC_openDivision v2) fC_section (-1)) fC_paragraph (-1)) r8 from h8)) (fun g9 r9 h9 q9 => ?_)
    exact ⟨rfl, Cs.le h9 (by omega)⟩
  · refine wp_if (fun hc => absurd hc (by decide)) (fun _ => ?_)
    refine wp_nO (sL_namesIn L xs hm (by omega) v2 21 h5 (by omega) (Int.le_refl _) (by omega)) (fun g10 r10 h10 => ?_)
    unfold BC_procedure_55
    refine wp_vV (sR_requireKind L xs hm (by omega) 4 h10 (by omega) (Int.le_refl _) (by omega)) (fun v11 g11 r11 h11 => ?_)
    refine wp_vP (sU_handle L xs (by omega) h11.1) (fun v12 _ => ?_)
    refine wp_nT (sT_append L xs (by omega) v12 v2 h11) (fun g13 r13 h13 q13 => ?_)
    refine wp_nT (sU_setState L xs (by omega) 8 (show Cs _ (upd (upd (upd g13 fC_openDivision v2) fC_section (-1)) fC_paragraph (-1)) r13 from h13)) (fun g14 r14 h14 q14 => ?_)
    exact ⟨rfl, Cs.le h14 (by omega)⟩
theorem sC_beginDeclaratives (L : Nat) (xs : Nat → Int32) {m d : Nat} (hm : 4294967296 ≤ m) (hd : 3 ≤ d) {b bq bx : Int} {g : a2_G} {r : a2_A} (h : Cs b g r) (hb : b ≤ 3249) (hq : b + (-2) ≤ bq) (hx : b + (1) ≤ bx) : wp (ev L xs (m + 1) d nC_beginDeclaratives [.ref cC] g r) (kO bq) (kX bx) := by
  obtain ⟨d, rfl⟩ : ∃ e, d = e + 1 := ⟨d - 1, by omega⟩
  rw [qC_beginDeclaratives]
  refine wp_vP (sR_place L xs (by omega) h.1) (fun v1 _ => ?_)
  refine wp_vT (sT_make L xs hm (by omega) 22 0 v1 h (by omega)) (fun v2 g2 r2 h2 q2 => ?_)
  refine wp_nON (sR_advance L xs (by omega) h2) (fun g3 r3 h3 => ?_)
  refine wp_vV (sR_requireKind L xs hm (by omega) 4 h3 (by omega) (Int.le_refl _) (by omega)) (fun v4 g4 r4 h4 => ?_)
  refine wp_nT (sT_append L xs (by omega) (g4 fC_openDivision) v2 h4) (fun g5 r5 h5 q5 => ?_)
  refine wp_nT (sU_setState L xs (by omega) 9 (show Cs _ (upd g5 fC_declaratives v2) r5 from h5)) (fun g6 r6 h6 q6 => ?_)
  exact ⟨rfl, Cs.le h6 (by omega)⟩
theorem sC_endDeclaratives (L : Nat) (xs : Nat → Int32) {m d : Nat} (hm : 4294967296 ≤ m) (hd : 3 ≤ d) {b bq bx : Int} {g : a2_G} {r : a2_A} (h : Cs b g r) (hb : b ≤ 3250) (hq : b + (-6) ≤ bq) (hx : b + (0) ≤ bx) : wp (ev L xs (m + 1) d nC_endDeclaratives [.ref cC] g r) (kO bq) (kX bx) := by
  obtain ⟨d, rfl⟩ : ∃ e, d = e + 1 := ⟨d - 1, by omega⟩
  rw [qC_endDeclaratives]
  refine wp_nON (sR_advance L xs (by omega) h) (fun g1 r1 h1 => ?_)
  refine wp_nO (sR_require L xs hm (by omega) 32 h1 (by omega) (Int.le_refl _) (by omega)) (fun g2 r2 h2 => ?_)
  refine wp_vV (sR_requireKind L xs hm (by omega) 4 h2 (by omega) (Int.le_refl _) (by omega)) (fun v3 g3 r3 h3 => ?_)
  refine wp_nT (sU_setState L xs (by omega) 10 (show Cs _ (upd (upd g3 fC_section (-1)) fC_paragraph (-1)) r3 from h3)) (fun g4 r4 h4 q4 => ?_)
  exact ⟨rfl, Cs.le h4 (by omega)⟩
theorem sC_endUnit (L : Nat) (xs : Nat → Int32) {m d : Nat} (hm : 4294967296 ≤ m) (hd : 3 ≤ d) {b bq bx : Int} {g : a2_G} {r : a2_A} (h : Cs b g r) (hb : b ≤ 3250) (hq : b + (-9) ≤ bq) (hx : b + (0) ≤ bx) : wp (ev L xs (m + 1) d nC_endUnit [.ref cC] g r) (kO bq) (kX bx) := by
  obtain ⟨d, rfl⟩ : ∃ e, d = e + 1 := ⟨d - 1, by omega⟩
  rw [qC_endUnit]
  refine wp_nON (sR_advance L xs (by omega) h) (fun g1 r1 h1 => ?_)
  refine wp_vP (sU_kind L xs (by omega) h1.1) (fun v2 _ => ?_)
  refine wp_if (fun _ => ?_) (fun _ => ?_)
  · unfold BC_endUnit_29
    refine wp_nO (sR_require L xs hm (by omega) 34 h1 (by omega) (Int.le_refl _) (by omega)) (fun g3 r3 h3 => ?_)
    refine wp_vP (sR_place L xs (by omega) h3.1) (fun v4 _ => ?_)
    refine wp_vV (sR_requireKind L xs hm (by omega) 1 h3 (by omega) (Int.le_refl _) (by omega)) (fun v5 g5 r5 h5 => ?_)
    refine wp_vV (sR_requireKind L xs hm (by omega) 4 h5 (by omega) (Int.le_refl _) (by omega)) (fun v6 g6 r6 h6 => ?_)
    refine wp_vP (sU_name L xs (by omega) h6.1) (fun v7 _ => ?_)
    refine wp_if (fun _ => ?_) (fun _ => ?_)
    · unfold BC_endUnit_78
      refine wp_nT (sU_close L xs (by omega) h6) (fun g8 r8 h8 q8 => ?_)
      exact ⟨rfl, Cs.le h8 (by omega)⟩
    · refine wp_nT (sR_note L xs (by omega) 2 v4 h6) (fun g9 r9 h9 q9 => ?_)
      unfold BC_endUnit_78
      refine wp_nT (sU_close L xs (by omega) h9) (fun g10 r10 h10 q10 => ?_)
      exact ⟨rfl, Cs.le h10 (by omega)⟩
  · unfold BC_endUnit_29
    refine wp_nO (sR_require L xs hm (by omega) 35 h1 (by omega) (Int.le_refl _) (by omega)) (fun g11 r11 h11 => ?_)
    refine wp_vP (sR_place L xs (by omega) h11.1) (fun v12 _ => ?_)
    refine wp_vV (sR_requireKind L xs hm (by omega) 1 h11 (by omega) (Int.le_refl _) (by omega)) (fun v13 g13 r13 h13 => ?_)
    refine wp_vV (sR_requireKind L xs hm (by omega) 4 h13 (by omega) (Int.le_refl _) (by omega)) (fun v14 g14 r14 h14 => ?_)
    refine wp_vP (sU_name L xs (by omega) h14.1) (fun v15 _ => ?_)
    refine wp_if (fun _ => ?_) (fun _ => ?_)
    · unfold BC_endUnit_78
      refine wp_nT (sU_close L xs (by omega) h14) (fun g16 r16 h16 q16 => ?_)
      exact ⟨rfl, Cs.le h16 (by omega)⟩
    · refine wp_nT (sR_note L xs (by omega) 2 v12 h14) (fun g17 r17 h17 q17 => ?_)
      unfold BC_endUnit_78
      refine wp_nT (sU_close L xs (by omega) h17) (fun g18 r18 h18 q18 => ?_)
      exact ⟨rfl, Cs.le h18 (by omega)⟩
theorem sC_endSomething (L : Nat) (xs : Nat → Int32) {m d : Nat} (hm : 4294967296 ≤ m) (hd : 4 ≤ d) {b bq bx : Int} {g : a2_G} {r : a2_A} (h : Cs b g r) (hb : b ≤ 3250) (hq : b + (-6) ≤ bq) (hx : b + (0) ≤ bx) : wp (ev L xs (m + 1) d nC_endSomething [.ref cC] g r) (kO bq) (kX bx) := by
  obtain ⟨d, rfl⟩ : ∃ e, d = e + 1 := ⟨d - 1, by omega⟩
  rw [qC_endSomething]
  refine wp_vB (sR_isReserved L xs (by omega) 32 1 h.1) ?_ (fun f1 => ?_)
  · refine wp_if (fun _ => ?_) (fun hc => absurd (by decide) hc)
    refine wp_vB (sR_isReserved L xs (by omega) 34 1 h.1) ?_ (fun f2 => ?_)
    · refine wp_if (fun hc => absurd hc (by decide)) (fun _ => ?_)
      refine wp_vB (sR_isReserved L xs (by omega) 35 1 h.1) ?_ (fun f3 => ?_)
      · refine wp_if (fun _ => ?_) (fun hc => absurd (by decide) hc)
        refine wp_vP (sU_state L xs (by omega) h.1) (fun v4 _ => ?_)
        refine wp_if (fun _ => ?_) (fun _ => ?_)
        · unfold BC_endSomething_86
          refine wp_nO (sC_requireThat L xs hm (by omega) 0 h (by omega) (Int.le_refl _) (by omega)) (fun g5 r5 h5 => ?_)
          refine wp_nON (sR_advance L xs (by omega) h5) (fun g6 r6 h6 => ?_)
          exact wp_nR (sR_refuse L xs (by omega) 1 h6 (by omega))
        · unfold BC_endSomething_86
          refine wp_nO (sC_requireThat L xs hm (by omega) 1 h (by omega) (Int.le_refl _) (by omega)) (fun g8 r8 h8 => ?_)
          refine wp_nON (sR_advance L xs (by omega) h8) (fun g9 r9 h9 => ?_)
          exact wp_nR (sR_refuse L xs (by omega) 1 h9 (by omega))
      · refine wp_if (fun hc => absurd hc (by decide)) (fun _ => ?_)
        unfold BC_endSomething_54
        refine wp_vB (sC_mayEndOrContain L xs (by omega) h.1) ?_ (fun f11 => ?_)
        · refine wp_nO (sC_requireThat L xs hm (by omega) 0 h (by omega) (Int.le_refl _) (by omega)) (fun g12 r12 h12 => ?_)
          refine wp_nO (sC_endUnit L xs hm (by omega) h12 (by omega) (Int.le_refl _) (by omega)) (fun g13 r13 h13 => ?_)
          unfold BC_endSomething_104
          exact ⟨rfl, Cs.le h13 (by omega)⟩
        · refine wp_nO (sC_requireThat L xs hm (by omega) 1 h (by omega) (Int.le_refl _) (by omega)) (fun g14 r14 h14 => ?_)
          refine wp_nO (sC_endUnit L xs hm (by omega) h14 (by omega) (Int.le_refl _) (by omega)) (fun g15 r15 h15 => ?_)
          unfold BC_endSomething_104
          exact ⟨rfl, Cs.le h15 (by omega)⟩
    · refine wp_if (fun _ => ?_) (fun hc => absurd (by decide) hc)
      unfold BC_endSomething_54
      refine wp_vB (sC_mayEndOrContain L xs (by omega) h.1) ?_ (fun f16 => ?_)
      · refine wp_nO (sC_requireThat L xs hm (by omega) 0 h (by omega) (Int.le_refl _) (by omega)) (fun g17 r17 h17 => ?_)
        refine wp_nO (sC_endUnit L xs hm (by omega) h17 (by omega) (Int.le_refl _) (by omega)) (fun g18 r18 h18 => ?_)
        unfold BC_endSomething_104
        exact ⟨rfl, Cs.le h18 (by omega)⟩
      · refine wp_nO (sC_requireThat L xs hm (by omega) 1 h (by omega) (Int.le_refl _) (by omega)) (fun g19 r19 h19 => ?_)
        refine wp_nO (sC_endUnit L xs hm (by omega) h19 (by omega) (Int.le_refl _) (by omega)) (fun g20 r20 h20 => ?_)
        unfold BC_endSomething_104
        exact ⟨rfl, Cs.le h20 (by omega)⟩
  · refine wp_if (fun hc => absurd hc (by decide)) (fun _ => ?_)
    refine wp_nO (sC_requireState L xs hm (by omega) 9 9 h (by omega) (Int.le_refl _) (by omega)) (fun g21 r21 h21 => ?_)
    refine wp_nO (sC_endDeclaratives L xs hm (by omega) h21 (by omega) (Int.le_refl _) (by omega)) (fun g22 r22 h22 => ?_)
    unfold BC_endSomething_104
    exact ⟨rfl, Cs.le h22 (by omega)⟩
theorem sC_identification (L : Nat) (xs : Nat → Int32) {m d : Nat} (hm : 4294967296 ≤ m) (hd : 4 ≤ d) {b bq bx : Int} {g : a2_G} {r : a2_A} (h : Cs b g r) (hb : b ≤ 3249) (hq : b + (-5) ≤ bq) (hx : b + (1) ≤ bx) : wp (ev L xs (m + 1) d nC_identification [.ref cC] g r) (kO bq) (kX bx) := by
  obtain ⟨d, rfl⟩ : ∃ e, d = e + 1 := ⟨d - 1, by omega⟩
  rw [qC_identification]
  refine wp_vP (sU_openCount L xs (by omega) h.1) (fun v1 _ => ?_)
  refine wp_if (fun _ => ?_) (fun _ => ?_)
  · unfold BC_identification_29
    unfold BC_identification_34
    refine wp_nO (sC_requireThat L xs hm (by omega) 1 h (by omega) (Int.le_refl _) (by omega)) (fun g2 r2 h2 => ?_)
    refine wp_vB (sU_isFull L xs (by omega) h2.1) ?_ (fun f3 => ?_)
    · refine wp_if (fun _ => ?_) (fun hc => absurd (by decide) hc)
      unfold BC_identification_55
      refine wp_vP (sU_handle L xs (by omega) h2.1) (fun v4 _ => ?_)
      refine wp_vV (sC_heading L xs hm (by omega) 0 1 v4 h2 (by omega) (Int.le_refl _) (by omega)) (fun v5 g5 r5 h5 => ?_)
      refine wp_nT (sU_setState L xs (by omega) 12 h5) (fun g6 r6 h6 q6 => ?_)
      refine wp_nT (sU_open L xs (by omega) v5 h6) (fun g7 r7 h7 q7 => ?_)
      exact ⟨rfl, Cs.le h7 (by omega)⟩
    · refine wp_if (fun hc => absurd hc (by decide)) (fun _ => ?_)
      exact wp_nR (sR_refuse L xs (by omega) 3 h2 (by omega))
  · refine wp_vP (sU_kind L xs (by omega) h.1) (fun v9 _ => ?_)
    refine wp_if (fun _ => ?_) (fun _ => ?_)
    · unfold BC_identification_33
      unfold BC_identification_34
      refine wp_nO (sC_requireThat L xs hm (by omega) 0 h (by omega) (Int.le_refl _) (by omega)) (fun g10 r10 h10 => ?_)
      refine wp_vB (sU_isFull L xs (by omega) h10.1) ?_ (fun f11 => ?_)
      · refine wp_if (fun _ => ?_) (fun hc => absurd (by decide) hc)
        unfold BC_identification_55
        refine wp_vP (sU_handle L xs (by omega) h10.1) (fun v12 _ => ?_)
        refine wp_vV (sC_heading L xs hm (by omega) 0 1 v12 h10 (by omega) (Int.le_refl _) (by omega)) (fun v13 g13 r13 h13 => ?_)
        refine wp_nT (sU_setState L xs (by omega) 12 h13) (fun g14 r14 h14 q14 => ?_)
        refine wp_nT (sU_open L xs (by omega) v13 h14) (fun g15 r15 h15 q15 => ?_)
        exact ⟨rfl, Cs.le h15 (by omega)⟩
      · refine wp_if (fun hc => absurd hc (by decide)) (fun _ => ?_)
        exact wp_nR (sR_refuse L xs (by omega) 3 h10 (by omega))
    · refine wp_vB (sC_mayEndOrContain L xs (by omega) h.1) ?_ (fun f17 => ?_)
      · refine wp_if (fun _ => ?_) (fun hc => absurd (by decide) hc)
        unfold BC_identification_33
        unfold BC_identification_34
        refine wp_nO (sC_requireThat L xs hm (by omega) 0 h (by omega) (Int.le_refl _) (by omega)) (fun g18 r18 h18 => ?_)
        refine wp_vB (sU_isFull L xs (by omega) h18.1) ?_ (fun f19 => ?_)
        · refine wp_if (fun _ => ?_) (fun hc => absurd (by decide) hc)
          unfold BC_identification_55
          refine wp_vP (sU_handle L xs (by omega) h18.1) (fun v20 _ => ?_)
          refine wp_vV (sC_heading L xs hm (by omega) 0 1 v20 h18 (by omega) (Int.le_refl _) (by omega)) (fun v21 g21 r21 h21 => ?_)
          refine wp_nT (sU_setState L xs (by omega) 12 h21) (fun g22 r22 h22 q22 => ?_)
          refine wp_nT (sU_open L xs (by omega) v21 h22) (fun g23 r23 h23 q23 => ?_)
          exact ⟨rfl, Cs.le h23 (by omega)⟩
        · refine wp_if (fun hc => absurd hc (by decide)) (fun _ => ?_)
          exact wp_nR (sR_refuse L xs (by omega) 3 h18 (by omega))
      · refine wp_if (fun hc => absurd hc (by decide)) (fun _ => ?_)
        unfold BC_identification_29
        unfold BC_identification_34
        refine wp_nO (sC_requireThat L xs hm (by omega) 1 h (by omega) (Int.le_refl _) (by omega)) (fun g25 r25 h25 => ?_)
        refine wp_vB (sU_isFull L xs (by omega) h25.1) ?_ (fun f26 => ?_)
        · refine wp_if (fun _ => ?_) (fun hc => absurd (by decide) hc)
          unfold BC_identification_55
          refine wp_vP (sU_handle L xs (by omega) h25.1) (fun v27 _ => ?_)
          refine wp_vV (sC_heading L xs hm (by omega) 0 1 v27 h25 (by omega) (Int.le_refl _) (by omega)) (fun v28 g28 r28 h28 => ?_)
          refine wp_nT (sU_setState L xs (by omega) 12 h28) (fun g29 r29 h29 q29 => ?_)
          refine wp_nT (sU_open L xs (by omega) v28 h29) (fun g30 r30 h30 q30 => ?_)
          exact ⟨rfl, Cs.le h30 (by omega)⟩
        · refine wp_if (fun hc => absurd hc (by decide)) (fun _ => ?_)
          exact wp_nR (sR_refuse L xs (by omega) 3 h25 (by omega))
theorem sC_dataSection (L : Nat) (xs : Nat → Int32) {m d : Nat} (hm : 4294967296 ≤ m) (hd : 4 ≤ d) (a1 : Int32) (a2 : Int32) {b bq bx : Int} {g : a2_G} {r : a2_A} (h : Cs b g r) (hb : b ≤ 3249) (hq : b + (-5) ≤ bq) (hx : b + (1) ≤ bx) : wp (ev L xs (m + 1) d nC_dataSection [.ref cC, .int a1, .int a2] g r) (kO bq) (kX bx) := by
  obtain ⟨d, rfl⟩ : ∃ e, d = e + 1 := ⟨d - 1, by omega⟩
  rw [qC_dataSection]
  refine wp_vV (sC_heading L xs hm (by omega) a1 16 (g fC_openDivision) h (by omega) (Int.le_refl _) (by omega)) (fun v1 g1 r1 h1 => ?_)
  refine wp_nT (sU_setState L xs (by omega) a2 (show Cs _ (upd g1 fC_section v1) r1 from h1)) (fun g2 r2 h2 q2 => ?_)
  refine wp_nT (sI_startIn L xs (by omega) (g2 fC_section) h2) (fun g3 r3 h3 q3 => ?_)
  exact ⟨rfl, Cs.le h3 (by omega)⟩
theorem sC_fileDescription (L : Nat) (xs : Nat → Int32) {m d : Nat} (hm : 4294967296 ≤ m) (hd : 3 ≤ d) {b bq bx : Int} {g : a2_G} {r : a2_A} (h : Cs b g r) (hb : b ≤ 3250) (hq : b + (-5) ≤ bq) (hx : b + (0) ≤ bx) : wp (ev L xs (m + 1) d nC_fileDescription [.ref cC] g r) (kO bq) (kX bx) := by
  obtain ⟨d, rfl⟩ : ∃ e, d = e + 1 := ⟨d - 1, by omega⟩
  rw [qC_fileDescription]
  refine wp_vP (sR_place L xs (by omega) h.1) (fun v1 _ => ?_)
  refine wp_nON (sR_advance L xs (by omega) h) (fun g2 r2 h2 => ?_)
  refine wp_vV (sR_requireKind L xs hm (by omega) 1 h2 (by omega) (Int.le_refl _) (by omega)) (fun v3 g3 r3 h3 => ?_)
  refine wp_vT (sT_make L xs hm (by omega) 11 v3 v1 h3 (by omega)) (fun v4 g4 r4 h4 q4 => ?_)
  refine wp_vV (sR_requireKind L xs hm (by omega) 4 h4 (by omega) (Int.le_refl _) (by omega)) (fun v5 g5 r5 h5 => ?_)
  refine wp_nT (sT_append L xs (by omega) (g5 fC_section) v4 h5) (fun g6 r6 h6 q6 => ?_)
  refine wp_nT (sU_setState L xs (by omega) 5 h6) (fun g7 r7 h7 q7 => ?_)
  refine wp_nT (sI_startIn L xs (by omega) v4 h7) (fun g8 r8 h8 q8 => ?_)
  exact ⟨rfl, Cs.le h8 (by omega)⟩
theorem sC_dataClause (L : Nat) (xs : Nat → Int32) {m d : Nat} (hm : 4294967296 ≤ m) (hd : 5 ≤ d) {b bq bx : Int} {g : a2_G} {r : a2_A} (h : Cs b g r) (hb : b ≤ 3249) (hq : b + (-5) ≤ bq) (hx : b + (1) ≤ bx) : wp (ev L xs (m + 1) d nC_dataClause [.ref cC] g r) (kO bq) (kX bx) := by
  obtain ⟨d, rfl⟩ : ∃ e, d = e + 1 := ⟨d - 1, by omega⟩
  rw [qC_dataClause]
  refine wp_vP (sR_value L xs (by omega) h.1) (fun v1 _ => ?_)
  refine wp_if (fun _ => ?_) (fun _ => ?_)
  · refine wp_nO (sC_requireState L xs hm (by omega) 1 2 h (by omega) (Int.le_refl _) (by omega)) (fun g2 r2 h2 => ?_)
    refine wp_vP (sU_handle L xs (by omega) h2.1) (fun v3 _ => ?_)
    refine wp_vV (sC_heading L xs hm (by omega) 7 1 v3 h2 (by omega) (Int.le_refl _) (by omega)) (fun v4 g4 r4 h4 => ?_)
    refine wp_nT (sU_setState L xs (by omega) 3 (show Cs _ (upd g4 fC_openDivision v4) r4 from h4)) (fun g5 r5 h5 q5 => ?_)
    unfold BC_dataClause_151
    exact ⟨rfl, Cs.le h5 (by omega)⟩
  · refine wp_if (fun _ => ?_) (fun _ => ?_)
    · refine wp_nO (sC_requireState L xs hm (by omega) 3 3 h (by omega) (Int.le_refl _) (by omega)) (fun g6 r6 h6 => ?_)
      refine wp_nO (sC_dataSection L xs hm (by omega) 8 4 h6 (by omega) (Int.le_refl _) (by omega)) (fun g7 r7 h7 => ?_)
      unfold BC_dataClause_151
      exact ⟨rfl, Cs.le h7 (by omega)⟩
    · refine wp_if (fun _ => ?_) (fun _ => ?_)
      · refine wp_nO (sC_requireState L xs hm (by omega) 3 5 h (by omega) (Int.le_refl _) (by omega)) (fun g8 r8 h8 => ?_)
        refine wp_nO (sC_dataSection L xs hm (by omega) 9 6 h8 (by omega) (Int.le_refl _) (by omega)) (fun g9 r9 h9 => ?_)
        unfold BC_dataClause_151
        exact ⟨rfl, Cs.le h9 (by omega)⟩
      · refine wp_if (fun _ => ?_) (fun _ => ?_)
        · refine wp_nO (sC_requireState L xs hm (by omega) 3 6 h (by omega) (Int.le_refl _) (by omega)) (fun g10 r10 h10 => ?_)
          refine wp_nO (sC_dataSection L xs hm (by omega) 10 7 h10 (by omega) (Int.le_refl _) (by omega)) (fun g11 r11 h11 => ?_)
          unfold BC_dataClause_151
          exact ⟨rfl, Cs.le h11 (by omega)⟩
        · refine wp_if (fun _ => ?_) (fun _ => ?_)
          · unfold BC_dataClause_143
            exact wp_nR (sR_refuse L xs (by omega) 1 h (by omega))
          · refine wp_if (fun _ => ?_) (fun _ => ?_)
            · refine wp_nO (sC_requireState L xs hm (by omega) 4 5 h (by omega) (Int.le_refl _) (by omega)) (fun g13 r13 h13 => ?_)
              refine wp_nO (sC_fileDescription L xs hm (by omega) h13 (by omega) (Int.le_refl _) (by omega)) (fun g14 r14 h14 => ?_)
              unfold BC_dataClause_151
              exact ⟨rfl, Cs.le h14 (by omega)⟩
            · unfold BC_dataClause_143
              exact wp_nR (sR_refuse L xs (by omega) 1 h (by omega))
theorem sC_reservedClause (L : Nat) (xs : Nat → Int32) {m d : Nat} (hm : 4294967296 ≤ m) (hd : 6 ≤ d) {b bq bx : Int} {g : a2_G} {r : a2_A} (h : Cs b g r) (hb : b ≤ 3249) (hq : b + (-2) ≤ bq) (hx : b + (1) ≤ bx) : wp (ev L xs (m + 1) d nC_reservedClause [.ref cC] g r) (kO bq) (kX bx) := by
  obtain ⟨d, rfl⟩ : ∃ e, d = e + 1 := ⟨d - 1, by omega⟩
  rw [qC_reservedClause]
  refine wp_vP (sR_value L xs (by omega) h.1) (fun v1 _ => ?_)
  refine wp_if (fun _ => ?_) (fun _ => ?_)
  · refine wp_nO (sC_identification L xs hm (by omega) h (by omega) (Int.le_refl _) (by omega)) (fun g2 r2 h2 => ?_)
    unfold BC_reservedClause_222
    exact ⟨rfl, Cs.le h2 (by omega)⟩
  · refine wp_if (fun _ => ?_) (fun _ => ?_)
    · refine wp_nO (sC_requireState L xs hm (by omega) 0 0 h (by omega) (Int.le_refl _) (by omega)) (fun g3 r3 h3 => ?_)
      refine wp_nO (sC_unitName L xs hm (by omega) 1 h3 (by omega) (Int.le_refl _) (by omega)) (fun g4 r4 h4 => ?_)
      unfold BC_reservedClause_222
      exact ⟨rfl, Cs.le h4 (by omega)⟩
    · refine wp_if (fun _ => ?_) (fun _ => ?_)
      · refine wp_nO (sC_requireState L xs hm (by omega) 0 0 h (by omega) (Int.le_refl _) (by omega)) (fun g5 r5 h5 => ?_)
        refine wp_vP (sU_openCount L xs (by omega) h5.1) (fun v6 _ => ?_)
        refine wp_if (fun _ => ?_) (fun _ => ?_)
        · unfold BC_reservedClause_124
          refine wp_nO (sC_requireThat L xs hm (by omega) 0 h5 (by omega) (Int.le_refl _) (by omega)) (fun g7 r7 h7 => ?_)
          refine wp_nO (sC_unitName L xs hm (by omega) 2 h7 (by omega) (Int.le_refl _) (by omega)) (fun g8 r8 h8 => ?_)
          unfold BC_reservedClause_222
          exact ⟨rfl, Cs.le h8 (by omega)⟩
        · unfold BC_reservedClause_124
          refine wp_nO (sC_requireThat L xs hm (by omega) 1 h5 (by omega) (Int.le_refl _) (by omega)) (fun g9 r9 h9 => ?_)
          refine wp_nO (sC_unitName L xs hm (by omega) 2 h9 (by omega) (Int.le_refl _) (by omega)) (fun g10 r10 h10 => ?_)
          unfold BC_reservedClause_222
          exact ⟨rfl, Cs.le h10 (by omega)⟩
      · refine wp_if (fun _ => ?_) (fun _ => ?_)
        · refine wp_nO (sC_requireState L xs hm (by omega) 1 1 h (by omega) (Int.le_refl _) (by omega)) (fun g11 r11 h11 => ?_)
          refine wp_vP (sU_handle L xs (by omega) h11.1) (fun v12 _ => ?_)
          refine wp_vV (sC_heading L xs hm (by omega) 3 1 v12 h11 (by omega) (Int.le_refl _) (by omega)) (fun v13 g13 r13 h13 => ?_)
          refine wp_nT (sU_setState L xs (by omega) 2 (show Cs _ (upd g13 fC_openDivision v13) r13 from h13)) (fun g14 r14 h14 q14 => ?_)
          unfold BC_reservedClause_222
          exact ⟨rfl, Cs.le h14 (by omega)⟩
        · refine wp_if (fun _ => ?_) (fun _ => ?_)
          · refine wp_nO (sC_requireState L xs hm (by omega) 2 2 h (by omega) (Int.le_refl _) (by omega)) (fun g15 r15 h15 => ?_)
            refine wp_nO (sC_select L xs hm (by omega) h15 (by omega) (Int.le_refl _) (by omega)) (fun g16 r16 h16 => ?_)
            unfold BC_reservedClause_222
            exact ⟨rfl, Cs.le h16 (by omega)⟩
          · refine wp_if (fun _ => ?_) (fun _ => ?_)
            · refine wp_nO (sC_requireState L xs hm (by omega) 1 7 h (by omega) (Int.le_refl _) (by omega)) (fun g17 r17 h17 => ?_)
              refine wp_nO (sC_procedure L xs hm (by omega) h17 (by omega) (Int.le_refl _) (by omega)) (fun g18 r18 h18 => ?_)
              unfold BC_reservedClause_222
              exact ⟨rfl, Cs.le h18 (by omega)⟩
            · refine wp_if (fun _ => ?_) (fun _ => ?_)
              · refine wp_nO (sC_requireState L xs hm (by omega) 8 8 h (by omega) (Int.le_refl _) (by omega)) (fun g19 r19 h19 => ?_)
                refine wp_nO (sC_beginDeclaratives L xs hm (by omega) h19 (by omega) (Int.le_refl _) (by omega)) (fun g20 r20 h20 => ?_)
                unfold BC_reservedClause_222
                exact ⟨rfl, Cs.le h20 (by omega)⟩
              · refine wp_if (fun _ => ?_) (fun _ => ?_)
                · refine wp_nO (sC_endSomething L xs hm (by omega) h (by omega) (Int.le_refl _) (by omega)) (fun g21 r21 h21 => ?_)
                  unfold BC_reservedClause_222
                  exact ⟨rfl, Cs.le h21 (by omega)⟩
                · refine wp_nO (sC_dataClause L xs hm (by omega) h (by omega) (Int.le_refl _) (by omega)) (fun g22 r22 h22 => ?_)
                  unfold BC_reservedClause_222
                  exact ⟨rfl, Cs.le h22 (by omega)⟩
theorem sC_readClause (L : Nat) (xs : Nat → Int32) {m d : Nat} (hm : 4294967296 ≤ m) (hd : 667 ≤ d) {b bq bx : Int} {g : a2_G} {r : a2_A} (h : Cs b g r) (hb : b ≤ 3243) (hq : b + (-2) ≤ bq) (hx : b + (2) ≤ bx) : wp (ev L xs (m + 1) d nC_readClause [.ref cC] g r) (kO bq) (kX bx) := by
  obtain ⟨d, rfl⟩ : ∃ e, d = e + 1 := ⟨d - 1, by omega⟩
  rw [qC_readClause]
  refine wp_vB (sR_isKind L xs (by omega) 1 h.1) ?_ (fun f1 => ?_)
  · refine wp_if (fun _ => ?_) (fun hc => absurd (by decide) hc)
    refine wp_vB (sR_isKind L xs (by omega) 2 h.1) ?_ (fun f2 => ?_)
    · refine wp_if (fun _ => ?_) (fun hc => absurd (by decide) hc)
      refine wp_vB (sS_isNext L xs (by omega) h.1) ?_ (fun f3 => ?_)
      · refine wp_if (fun _ => ?_) (fun hc => absurd (by decide) hc)
        refine wp_vB (sR_isKind L xs (by omega) 0 h.1) ?_ (fun f4 => ?_)
        · refine wp_if (fun _ => ?_) (fun hc => absurd (by decide) hc)
          exact wp_nR (sR_refuse L xs (by omega) 1 h (by omega))
        · refine wp_if (fun hc => absurd hc (by decide)) (fun _ => ?_)
          refine wp_nO (sC_reservedClause L xs hm (by omega) h (by omega) (Int.le_refl _) (by omega)) (fun g6 r6 h6 => ?_)
          unfold BC_readClause_89
          exact ⟨rfl, Cs.le h6 (by omega)⟩
      · refine wp_if (fun hc => absurd hc (by decide)) (fun _ => ?_)
        refine wp_nO (sC_sentence L xs hm (by omega) h (by omega) (Int.le_refl _) (by omega)) (fun g7 r7 h7 => ?_)
        unfold BC_readClause_89
        exact ⟨rfl, Cs.le h7 (by omega)⟩
    · refine wp_if (fun hc => absurd hc (by decide)) (fun _ => ?_)
      refine wp_nO (sC_requireState L xs hm (by omega) 5 7 h (by omega) (Int.le_refl _) (by omega)) (fun g8 r8 h8 => ?_)
      refine wp_nO (sI_readItem L xs hm (by omega) h8 (by omega) (Int.le_refl _) (by omega)) (fun g9 r9 h9 => ?_)
      unfold BC_readClause_89
      exact ⟨rfl, Cs.le h9 (by omega)⟩
  · refine wp_if (fun hc => absurd hc (by decide)) (fun _ => ?_)
    refine wp_nO (sC_sectionOrParagraph L xs hm (by omega) h (by omega) (Int.le_refl _) (by omega)) (fun g10 r10 h10 => ?_)
    unfold BC_readClause_89
    exact ⟨rfl, Cs.le h10 (by omega)⟩
