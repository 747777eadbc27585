/-! Written by wip/p2/gensafe.py: what knows its nesting, II (behind sS_when). -/
theorem sBS_evaluate_38 (L : Nat) (xs : Nat → Int32) {m d : Nat} (hm : 4294967296 ≤ m) {N : Nat} (ihL : spL L xs m N) (ihF : spF L xs m N) (ihC : spC L xs m N) (ihU : spU L xs m N) {b bq bx : Int} (nn : Int32) (hn0 : 0 ≤ nn.toInt) (hn1 : nn.toInt ≤ 40) (hn2 : 41 ≤ nn.toInt + (N + 1 : Nat)) (hd : 6 + 16 * (N + 1) ≤ d) (hb : b ≤ 3240) (hq : b + (0) ≤ bq) (hx : b + (0) ≤ bx) : ∀ (n k : Nat) (x1 x2 x3 : Int32) {g : a2_G} {r : a2_A}, 0 ≤ x3.toInt → 1500 ≤ x3.toInt + n → n < k → x1 = nn → Cs b g r → wp (BS_evaluate_38 L xs (m + 1) d k x1 x2 x3 g r) (kV bq) (kX bx) := by
  have k15 : (1500 : Int32).toInt = 1500 := rfl
  have k40 : (40 : Int32).toInt = 40 := rfl
  intro n
  induction n with
  | zero =>
    intro k x1 x2 x3 g r hi0 hi1 hk hnn h
    subst hnn
    unfold BS_evaluate_38
    refine wp_if (fun hc => ?_) (fun hc => ?_)
    · rw [c2_ge] at hc
      unfold BS_evaluate_77
      refine wp_nO (sS_scopeEnd L xs hm (by omega) x2 75 h (by omega) (Int.le_refl _) (by omega)) (fun g1 r1 h1 => ?_)
      exact ⟨_, rfl, Cs.le h1 (by omega)⟩
    · rw [c2_ge] at hc
      refine wp_vB (sR_isReserved L xs (by omega) 59 0 h.1) ?_ (fun f2 => ?_)
      · refine wp_if (fun _ => ?_) (fun hc => absurd (by decide) hc)
        unfold BS_evaluate_77
        refine wp_nO (sS_scopeEnd L xs hm (by omega) x2 75 h (by omega) (Int.le_refl _) (by omega)) (fun g3 r3 h3 => ?_)
        exact ⟨_, rfl, Cs.le h3 (by omega)⟩
      · refine wp_if (fun hc => absurd hc (by decide)) (fun _ => ?_)
        refine wp_vV ((sS_when L xs hm ihL ihF ihC ihU) x1 (by omega) (by first | decide | omega) (by first | decide | omega) (by first | decide | omega) h (f2 rfl) (by omega) (Int.le_refl _) (by omega)) (fun v4 g4 r4 h4 => ?_)
        refine wp_nT (sT_append L xs (by omega) x2 v4 h4) (fun g5 r5 h5 q5 => ?_)
        obtain ⟨k, rfl⟩ : ∃ q, k = q + 1 := ⟨k - 1, by omega⟩
        rw [lS_evaluate_38]
        have ei := i32_inc (x := x3) (by omega)
        exfalso
        omega
  | succ n ih =>
    intro k x1 x2 x3 g r hi0 hi1 hk hnn h
    subst hnn
    unfold BS_evaluate_38
    refine wp_if (fun hc => ?_) (fun hc => ?_)
    · rw [c2_ge] at hc
      unfold BS_evaluate_77
      refine wp_nO (sS_scopeEnd L xs hm (by omega) x2 75 h (by omega) (Int.le_refl _) (by omega)) (fun g1 r1 h1 => ?_)
      exact ⟨_, rfl, Cs.le h1 (by omega)⟩
    · rw [c2_ge] at hc
      refine wp_vB (sR_isReserved L xs (by omega) 59 0 h.1) ?_ (fun f2 => ?_)
      · refine wp_if (fun _ => ?_) (fun hc => absurd (by decide) hc)
        unfold BS_evaluate_77
        refine wp_nO (sS_scopeEnd L xs hm (by omega) x2 75 h (by omega) (Int.le_refl _) (by omega)) (fun g3 r3 h3 => ?_)
        exact ⟨_, rfl, Cs.le h3 (by omega)⟩
      · refine wp_if (fun hc => absurd hc (by decide)) (fun _ => ?_)
        refine wp_vV ((sS_when L xs hm ihL ihF ihC ihU) x1 (by omega) (by first | decide | omega) (by first | decide | omega) (by first | decide | omega) h (f2 rfl) (by omega) (Int.le_refl _) (by omega)) (fun v4 g4 r4 h4 => ?_)
        refine wp_nT (sT_append L xs (by omega) x2 v4 h4) (fun g5 r5 h5 q5 => ?_)
        obtain ⟨k, rfl⟩ : ∃ q, k = q + 1 := ⟨k - 1, by omega⟩
        rw [lS_evaluate_38]
        have ei := i32_inc (x := x3) (by omega)
        exact ih k _ _ _ (by omega) (by omega) (by omega) rfl (Cs.le h5 (by omega))
theorem sS_evaluate (L : Nat) (xs : Nat → Int32) {m : Nat} (hm : 4294967296 ≤ m) {N : Nat} (ihL : spL L xs m N) (ihF : spF L xs m N) (ihC : spC L xs m N) (ihU : spU L xs m N) : ∀ {d : Nat} (a1 : Int32) {b bq bx : Int} {g : a2_G} {r : a2_A}, 7 + 16 * (N + 1) ≤ d → 0 ≤ a1.toInt → a1.toInt ≤ 40 → 41 ≤ a1.toInt + ((N + 1) : Nat) → Cs b g r → Lt g → b ≤ 3244 → b + (-4) ≤ bq → b + (-2) ≤ bx → wp (ev L xs (m + 1) d nS_evaluate [.ref cS, .int a1] g r) (kV bq) (kX bx) := by
  intro d a1 b bq bx g r hd hn0 hn1 hn2 h hl hb hq hx
  obtain ⟨d, rfl⟩ : ∃ e, d = e + 1 := ⟨d - 1, by omega⟩
  have k40 : (40 : Int32).toInt = 40 := rfl
  rw [qS_evaluate]
  refine wp_vV (sS_begin L xs hm (by omega) 30 h (show Lt g from hl) (by omega) (Int.le_refl _) (by omega)) (fun v1 g1 r1 h1 => ?_)
  refine wp_nO (sL_operandIn L xs hm (by omega) v1 h1 (by omega) (Int.le_refl _) (by omega)) (fun g2 r2 h2 => ?_)
  refine wp_vB (sR_isReserved L xs (by omega) 59 0 h2.1) ?_ (fun f3 => ?_)
  · refine wp_if (fun hc => absurd hc (by decide)) (fun _ => ?_)
    exact wp_nR (sR_refuse L xs (by omega) 1 h2 (by omega))
  · refine wp_if (fun _ => ?_) (fun hc => absurd (by decide) hc)
    unfold BS_evaluate_36
    exact sBS_evaluate_38 L xs hm ihL ihF ihC ihU (d := d) a1 (by omega) (by omega) (by omega) (by omega) (by omega) (by omega) (by omega) 1500 m a1 v1 0 (by first | decide | omega) (by first | decide | omega) (by omega) rfl h2
theorem sS_read (L : Nat) (xs : Nat → Int32) {m : Nat} (hm : 4294967296 ≤ m) {N : Nat} (ihL : spL L xs m N) (ihF : spF L xs m N) (ihC : spC L xs m N) (ihU : spU L xs m N) : ∀ {d : Nat} (a1 : Int32) {b bq bx : Int} {g : a2_G} {r : a2_A}, 3 + 16 * (N + 1) ≤ d → 0 ≤ a1.toInt → a1.toInt ≤ 40 → 41 ≤ a1.toInt + ((N + 1) : Nat) → Cs b g r → Lt g → b ≤ 3250 → b + (-5) ≤ bq → b + (-2) ≤ bx → wp (ev L xs (m + 1) d nS_read [.ref cS, .int a1] g r) (kV bq) (kX bx) := by
  intro d a1 b bq bx g r hd hn0 hn1 hn2 h hl hb hq hx
  obtain ⟨d, rfl⟩ : ∃ e, d = e + 1 := ⟨d - 1, by omega⟩
  have k40 : (40 : Int32).toInt = 40 := rfl
  rw [qS_read]
  refine wp_vV (sS_begin L xs hm (by omega) 31 h (show Lt g from hl) (by omega) (Int.le_refl _) (by omega)) (fun v1 g1 r1 h1 => ?_)
  refine wp_vV (sR_requireKind L xs hm (by omega) 1 h1 (by omega) (Int.le_refl _) (by omega)) (fun v2 g2 r2 h2 => ?_)
  refine wp_nT (sT_set L xs (by omega) v1 1 v2 h2) (fun g3 r3 h3 q3 => ?_)
  refine wp_vS (sR_skip L xs (by omega) 61 h3) (fun _ => ?_) (fun g4 r4 h4 => ?_)
  · refine wp_if (fun _ => ?_) (fun hc => absurd (by decide) hc)
    unfold BS_read_62
    refine wp_nO (sS_scopeEnd L xs hm (by omega) v1 76 h3 (by omega) (Int.le_refl _) (by omega)) (fun g5 r5 h5 => ?_)
    exact ⟨_, rfl, Cs.le h5 (by omega)⟩
  · refine wp_if (fun hc => absurd hc (by decide)) (fun _ => ?_)
    refine wp_nO (sR_require L xs hm (by omega) 33 h4 (by omega) (Int.le_refl _) (by omega)) (fun g6 r6 h6 => ?_)
    have ej7 := i32_inc (x := a1) (by omega)
    refine wp_vV (ihL 40 (a1 + 1) (by omega) (by first | decide | omega) (by first | decide | omega) (by first | decide | omega) h6 (by omega) (Int.le_refl _) (by omega)) (fun v7 g7 r7 h7 => ?_)
    refine wp_nT (sT_append L xs (by omega) v1 v7 h7) (fun g8 r8 h8 q8 => ?_)
    unfold BS_read_62
    refine wp_nO (sS_scopeEnd L xs hm (by omega) v1 76 h8 (by omega) (Int.le_refl _) (by omega)) (fun g9 r9 h9 => ?_)
    exact ⟨_, rfl, Cs.le h9 (by omega)⟩
theorem sS_call (L : Nat) (xs : Nat → Int32) {m : Nat} (hm : 4294967296 ≤ m) {N : Nat} (ihL : spL L xs m N) (ihF : spF L xs m N) (ihC : spC L xs m N) (ihU : spU L xs m N) : ∀ {d : Nat} (a1 : Int32) {b bq bx : Int} {g : a2_G} {r : a2_A}, 4 + 16 * (N + 1) ≤ d → 0 ≤ a1.toInt → a1.toInt ≤ 40 → 41 ≤ a1.toInt + ((N + 1) : Nat) → Cs b g r → Lt g → b ≤ 3250 → b + (-4) ≤ bq → b + (-2) ≤ bx → wp (ev L xs (m + 1) d nS_call [.ref cS, .int a1] g r) (kV bq) (kX bx) := by
  intro d a1 b bq bx g r hd hn0 hn1 hn2 h hl hb hq hx
  obtain ⟨d, rfl⟩ : ∃ e, d = e + 1 := ⟨d - 1, by omega⟩
  have k40 : (40 : Int32).toInt = 40 := rfl
  rw [qS_call]
  refine wp_vV (sS_begin L xs hm (by omega) 32 h (show Lt g from hl) (by omega) (Int.le_refl _) (by omega)) (fun v1 g1 r1 h1 => ?_)
  refine wp_vB (sR_isKind L xs (by omega) 2 h1.1) ?_ (fun f2 => ?_)
  · refine wp_if (fun _ => ?_) (fun hc => absurd (by decide) hc)
    unfold BS_call_26
    refine wp_nO (sL_operandIn L xs hm (by omega) v1 h1 (by omega) (Int.le_refl _) (by omega)) (fun g3 r3 h3 => ?_)
    refine wp_vS (sR_skip L xs (by omega) 31 h3) (fun _ => ?_) (fun g4 r4 h4 => ?_)
    · refine wp_if (fun _ => ?_) (fun hc => absurd (by decide) hc)
      unfold BS_call_56
      refine wp_vS (sR_skip L xs (by omega) 62 h3) (fun _ => ?_) (fun g5 r5 h5 => ?_)
      · refine wp_if (fun _ => ?_) (fun hc => absurd (by decide) hc)
        unfold BS_call_85
        refine wp_nO (sS_scopeEnd L xs hm (by omega) v1 77 h3 (by omega) (Int.le_refl _) (by omega)) (fun g6 r6 h6 => ?_)
        exact ⟨_, rfl, Cs.le h6 (by omega)⟩
      · refine wp_if (fun hc => absurd hc (by decide)) (fun _ => ?_)
        have ej7 := i32_inc (x := a1) (by omega)
        refine wp_vV (ihL 40 (a1 + 1) (by omega) (by first | decide | omega) (by first | decide | omega) (by first | decide | omega) h5 (by omega) (Int.le_refl _) (by omega)) (fun v7 g7 r7 h7 => ?_)
        refine wp_nT (sT_append L xs (by omega) v1 v7 h7) (fun g8 r8 h8 q8 => ?_)
        unfold BS_call_85
        refine wp_nO (sS_scopeEnd L xs hm (by omega) v1 77 h8 (by omega) (Int.le_refl _) (by omega)) (fun g9 r9 h9 => ?_)
        exact ⟨_, rfl, Cs.le h9 (by omega)⟩
    · refine wp_if (fun hc => absurd hc (by decide)) (fun _ => ?_)
      refine wp_nO (sL_namesIn L xs hm (by omega) v1 21 h4 (by omega) (Int.le_refl _) (by omega)) (fun g10 r10 h10 => ?_)
      unfold BS_call_56
      refine wp_vS (sR_skip L xs (by omega) 62 h10) (fun _ => ?_) (fun g11 r11 h11 => ?_)
      · refine wp_if (fun _ => ?_) (fun hc => absurd (by decide) hc)
        unfold BS_call_85
        refine wp_nO (sS_scopeEnd L xs hm (by omega) v1 77 h10 (by omega) (Int.le_refl _) (by omega)) (fun g12 r12 h12 => ?_)
        exact ⟨_, rfl, Cs.le h12 (by omega)⟩
      · refine wp_if (fun hc => absurd hc (by decide)) (fun _ => ?_)
        have ej13 := i32_inc (x := a1) (by omega)
        refine wp_vV (ihL 40 (a1 + 1) (by omega) (by first | decide | omega) (by first | decide | omega) (by first | decide | omega) h11 (by omega) (Int.le_refl _) (by omega)) (fun v13 g13 r13 h13 => ?_)
        refine wp_nT (sT_append L xs (by omega) v1 v13 h13) (fun g14 r14 h14 q14 => ?_)
        unfold BS_call_85
        refine wp_nO (sS_scopeEnd L xs hm (by omega) v1 77 h14 (by omega) (Int.le_refl _) (by omega)) (fun g15 r15 h15 => ?_)
        exact ⟨_, rfl, Cs.le h15 (by omega)⟩
  · refine wp_if (fun hc => absurd hc (by decide)) (fun _ => ?_)
    exact wp_nR (sR_refuse L xs (by omega) 1 h1 (by omega))
theorem sS_compute (L : Nat) (xs : Nat → Int32) {m : Nat} (hm : 4294967296 ≤ m) {N : Nat} (ihL : spL L xs m N) (ihF : spF L xs m N) (ihC : spC L xs m N) (ihU : spU L xs m N) : ∀ {d : Nat} (a1 : Int32) {b bq bx : Int} {g : a2_G} {r : a2_A}, 6 + 16 * (N + 1) ≤ d → 0 ≤ a1.toInt → a1.toInt ≤ 40 → 41 ≤ a1.toInt + ((N + 1) : Nat) → Cs b g r → Lt g → b ≤ 3250 → b + (-10) ≤ bq → b + (-2) ≤ bx → wp (ev L xs (m + 1) d nS_compute [.ref cS, .int a1] g r) (kV bq) (kX bx) := by
  intro d a1 b bq bx g r hd hn0 hn1 hn2 h hl hb hq hx
  obtain ⟨d, rfl⟩ : ∃ e, d = e + 1 := ⟨d - 1, by omega⟩
  have k40 : (40 : Int32).toInt = 40 := rfl
  rw [qS_compute]
  refine wp_vV (sS_begin L xs hm (by omega) 38 h (show Lt g from hl) (by omega) (Int.le_refl _) (by omega)) (fun v1 g1 r1 h1 => ?_)
  refine wp_vV (sR_requireKind L xs hm (by omega) 1 h1 (by omega) (Int.le_refl _) (by omega)) (fun v2 g2 r2 h2 => ?_)
  refine wp_nT (sT_set L xs (by omega) v1 1 v2 h2) (fun g3 r3 h3 q3 => ?_)
  refine wp_nO (sR_requireSign L xs hm (by omega) 2 h3 (by omega) (Int.le_refl _) (by omega)) (fun g4 r4 h4 => ?_)
  refine wp_vV ((sX_sum L xs hm ihL ihF ihC ihU) a1 (by omega) (by first | decide | omega) (by first | decide | omega) (by first | decide | omega) h4 (by omega) (Int.le_refl _) (by omega)) (fun v5 g5 r5 h5 => ?_)
  refine wp_nT (sT_append L xs (by omega) v1 v5 h5) (fun g6 r6 h6 q6 => ?_)
  refine wp_nO (sS_scopeEnd L xs hm (by omega) v1 78 h6 (by omega) (Int.le_refl _) (by omega)) (fun g7 r7 h7 => ?_)
  exact ⟨_, rfl, Cs.le h7 (by omega)⟩
theorem sS_statement (L : Nat) (xs : Nat → Int32) {m : Nat} (hm : 4294967296 ≤ m) {N : Nat} (ihL : spL L xs m N) (ihF : spF L xs m N) (ihC : spC L xs m N) (ihU : spU L xs m N) : spS L xs m (N + 1) := by
  intro d a1 b bq bx g r hd hn0 hn1 hn2 h hl hb hq hx
  obtain ⟨d, rfl⟩ : ∃ e, d = e + 1 := ⟨d - 1, by omega⟩
  have k40 : (40 : Int32).toInt = 40 := rfl
  rw [qS_statement]
  refine wp_vP (sR_value L xs (by omega) h.1) (fun v1 _ => ?_)
  refine wp_if (fun _ => ?_) (fun _ => ?_)
  · refine wp_vV (sS_display L xs hm (by omega) h (show Lt g from hl) (by omega) (Int.le_refl _) (by omega)) (fun v2 g2 r2 h2 => ?_)
    exact ⟨_, rfl, Cs.le h2 (by omega)⟩
  · refine wp_if (fun _ => ?_) (fun _ => ?_)
    · unfold BS_statement_162
      refine wp_vV ((sS_compute L xs hm ihL ihF ihC ihU) a1 (by omega) (by first | decide | omega) (by first | decide | omega) (by first | decide | omega) h (show Lt g from hl) (by omega) (Int.le_refl _) (by omega)) (fun v3 g3 r3 h3 => ?_)
      exact ⟨_, rfl, Cs.le h3 (by omega)⟩
    · refine wp_if (fun _ => ?_) (fun _ => ?_)
      · unfold BS_statement_162
        refine wp_vV ((sS_compute L xs hm ihL ihF ihC ihU) a1 (by omega) (by first | decide | omega) (by first | decide | omega) (by first | decide | omega) h (show Lt g from hl) (by omega) (Int.le_refl _) (by omega)) (fun v4 g4 r4 h4 => ?_)
        exact ⟨_, rfl, Cs.le h4 (by omega)⟩
      · refine wp_if (fun _ => ?_) (fun _ => ?_)
        · unfold BS_statement_162
          refine wp_vV ((sS_compute L xs hm ihL ihF ihC ihU) a1 (by omega) (by first | decide | omega) (by first | decide | omega) (by first | decide | omega) h (show Lt g from hl) (by omega) (Int.le_refl _) (by omega)) (fun v5 g5 r5 h5 => ?_)
          exact ⟨_, rfl, Cs.le h5 (by omega)⟩
        · refine wp_if (fun _ => ?_) (fun _ => ?_)
          · unfold BS_statement_162
            refine wp_vV ((sS_compute L xs hm ihL ihF ihC ihU) a1 (by omega) (by first | decide | omega) (by first | decide | omega) (by first | decide | omega) h (show Lt g from hl) (by omega) (Int.le_refl _) (by omega)) (fun v6 g6 r6 h6 => ?_)
            exact ⟨_, rfl, Cs.le h6 (by omega)⟩
          · refine wp_if (fun _ => ?_) (fun _ => ?_)
            · unfold BS_statement_162
              refine wp_vV ((sS_compute L xs hm ihL ihF ihC ihU) a1 (by omega) (by first | decide | omega) (by first | decide | omega) (by first | decide | omega) h (show Lt g from hl) (by omega) (Int.le_refl _) (by omega)) (fun v7 g7 r7 h7 => ?_)
              exact ⟨_, rfl, Cs.le h7 (by omega)⟩
            · refine wp_if (fun _ => ?_) (fun _ => ?_)
              · unfold BS_statement_162
                refine wp_vV ((sS_compute L xs hm ihL ihF ihC ihU) a1 (by omega) (by first | decide | omega) (by first | decide | omega) (by first | decide | omega) h (show Lt g from hl) (by omega) (Int.le_refl _) (by omega)) (fun v8 g8 r8 h8 => ?_)
                exact ⟨_, rfl, Cs.le h8 (by omega)⟩
              · refine wp_if (fun _ => ?_) (fun _ => ?_)
                · refine wp_vV (sS_move L xs hm (by omega) h (show Lt g from hl) (by omega) (Int.le_refl _) (by omega)) (fun v9 g9 r9 h9 => ?_)
                  exact ⟨_, rfl, Cs.le h9 (by omega)⟩
                · refine wp_if (fun _ => ?_) (fun _ => ?_)
                  · refine wp_vV ((sS_add L xs hm ihL ihF ihC ihU) a1 (by omega) (by first | decide | omega) (by first | decide | omega) (by first | decide | omega) h (show Lt g from hl) (by omega) (Int.le_refl _) (by omega)) (fun v10 g10 r10 h10 => ?_)
                    exact ⟨_, rfl, Cs.le h10 (by omega)⟩
                  · refine wp_if (fun _ => ?_) (fun _ => ?_)
                    · refine wp_vV ((sS_ifElse L xs hm ihL ihF ihC ihU) a1 (by omega) (by first | decide | omega) (by first | decide | omega) (by first | decide | omega) h (show Lt g from hl) (by omega) (Int.le_refl _) (by omega)) (fun v11 g11 r11 h11 => ?_)
                      exact ⟨_, rfl, Cs.le h11 (by omega)⟩
                    · refine wp_if (fun _ => ?_) (fun _ => ?_)
                      · refine wp_vV ((sS_perform L xs hm ihL ihF ihC ihU) a1 (by omega) (by first | decide | omega) (by first | decide | omega) (by first | decide | omega) h (show Lt g from hl) (by omega) (Int.le_refl _) (by omega)) (fun v12 g12 r12 h12 => ?_)
                        exact ⟨_, rfl, Cs.le h12 (by omega)⟩
                      · refine wp_if (fun _ => ?_) (fun _ => ?_)
                        · refine wp_vV ((sS_evaluate L xs hm ihL ihF ihC ihU) a1 (by omega) (by first | decide | omega) (by first | decide | omega) (by first | decide | omega) h (show Lt g from hl) (by omega) (Int.le_refl _) (by omega)) (fun v13 g13 r13 h13 => ?_)
                          exact ⟨_, rfl, Cs.le h13 (by omega)⟩
                        · refine wp_if (fun _ => ?_) (fun _ => ?_)
                          · refine wp_vV ((sS_read L xs hm ihL ihF ihC ihU) a1 (by omega) (by first | decide | omega) (by first | decide | omega) (by first | decide | omega) h (show Lt g from hl) (by omega) (Int.le_refl _) (by omega)) (fun v14 g14 r14 h14 => ?_)
                            exact ⟨_, rfl, Cs.le h14 (by omega)⟩
                          · refine wp_if (fun _ => ?_) (fun _ => ?_)
                            · refine wp_vV ((sS_call L xs hm ihL ihF ihC ihU) a1 (by omega) (by first | decide | omega) (by first | decide | omega) (by first | decide | omega) h (show Lt g from hl) (by omega) (Int.le_refl _) (by omega)) (fun v15 g15 r15 h15 => ?_)
                              exact ⟨_, rfl, Cs.le h15 (by omega)⟩
                            · refine wp_if (fun _ => ?_) (fun _ => ?_)
                              · refine wp_vV (sS_goTo L xs hm (by omega) h (show Lt g from hl) (by omega) (Int.le_refl _) (by omega)) (fun v16 g16 r16 h16 => ?_)
                                exact ⟨_, rfl, Cs.le h16 (by omega)⟩
                              · refine wp_if (fun _ => ?_) (fun _ => ?_)
                                · refine wp_vV (sS_stop L xs hm (by omega) h (show Lt g from hl) (by omega) (Int.le_refl _) (by omega)) (fun v17 g17 r17 h17 => ?_)
                                  exact ⟨_, rfl, Cs.le h17 (by omega)⟩
                                · refine wp_if (fun _ => ?_) (fun _ => ?_)
                                  · refine wp_vV (sS_begin L xs hm (by omega) 36 h (show Lt g from hl) (by omega) (Int.le_refl _) (by omega)) (fun v18 g18 r18 h18 => ?_)
                                    exact ⟨_, rfl, Cs.le h18 (by omega)⟩
                                  · refine wp_if (fun _ => ?_) (fun _ => ?_)
                                    · refine wp_vV (sS_begin L xs hm (by omega) 37 h (show Lt g from hl) (by omega) (Int.le_refl _) (by omega)) (fun v19 g19 r19 h19 => ?_)
                                      exact ⟨_, rfl, Cs.le h19 (by omega)⟩
                                    · unfold BS_statement_162
                                      refine wp_vV ((sS_compute L xs hm ihL ihF ihC ihU) a1 (by omega) (by first | decide | omega) (by first | decide | omega) (by first | decide | omega) h (show Lt g from hl) (by omega) (Int.le_refl _) (by omega)) (fun v20 g20 r20 h20 => ?_)
                                      exact ⟨_, rfl, Cs.le h20 (by omega)⟩
theorem sBS_list_49 (L : Nat) (xs : Nat → Int32) {m d : Nat} (hm : 4294967296 ≤ m) {N : Nat} (hs : spS L xs m N) {b bq bx : Int} (nn : Int32) (hn0 : 0 ≤ nn.toInt) (hn1 : nn.toInt ≤ 40) (hn2 : 41 ≤ nn.toInt + (N : Nat)) (hd : 8 + 16 * N ≤ d) (hb : b ≤ 3244) (hq : b + (0) ≤ bq) (hx : b + (-1) ≤ bx) : ∀ (n k : Nat) (x1 x2 x3 x4 : Int32) {g : a2_G} {r : a2_A}, 0 ≤ x4.toInt → 1500 ≤ x4.toInt + n → n < k → x2 = nn → Cs b g r → wp (BS_list_49 L xs (m + 1) d k x1 x2 x3 x4 g r) (kV bq) (kX bx) := by
  have k15 : (1500 : Int32).toInt = 1500 := rfl
  have k40 : (40 : Int32).toInt = 40 := rfl
  intro n
  induction n with
  | zero =>
    intro k x1 x2 x3 x4 g r hi0 hi1 hk hnn h
    subst hnn
    unfold BS_list_49
    refine wp_if (fun hc => ?_) (fun hc => ?_)
    · rw [c2_ge] at hc
      unfold BS_list_83
      exact ⟨_, rfl, Cs.le h (by omega)⟩
    · rw [c2_ge] at hc
      refine wp_vB (sS_isNext L xs (by omega) h.1) ?_ (fun f1 => ?_)
      · refine wp_if (fun _ => ?_) (fun hc => absurd (by decide) hc)
        unfold BS_list_83
        exact ⟨_, rfl, Cs.le h (by omega)⟩
      · refine wp_if (fun hc => absurd hc (by decide)) (fun _ => ?_)
        refine wp_vV (hs x2 (by omega) (by first | decide | omega) (by first | decide | omega) (by first | decide | omega) h (show Lt g from f1) (by omega) (Int.le_refl _) (by omega)) (fun v2 g2 r2 h2 => ?_)
        refine wp_nT (sT_append L xs (by omega) x3 v2 h2) (fun g3 r3 h3 q3 => ?_)
        obtain ⟨k, rfl⟩ : ∃ q, k = q + 1 := ⟨k - 1, by omega⟩
        rw [lS_list_49]
        have ei := i32_inc (x := x4) (by omega)
        exfalso
        omega
  | succ n ih =>
    intro k x1 x2 x3 x4 g r hi0 hi1 hk hnn h
    subst hnn
    unfold BS_list_49
    refine wp_if (fun hc => ?_) (fun hc => ?_)
    · rw [c2_ge] at hc
      unfold BS_list_83
      exact ⟨_, rfl, Cs.le h (by omega)⟩
    · rw [c2_ge] at hc
      refine wp_vB (sS_isNext L xs (by omega) h.1) ?_ (fun f1 => ?_)
      · refine wp_if (fun _ => ?_) (fun hc => absurd (by decide) hc)
        unfold BS_list_83
        exact ⟨_, rfl, Cs.le h (by omega)⟩
      · refine wp_if (fun hc => absurd hc (by decide)) (fun _ => ?_)
        refine wp_vV (hs x2 (by omega) (by first | decide | omega) (by first | decide | omega) (by first | decide | omega) h (show Lt g from f1) (by omega) (Int.le_refl _) (by omega)) (fun v2 g2 r2 h2 => ?_)
        refine wp_nT (sT_append L xs (by omega) x3 v2 h2) (fun g3 r3 h3 q3 => ?_)
        obtain ⟨k, rfl⟩ : ∃ q, k = q + 1 := ⟨k - 1, by omega⟩
        rw [lS_list_49]
        have ei := i32_inc (x := x4) (by omega)
        exact ih k _ _ _ _ (by omega) (by omega) (by omega) rfl (Cs.le h3 (by omega))
theorem sS_list (L : Nat) (xs : Nat → Int32) {m : Nat} (hm : 4294967296 ≤ m) {N : Nat} (hs : spS L xs m N) : spL L xs m N := by
  intro d a1 a2 b bq bx g r hd hn0 hn1 hn2 h hb hq hx
  obtain ⟨d, rfl⟩ : ∃ e, d = e + 1 := ⟨d - 1, by omega⟩
  have k40 : (40 : Int32).toInt = 40 := rfl
  rw [qS_list]
  refine wp_vB (sS_isNext L xs (by omega) h.1) ?_ (fun f1 => ?_)
  · refine wp_if (fun hc => absurd hc (by decide)) (fun _ => ?_)
    exact wp_nR (sR_refuse L xs (by omega) 1 h (by omega))
  · refine wp_if (fun _ => ?_) (fun hc => absurd (by decide) hc)
    unfold BS_list_15
    refine wp_if (fun hc => ?_) (fun hc => ?_)
    · rw [c2_le] at hc
      unfold BS_list_29
      refine wp_vP (sR_place L xs (by omega) h.1) (fun v3 _ => ?_)
      refine wp_vT (sT_make L xs hm (by omega) a1 0 v3 h (by omega)) (fun v4 g4 r4 h4 q4 => ?_)
      exact sBS_list_49 L xs hm hs (d := d) a2 (by omega) (by omega) (by omega) (by omega) (by omega) (by omega) (by omega) 1500 m a1 a2 v4 0 (by first | decide | omega) (by first | decide | omega) (by omega) rfl h4
    · rw [c2_le] at hc
      exact wp_nR (sR_refuse L xs (by omega) 3 h (by omega))
