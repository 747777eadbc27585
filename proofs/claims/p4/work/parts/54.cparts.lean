/-! Written by wip/p2/gensafe.py: clauses' parts keep the class's rows. -/
theorem sR_requireKind (L : Nat) (xs : Nat → Int32) {m d : Nat} (hm : 4294967296 ≤ m) (hd : 2 ≤ d) (a1 : Int32) {b bq bx : Int} {g : a2_G} {r : a2_A} (h : Cs b g r) (hb : b ≤ 3250) (hq : b + (-3) ≤ bq) (hx : b + (0) ≤ bx) : wp (ev L xs (m + 1) d nR_requireKind [.ref cR, .int a1] g r) (kV bq) (kX bx) := by
  obtain ⟨d, rfl⟩ : ∃ e, d = e + 1 := ⟨d - 1, by omega⟩
  rw [qR_requireKind]
  refine wp_vB (sR_isKind L xs (by omega) a1 h.1) ?_ (fun f1 => ?_)
  · refine wp_if (fun hc => absurd hc (by decide)) (fun _ => ?_)
    exact wp_nR (sR_refuse L xs (by omega) 1 h (by omega))
  · refine wp_if (fun _ => ?_) (fun hc => absurd (by decide) hc)
    unfold BR_requireKind_13
    refine wp_vP (sR_value L xs (by omega) h.1) (fun v3 _ => ?_)
    refine wp_nON (sR_advanceL L xs (by omega) h (show Lt g from f1)) (fun g4 r4 h4 => ?_)
    exact ⟨_, rfl, Cs.le h4 (by omega)⟩
theorem sR_require (L : Nat) (xs : Nat → Int32) {m d : Nat} (hm : 4294967296 ≤ m) (hd : 2 ≤ d) (a1 : Int32) {b bq bx : Int} {g : a2_G} {r : a2_A} (h : Cs b g r) (hb : b ≤ 3250) (hq : b + (-3) ≤ bq) (hx : b + (0) ≤ bx) : wp (ev L xs (m + 1) d nR_require [.ref cR, .int a1] g r) (kO bq) (kX bx) := by
  obtain ⟨d, rfl⟩ : ∃ e, d = e + 1 := ⟨d - 1, by omega⟩
  rw [qR_require]
  refine wp_vS (sR_skip L xs (by omega) a1 h) (fun _ => ?_) (fun g1 r1 h1 => ?_)
  · refine wp_if (fun hc => absurd hc (by decide)) (fun _ => ?_)
    exact wp_nR (sR_refuse L xs (by omega) 1 h (by omega))
  · refine wp_if (fun _ => ?_) (fun hc => absurd (by decide) hc)
    unfold BR_require_13
    exact ⟨rfl, Cs.le h1 (by omega)⟩
theorem sR_requireSign (L : Nat) (xs : Nat → Int32) {m d : Nat} (hm : 4294967296 ≤ m) (hd : 2 ≤ d) (a1 : Int32) {b bq bx : Int} {g : a2_G} {r : a2_A} (h : Cs b g r) (hb : b ≤ 3250) (hq : b + (-3) ≤ bq) (hx : b + (0) ≤ bx) : wp (ev L xs (m + 1) d nR_requireSign [.ref cR, .int a1] g r) (kO bq) (kX bx) := by
  obtain ⟨d, rfl⟩ : ∃ e, d = e + 1 := ⟨d - 1, by omega⟩
  rw [qR_requireSign]
  refine wp_vB (sR_isSign L xs (by omega) a1 0 h.1) ?_ (fun f1 => ?_)
  · refine wp_if (fun hc => absurd hc (by decide)) (fun _ => ?_)
    exact wp_nR (sR_refuse L xs (by omega) 1 h (by omega))
  · refine wp_if (fun _ => ?_) (fun hc => absurd (by decide) hc)
    unfold BR_requireSign_14
    refine wp_nON (sR_advanceL L xs (by omega) h (show Lt g from (f1 rfl))) (fun g3 r3 h3 => ?_)
    exact ⟨rfl, Cs.le h3 (by omega)⟩
theorem sL_operand (L : Nat) (xs : Nat → Int32) {m d : Nat} (hm : 4294967296 ≤ m) (hd : 2 ≤ d) {b bq bx : Int} {g : a2_G} {r : a2_A} (h : Cs b g r) (hb : b ≤ 3250) (hq : b + (-2) ≤ bq) (hx : b + (0) ≤ bx) : wp (ev L xs (m + 1) d nL_operand [.ref cL] g r) (kV bq) (kX bx) := by
  obtain ⟨d, rfl⟩ : ∃ e, d = e + 1 := ⟨d - 1, by omega⟩
  rw [qL_operand]
  refine wp_vB (sR_isOperand L xs (by omega) h.1) ?_ (fun f1 => ?_)
  · refine wp_if (fun hc => absurd hc (by decide)) (fun _ => ?_)
    exact wp_nR (sR_refuse L xs (by omega) 1 h (by omega))
  · refine wp_if (fun _ => ?_) (fun hc => absurd (by decide) hc)
    unfold BL_operand_18
    refine wp_vP (sR_kind L xs (by omega) h.1) (fun v3 _ => ?_)
    refine wp_vP (sR_value L xs (by omega) h.1) (fun v4 _ => ?_)
    refine wp_vP (sR_place L xs (by omega) h.1) (fun v5 _ => ?_)
    refine wp_vT (sT_make L xs hm (by omega) 41 ((100000 * v3) + v4) v5 h (by omega)) (fun v6 g6 r6 h6 q6 => ?_)
    refine wp_nON (sR_advanceL L xs (by omega) h6 (show Lt g6 from (q6.lt (show Lt g from f1)))) (fun g7 r7 h7 => ?_)
    exact ⟨_, rfl, Cs.le h7 (by omega)⟩
theorem sL_operandIn (L : Nat) (xs : Nat → Int32) {m d : Nat} (hm : 4294967296 ≤ m) (hd : 3 ≤ d) (a1 : Int32) {b bq bx : Int} {g : a2_G} {r : a2_A} (h : Cs b g r) (hb : b ≤ 3250) (hq : b + (-2) ≤ bq) (hx : b + (0) ≤ bx) : wp (ev L xs (m + 1) d nL_operandIn [.ref cL, .int a1] g r) (kO bq) (kX bx) := by
  obtain ⟨d, rfl⟩ : ∃ e, d = e + 1 := ⟨d - 1, by omega⟩
  rw [qL_operandIn]
  refine wp_vV (sL_operand L xs hm (by omega) h (by omega) (Int.le_refl _) (by omega)) (fun v1 g1 r1 h1 => ?_)
  refine wp_nT (sT_append L xs (by omega) a1 v1 h1) (fun g2 r2 h2 q2 => ?_)
  exact ⟨rfl, Cs.le h2 (by omega)⟩
theorem sL_nameIn (L : Nat) (xs : Nat → Int32) {m d : Nat} (hm : 4294967296 ≤ m) (hd : 2 ≤ d) (a1 : Int32) (a2 : Int32) {b bq bx : Int} {g : a2_G} {r : a2_A} (h : Cs b g r) (hb : b ≤ 3250) (hq : b + (-2) ≤ bq) (hx : b + (0) ≤ bx) : wp (ev L xs (m + 1) d nL_nameIn [.ref cL, .int a1, .int a2] g r) (kO bq) (kX bx) := by
  obtain ⟨d, rfl⟩ : ∃ e, d = e + 1 := ⟨d - 1, by omega⟩
  rw [qL_nameIn]
  refine wp_vB (sR_isKind L xs (by omega) 1 h.1) ?_ (fun f1 => ?_)
  · refine wp_if (fun hc => absurd hc (by decide)) (fun _ => ?_)
    exact wp_nR (sR_refuse L xs (by omega) 1 h (by omega))
  · refine wp_if (fun _ => ?_) (fun hc => absurd (by decide) hc)
    unfold BL_nameIn_19
    refine wp_if (fun _ => ?_) (fun _ => ?_)
    · unfold BL_nameIn_31
      refine wp_vP (sR_value L xs (by omega) h.1) (fun v3 _ => ?_)
      refine wp_vP (sR_place L xs (by omega) h.1) (fun v4 _ => ?_)
      refine wp_vT (sT_make L xs hm (by omega) a2 (0 + v3) v4 h (by omega)) (fun v5 g5 r5 h5 q5 => ?_)
      refine wp_nT (sT_append L xs (by omega) a1 v5 h5) (fun g6 r6 h6 q6 => ?_)
      refine wp_nON (sR_advanceL L xs (by omega) h6 (show Lt g6 from (q6.lt (show Lt g5 from (q5.lt (show Lt g from f1)))))) (fun g7 r7 h7 => ?_)
      exact ⟨rfl, Cs.le h7 (by omega)⟩
    · unfold BL_nameIn_31
      refine wp_vP (sR_value L xs (by omega) h.1) (fun v8 _ => ?_)
      refine wp_vP (sR_place L xs (by omega) h.1) (fun v9 _ => ?_)
      refine wp_vT (sT_make L xs hm (by omega) a2 (100000 + v8) v9 h (by omega)) (fun v10 g10 r10 h10 q10 => ?_)
      refine wp_nT (sT_append L xs (by omega) a1 v10 h10) (fun g11 r11 h11 q11 => ?_)
      refine wp_nON (sR_advanceL L xs (by omega) h11 (show Lt g11 from (q11.lt (show Lt g10 from (q10.lt (show Lt g from f1)))))) (fun g12 r12 h12 => ?_)
      exact ⟨rfl, Cs.le h12 (by omega)⟩
theorem sBL_namesIn_8 (L : Nat) (xs : Nat → Int32) {m d : Nat} (hm : 4294967296 ≤ m) {b bq bx : Int} (hd : 2 ≤ d) (hb : b ≤ 3250) (hq : b + (0) ≤ bq) (hx : b + (0) ≤ bx) : ∀ (n k : Nat) (x1 x2 x3 : Int32) {g : a2_G} {r : a2_A}, 0 ≤ x3.toInt → 1500 ≤ x3.toInt + n → n < k → Cs b g r → wp (BL_namesIn_8 L xs (m + 1) d k x1 x2 x3 g r) (kO bq) (kX bx) := by
  have k15 : (1500 : Int32).toInt = 1500 := rfl
  have k40 : (40 : Int32).toInt = 40 := rfl
  intro n
  induction n with
  | zero =>
    intro k x1 x2 x3 g r hi0 hi1 hk h
    unfold BL_namesIn_8
    refine wp_if (fun hc => ?_) (fun hc => ?_)
    · rw [c2_ge] at hc
      unfold BL_namesIn_38
      exact ⟨rfl, Cs.le h (by omega)⟩
    · rw [c2_ge] at hc
      refine wp_vB (sR_isKind L xs (by omega) 1 h.1) ?_ (fun f1 => ?_)
      · refine wp_if (fun _ => ?_) (fun hc => absurd (by decide) hc)
        unfold BL_namesIn_38
        exact ⟨rfl, Cs.le h (by omega)⟩
      · refine wp_if (fun hc => absurd hc (by decide)) (fun _ => ?_)
        refine wp_nO (sL_nameIn L xs hm (by omega) x1 x2 h (by omega) (Int.le_refl _) (by omega)) (fun g2 r2 h2 => ?_)
        obtain ⟨k, rfl⟩ : ∃ q, k = q + 1 := ⟨k - 1, by omega⟩
        rw [lL_namesIn_8]
        have ei := i32_inc (x := x3) (by omega)
        exfalso
        omega
  | succ n ih =>
    intro k x1 x2 x3 g r hi0 hi1 hk h
    unfold BL_namesIn_8
    refine wp_if (fun hc => ?_) (fun hc => ?_)
    · rw [c2_ge] at hc
      unfold BL_namesIn_38
      exact ⟨rfl, Cs.le h (by omega)⟩
    · rw [c2_ge] at hc
      refine wp_vB (sR_isKind L xs (by omega) 1 h.1) ?_ (fun f1 => ?_)
      · refine wp_if (fun _ => ?_) (fun hc => absurd (by decide) hc)
        unfold BL_namesIn_38
        exact ⟨rfl, Cs.le h (by omega)⟩
      · refine wp_if (fun hc => absurd hc (by decide)) (fun _ => ?_)
        refine wp_nO (sL_nameIn L xs hm (by omega) x1 x2 h (by omega) (Int.le_refl _) (by omega)) (fun g2 r2 h2 => ?_)
        obtain ⟨k, rfl⟩ : ∃ q, k = q + 1 := ⟨k - 1, by omega⟩
        rw [lL_namesIn_8]
        have ei := i32_inc (x := x3) (by omega)
        exact ih k _ _ _ (by omega) (by omega) (by omega) (Cs.le h2 (by omega))
theorem sL_namesIn (L : Nat) (xs : Nat → Int32) {m d : Nat} (hm : 4294967296 ≤ m) (hd : 3 ≤ d) (a1 : Int32) (a2 : Int32) {b bq bx : Int} {g : a2_G} {r : a2_A} (h : Cs b g r) (hb : b ≤ 3250) (hq : b + (-2) ≤ bq) (hx : b + (0) ≤ bx) : wp (ev L xs (m + 1) d nL_namesIn [.ref cL, .int a1, .int a2] g r) (kO bq) (kX bx) := by
  obtain ⟨d, rfl⟩ : ∃ e, d = e + 1 := ⟨d - 1, by omega⟩
  rw [qL_namesIn]
  refine wp_nO (sL_nameIn L xs hm (by omega) a1 a2 h (by omega) (Int.le_refl _) (by omega)) (fun g1 r1 h1 => ?_)
  exact sBL_namesIn_8 L xs hm (d := d) (by omega) (by omega) (by omega) (by omega) 1500 m a1 a2 0 (by first | decide | omega) (by first | decide | omega) (by omega) h1
theorem sC_requireThat (L : Nat) (xs : Nat → Int32) {m d : Nat} (hm : 4294967296 ≤ m) (hd : 2 ≤ d) (a1 : Int32) {b bq bx : Int} {g : a2_G} {r : a2_A} (h : Cs b g r) (hb : b ≤ 3250) (hq : b + (0) ≤ bq) (hx : b + (0) ≤ bx) : wp (ev L xs (m + 1) d nC_requireThat [.ref cC, .int a1] g r) (kO bq) (kX bx) := by
  obtain ⟨d, rfl⟩ : ∃ e, d = e + 1 := ⟨d - 1, by omega⟩
  rw [qC_requireThat]
  refine wp_if (fun _ => ?_) (fun _ => ?_)
  · unfold BC_requireThat_12
    exact ⟨rfl, Cs.le h (by omega)⟩
  · exact wp_nR (sR_refuse L xs (by omega) 1 h (by omega))
theorem sC_requireState (L : Nat) (xs : Nat → Int32) {m d : Nat} (hm : 4294967296 ≤ m) (hd : 3 ≤ d) (a1 : Int32) (a2 : Int32) {b bq bx : Int} {g : a2_G} {r : a2_A} (h : Cs b g r) (hb : b ≤ 3250) (hq : b + (0) ≤ bq) (hx : b + (0) ≤ bx) : wp (ev L xs (m + 1) d nC_requireState [.ref cC, .int a1, .int a2] g r) (kO bq) (kX bx) := by
  obtain ⟨d, rfl⟩ : ∃ e, d = e + 1 := ⟨d - 1, by omega⟩
  rw [qC_requireState]
  refine wp_vP (sU_state L xs (by omega) h.1) (fun v1 _ => ?_)
  refine wp_if (fun _ => ?_) (fun _ => ?_)
  · unfold BC_requireState_27
    unfold BC_requireState_28
    refine wp_nO (sC_requireThat L xs hm (by omega) 0 h (by omega) (Int.le_refl _) (by omega)) (fun g2 r2 h2 => ?_)
    exact ⟨rfl, Cs.le h2 (by omega)⟩
  · refine wp_vP (sU_state L xs (by omega) h.1) (fun v3 _ => ?_)
    refine wp_if (fun _ => ?_) (fun _ => ?_)
    · unfold BC_requireState_27
      unfold BC_requireState_28
      refine wp_nO (sC_requireThat L xs hm (by omega) 0 h (by omega) (Int.le_refl _) (by omega)) (fun g4 r4 h4 => ?_)
      exact ⟨rfl, Cs.le h4 (by omega)⟩
    · unfold BC_requireState_28
      refine wp_nO (sC_requireThat L xs hm (by omega) 1 h (by omega) (Int.le_refl _) (by omega)) (fun g5 r5 h5 => ?_)
      exact ⟨rfl, Cs.le h5 (by omega)⟩
theorem sC_enterBody (L : Nat) (xs : Nat → Int32) {m d : Nat} (hm : 4294967296 ≤ m) (hd : 2 ≤ d) {b bq bx : Int} {g : a2_G} {r : a2_A} (h : Cs b g r) (hb : b ≤ 3250) (hq : b + (0) ≤ bq) (hx : b + (-20) ≤ bx) : wp (ev L xs (m + 1) d nC_enterBody [.ref cC] g r) (kO bq) (kX bx) := by
  obtain ⟨d, rfl⟩ : ∃ e, d = e + 1 := ⟨d - 1, by omega⟩
  rw [qC_enterBody]
  refine wp_vP (sU_state L xs (by omega) h.1) (fun v1 _ => ?_)
  refine wp_if (fun _ => ?_) (fun _ => ?_)
  · unfold BC_enterBody_21
    exact ⟨rfl, Cs.le h (by omega)⟩
  · refine wp_nT (sU_setState L xs (by omega) 11 h) (fun g2 r2 h2 q2 => ?_)
    unfold BC_enterBody_21
    exact ⟨rfl, Cs.le h2 (by omega)⟩
theorem sC_heading (L : Nat) (xs : Nat → Int32) {m d : Nat} (hm : 4294967296 ≤ m) (hd : 3 ≤ d) (a1 : Int32) (a2 : Int32) (a3 : Int32) {b bq bx : Int} {g : a2_G} {r : a2_A} (h : Cs b g r) (hb : b ≤ 3249) (hq : b + (-5) ≤ bq) (hx : b + (1) ≤ bx) : wp (ev L xs (m + 1) d nC_heading [.ref cC, .int a1, .int a2, .int a3] g r) (kV bq) (kX bx) := by
  obtain ⟨d, rfl⟩ : ∃ e, d = e + 1 := ⟨d - 1, by omega⟩
  rw [qC_heading]
  refine wp_vP (sR_place L xs (by omega) h.1) (fun v1 _ => ?_)
  refine wp_vT (sT_make L xs hm (by omega) a1 0 v1 h (by omega)) (fun v2 g2 r2 h2 q2 => ?_)
  refine wp_nON (sR_advance L xs (by omega) h2) (fun g3 r3 h3 => ?_)
  refine wp_nO (sR_require L xs hm (by omega) a2 h3 (by omega) (Int.le_refl _) (by omega)) (fun g4 r4 h4 => ?_)
  refine wp_vV (sR_requireKind L xs hm (by omega) 4 h4 (by omega) (Int.le_refl _) (by omega)) (fun v5 g5 r5 h5 => ?_)
  refine wp_nT (sT_append L xs (by omega) a3 v2 h5) (fun g6 r6 h6 q6 => ?_)
  exact ⟨_, rfl, Cs.le h6 (by omega)⟩
theorem sC_start (L : Nat) (xs : Nat → Int32) {m d : Nat} (hm : 4294967296 ≤ m) (hd : 2 ≤ d) {b bq bx : Int} {g : a2_G} {r : a2_A} (h : Cs b g r) (hb : b ≤ 3250) (hq : b + (0) ≤ bq) (hx : b + (-20) ≤ bx) : wp (ev L xs (m + 1) d nC_start [.ref cC] g r) (kO bq) (kX bx) := by
  obtain ⟨d, rfl⟩ : ∃ e, d = e + 1 := ⟨d - 1, by omega⟩
  rw [qC_start]
  refine wp_nT (sU_start L xs (by omega) h) (fun g1 r1 h1 q1 => ?_)
  exact ⟨rfl, Cs.le h1 (by omega)⟩
theorem sC_checkEnd (L : Nat) (xs : Nat → Int32) {m d : Nat} (hm : 4294967296 ≤ m) (hd : 2 ≤ d) {b bq bx : Int} {g : a2_G} {r : a2_A} (h : Cs b g r) (hb : b ≤ 3250) (hq : b + (0) ≤ bq) (hx : b + (-20) ≤ bx) : wp (ev L xs (m + 1) d nC_checkEnd [.ref cC] g r) (kO bq) (kX bx) := by
  obtain ⟨d, rfl⟩ : ∃ e, d = e + 1 := ⟨d - 1, by omega⟩
  rw [qC_checkEnd]
  refine wp_vP (sU_state L xs (by omega) h.1) (fun v1 _ => ?_)
  refine wp_if (fun _ => ?_) (fun _ => ?_)
  · unfold BC_checkEnd_28
    unfold BC_checkEnd_29
    refine wp_vP (sU_openCount L xs (by omega) h.1) (fun v2 _ => ?_)
    refine wp_if (fun _ => ?_) (fun _ => ?_)
    · unfold BC_checkEnd_56
      refine wp_vP (sR_place L xs (by omega) h.1) (fun v3 _ => ?_)
      refine wp_nT (sR_note L xs (by omega) 1 v3 h) (fun g4 r4 h4 q4 => ?_)
      unfold BC_checkEnd_71
      exact ⟨rfl, Cs.le h4 (by omega)⟩
    · refine wp_vP (sU_openCount L xs (by omega) h.1) (fun v5 _ => ?_)
      refine wp_if (fun _ => ?_) (fun _ => ?_)
      · unfold BC_checkEnd_71
        exact ⟨rfl, Cs.le h (by omega)⟩
      · refine wp_if (fun hc => absurd hc (by decide)) (fun _ => ?_)
        unfold BC_checkEnd_56
        refine wp_vP (sR_place L xs (by omega) h.1) (fun v6 _ => ?_)
        refine wp_nT (sR_note L xs (by omega) 1 v6 h) (fun g7 r7 h7 q7 => ?_)
        unfold BC_checkEnd_71
        exact ⟨rfl, Cs.le h7 (by omega)⟩
  · refine wp_if (fun _ => ?_) (fun _ => ?_)
    · unfold BC_checkEnd_28
      unfold BC_checkEnd_29
      refine wp_vP (sU_openCount L xs (by omega) h.1) (fun v8 _ => ?_)
      refine wp_if (fun _ => ?_) (fun _ => ?_)
      · unfold BC_checkEnd_56
        refine wp_vP (sR_place L xs (by omega) h.1) (fun v9 _ => ?_)
        refine wp_nT (sR_note L xs (by omega) 1 v9 h) (fun g10 r10 h10 q10 => ?_)
        unfold BC_checkEnd_71
        exact ⟨rfl, Cs.le h10 (by omega)⟩
      · refine wp_vP (sU_openCount L xs (by omega) h.1) (fun v11 _ => ?_)
        refine wp_if (fun _ => ?_) (fun _ => ?_)
        · unfold BC_checkEnd_71
          exact ⟨rfl, Cs.le h (by omega)⟩
        · refine wp_if (fun hc => absurd hc (by decide)) (fun _ => ?_)
          unfold BC_checkEnd_56
          refine wp_vP (sR_place L xs (by omega) h.1) (fun v12 _ => ?_)
          refine wp_nT (sR_note L xs (by omega) 1 v12 h) (fun g13 r13 h13 q13 => ?_)
          unfold BC_checkEnd_71
          exact ⟨rfl, Cs.le h13 (by omega)⟩
    · refine wp_if (fun _ => ?_) (fun _ => ?_)
      · unfold BC_checkEnd_28
        unfold BC_checkEnd_29
        refine wp_vP (sU_openCount L xs (by omega) h.1) (fun v14 _ => ?_)
        refine wp_if (fun _ => ?_) (fun _ => ?_)
        · unfold BC_checkEnd_56
          refine wp_vP (sR_place L xs (by omega) h.1) (fun v15 _ => ?_)
          refine wp_nT (sR_note L xs (by omega) 1 v15 h) (fun g16 r16 h16 q16 => ?_)
          unfold BC_checkEnd_71
          exact ⟨rfl, Cs.le h16 (by omega)⟩
        · refine wp_vP (sU_openCount L xs (by omega) h.1) (fun v17 _ => ?_)
          refine wp_if (fun _ => ?_) (fun _ => ?_)
          · unfold BC_checkEnd_71
            exact ⟨rfl, Cs.le h (by omega)⟩
          · refine wp_if (fun hc => absurd hc (by decide)) (fun _ => ?_)
            unfold BC_checkEnd_56
            refine wp_vP (sR_place L xs (by omega) h.1) (fun v18 _ => ?_)
            refine wp_nT (sR_note L xs (by omega) 1 v18 h) (fun g19 r19 h19 q19 => ?_)
            unfold BC_checkEnd_71
            exact ⟨rfl, Cs.le h19 (by omega)⟩
      · unfold BC_checkEnd_29
        refine wp_vP (sU_openCount L xs (by omega) h.1) (fun v20 _ => ?_)
        refine wp_if (fun _ => ?_) (fun _ => ?_)
        · unfold BC_checkEnd_56
          refine wp_vP (sR_place L xs (by omega) h.1) (fun v21 _ => ?_)
          refine wp_nT (sR_note L xs (by omega) 1 v21 h) (fun g22 r22 h22 q22 => ?_)
          unfold BC_checkEnd_71
          exact ⟨rfl, Cs.le h22 (by omega)⟩
        · refine wp_vP (sU_openCount L xs (by omega) h.1) (fun v23 _ => ?_)
          refine wp_if (fun _ => ?_) (fun _ => ?_)
          · unfold BC_checkEnd_71
            exact ⟨rfl, Cs.le h (by omega)⟩
          · refine wp_if (fun _ => ?_) (fun hc => absurd (by decide) hc)
            unfold BC_checkEnd_71
            exact ⟨rfl, Cs.le h (by omega)⟩
theorem sI_beginIn (L : Nat) (xs : Nat → Int32) {m d : Nat} (hm : 4294967296 ≤ m) (hd : 2 ≤ d) (a1 : Int32) (a2 : Int32) {b bq bx : Int} {g : a2_G} {r : a2_A} (h : Cs b g r) (hb : b ≤ 3250) (hq : b + (1) ≤ bq) (hx : b + (-20) ≤ bx) : wp (ev L xs (m + 1) d nI_beginIn [.ref cI, .int a1, .int a2] g r) (kV bq) (kX bx) := by
  obtain ⟨d, rfl⟩ : ∃ e, d = e + 1 := ⟨d - 1, by omega⟩
  rw [qI_beginIn]
  refine wp_vP (sR_place L xs (by omega) h.1) (fun v1 _ => ?_)
  refine wp_vT (sT_make L xs hm (by omega) a2 0 v1 h (by omega)) (fun v2 g2 r2 h2 q2 => ?_)
  refine wp_nT (sT_append L xs (by omega) a1 v2 h2) (fun g3 r3 h3 q3 => ?_)
  refine wp_nON (sR_advance L xs (by omega) h3) (fun g4 r4 h4 => ?_)
  exact ⟨_, rfl, Cs.le h4 (by omega)⟩
theorem sI_nameOrFiller (L : Nat) (xs : Nat → Int32) {m d : Nat} (hm : 4294967296 ≤ m) (hd : 3 ≤ d) {b bq bx : Int} {g : a2_G} {r : a2_A} (h : Cs b g r) (hb : b ≤ 3250) (hq : b + (0) ≤ bq) (hx : b + (0) ≤ bx) : wp (ev L xs (m + 1) d nI_nameOrFiller [.ref cI] g r) (kV bq) (kX bx) := by
  obtain ⟨d, rfl⟩ : ∃ e, d = e + 1 := ⟨d - 1, by omega⟩
  rw [qI_nameOrFiller]
  refine wp_vB (sR_isKind L xs (by omega) 1 h.1) ?_ (fun f1 => ?_)
  · refine wp_if (fun _ => ?_) (fun hc => absurd (by decide) hc)
    refine wp_vVN (sR_skipW L xs (by omega) 18 h) (fun v2 g2 r2 h2 => ?_)
    exact ⟨_, rfl, Cs.le h2 (by omega)⟩
  · refine wp_if (fun hc => absurd hc (by decide)) (fun _ => ?_)
    refine wp_vV (sR_requireKind L xs hm (by omega) 1 h (by omega) (Int.le_refl _) (by omega)) (fun v3 g3 r3 h3 => ?_)
    exact ⟨_, rfl, Cs.le h3 (by omega)⟩
theorem sI_picture (L : Nat) (xs : Nat → Int32) {m d : Nat} (hm : 4294967296 ≤ m) (hd : 3 ≤ d) (a1 : Int32) {b bq bx : Int} {g : a2_G} {r : a2_A} (h : Cs b g r) (hb : b ≤ 3249) (hq : b + (-2) ≤ bq) (hx : b + (1) ≤ bx) : wp (ev L xs (m + 1) d nI_picture [.ref cI, .int a1] g r) (kO bq) (kX bx) := by
  obtain ⟨d, rfl⟩ : ∃ e, d = e + 1 := ⟨d - 1, by omega⟩
  rw [qI_picture]
  refine wp_vV (sI_beginIn L xs hm (by omega) a1 13 h (by omega) (Int.le_refl _) (by omega)) (fun v1 g1 r1 h1 => ?_)
  refine wp_vVN (sR_skipW L xs (by omega) 67 h1) (fun v2 g2 r2 h2 => ?_)
  refine wp_vV (sR_requireKind L xs hm (by omega) 3 h2 (by omega) (Int.le_refl _) (by omega)) (fun v3 g3 r3 h3 => ?_)
  refine wp_nT (sT_set L xs (by omega) v1 1 v3 h3) (fun g4 r4 h4 q4 => ?_)
  exact ⟨rfl, Cs.le h4 (by omega)⟩
theorem sI_literal (L : Nat) (xs : Nat → Int32) {m d : Nat} (hm : 4294967296 ≤ m) (hd : 3 ≤ d) (a1 : Int32) {b bq bx : Int} {g : a2_G} {r : a2_A} (h : Cs b g r) (hb : b ≤ 3250) (hq : b + (-2) ≤ bq) (hx : b + (0) ≤ bx) : wp (ev L xs (m + 1) d nI_literal [.ref cI, .int a1] g r) (kO bq) (kX bx) := by
  obtain ⟨d, rfl⟩ : ∃ e, d = e + 1 := ⟨d - 1, by omega⟩
  rw [qI_literal]
  refine wp_vB (sR_isKind L xs (by omega) 1 h.1) ?_ (fun f1 => ?_)
  · refine wp_if (fun _ => ?_) (fun hc => absurd (by decide) hc)
    unfold BI_literal_19
    refine wp_vV (sL_operand L xs hm (by omega) h (by omega) (Int.le_refl _) (by omega)) (fun v2 g2 r2 h2 => ?_)
    refine wp_nT (sT_append L xs (by omega) a1 v2 h2) (fun g3 r3 h3 q3 => ?_)
    exact ⟨rfl, Cs.le h3 (by omega)⟩
  · refine wp_if (fun hc => absurd hc (by decide)) (fun _ => ?_)
    exact wp_nR (sR_refuse L xs (by omega) 1 h (by omega))
theorem sI_literals (L : Nat) (xs : Nat → Int32) {m d : Nat} (hm : 4294967296 ≤ m) (hd : 4 ≤ d) (a1 : Int32) {b bq bx : Int} {g : a2_G} {r : a2_A} (h : Cs b g r) (hb : b ≤ 3249) (hq : b + (-1) ≤ bq) (hx : b + (1) ≤ bx) : wp (ev L xs (m + 1) d nI_literals [.ref cI, .int a1] g r) (kO bq) (kX bx) := by
  obtain ⟨d, rfl⟩ : ∃ e, d = e + 1 := ⟨d - 1, by omega⟩
  rw [qI_literals]
  refine wp_vV (sI_beginIn L xs hm (by omega) a1 14 h (by omega) (Int.le_refl _) (by omega)) (fun v1 g1 r1 h1 => ?_)
  refine wp_vVN (sR_skipW L xs (by omega) 67 h1) (fun v2 g2 r2 h2 => ?_)
  refine wp_nO (sI_literal L xs hm (by omega) v1 h2 (by omega) (Int.le_refl _) (by omega)) (fun g3 r3 h3 => ?_)
  refine wp_vS (sR_skip L xs (by omega) 21 h3) (fun _ => ?_) (fun g4 r4 h4 => ?_)
  · refine wp_if (fun _ => ?_) (fun hc => absurd (by decide) hc)
    unfold BI_literals_40
    exact ⟨rfl, Cs.le h3 (by omega)⟩
  · refine wp_if (fun hc => absurd hc (by decide)) (fun _ => ?_)
    refine wp_nO (sI_literal L xs hm (by omega) v1 h4 (by omega) (Int.le_refl _) (by omega)) (fun g5 r5 h5 => ?_)
    unfold BI_literals_40
    exact ⟨rfl, Cs.le h5 (by omega)⟩
theorem sI_occurs (L : Nat) (xs : Nat → Int32) {m d : Nat} (hm : 4294967296 ≤ m) (hd : 4 ≤ d) (a1 : Int32) {b bq bx : Int} {g : a2_G} {r : a2_A} (h : Cs b g r) (hb : b ≤ 3249) (hq : b + (-2) ≤ bq) (hx : b + (1) ≤ bx) : wp (ev L xs (m + 1) d nI_occurs [.ref cI, .int a1] g r) (kO bq) (kX bx) := by
  obtain ⟨d, rfl⟩ : ∃ e, d = e + 1 := ⟨d - 1, by omega⟩
  rw [qI_occurs]
  refine wp_vV (sI_beginIn L xs hm (by omega) a1 15 h (by omega) (Int.le_refl _) (by omega)) (fun v1 g1 r1 h1 => ?_)
  refine wp_vV (sR_requireKind L xs hm (by omega) 2 h1 (by omega) (Int.le_refl _) (by omega)) (fun v2 g2 r2 h2 => ?_)
  refine wp_nT (sT_set L xs (by omega) v1 1 v2 h2) (fun g3 r3 h3 q3 => ?_)
  refine wp_vVN (sR_skipW L xs (by omega) 23 h3) (fun v4 g4 r4 h4 => ?_)
  refine wp_vS (sR_skip L xs (by omega) 24 h4) (fun _ => ?_) (fun g5 r5 h5 => ?_)
  · refine wp_if (fun _ => ?_) (fun hc => absurd (by decide) hc)
    unfold BI_occurs_57
    refine wp_vS (sR_skip L xs (by omega) 10 h4) (fun _ => ?_) (fun g6 r6 h6 => ?_)
    · refine wp_if (fun _ => ?_) (fun hc => absurd (by decide) hc)
      unfold BI_occurs_89
      exact ⟨rfl, Cs.le h4 (by omega)⟩
    · refine wp_if (fun hc => absurd hc (by decide)) (fun _ => ?_)
      refine wp_vVN (sR_skipW L xs (by omega) 25 h6) (fun v7 g7 r7 h7 => ?_)
      refine wp_nO (sL_namesIn L xs hm (by omega) v1 17 h7 (by omega) (Int.le_refl _) (by omega)) (fun g8 r8 h8 => ?_)
      unfold BI_occurs_89
      exact ⟨rfl, Cs.le h8 (by omega)⟩
  · refine wp_if (fun hc => absurd hc (by decide)) (fun _ => ?_)
    refine wp_nO (sL_nameIn L xs hm (by omega) v1 16 h5 (by omega) (Int.le_refl _) (by omega)) (fun g9 r9 h9 => ?_)
    unfold BI_occurs_57
    refine wp_vS (sR_skip L xs (by omega) 10 h9) (fun _ => ?_) (fun g10 r10 h10 => ?_)
    · refine wp_if (fun _ => ?_) (fun hc => absurd (by decide) hc)
      unfold BI_occurs_89
      exact ⟨rfl, Cs.le h9 (by omega)⟩
    · refine wp_if (fun hc => absurd hc (by decide)) (fun _ => ?_)
      refine wp_vVN (sR_skipW L xs (by omega) 25 h10) (fun v11 g11 r11 h11 => ?_)
      refine wp_nO (sL_namesIn L xs hm (by omega) v1 17 h11 (by omega) (Int.le_refl _) (by omega)) (fun g12 r12 h12 => ?_)
      unfold BI_occurs_89
      exact ⟨rfl, Cs.le h12 (by omega)⟩
theorem sI_redefines (L : Nat) (xs : Nat → Int32) {m d : Nat} (hm : 4294967296 ≤ m) (hd : 3 ≤ d) (a1 : Int32) {b bq bx : Int} {g : a2_G} {r : a2_A} (h : Cs b g r) (hb : b ≤ 3249) (hq : b + (-2) ≤ bq) (hx : b + (1) ≤ bx) : wp (ev L xs (m + 1) d nI_redefines [.ref cI, .int a1] g r) (kO bq) (kX bx) := by
  obtain ⟨d, rfl⟩ : ∃ e, d = e + 1 := ⟨d - 1, by omega⟩
  rw [qI_redefines]
  refine wp_vV (sI_beginIn L xs hm (by omega) a1 18 h (by omega) (Int.le_refl _) (by omega)) (fun v1 g1 r1 h1 => ?_)
  refine wp_vV (sR_requireKind L xs hm (by omega) 1 h1 (by omega) (Int.le_refl _) (by omega)) (fun v2 g2 r2 h2 => ?_)
  refine wp_nT (sT_set L xs (by omega) v1 1 v2 h2) (fun g3 r3 h3 q3 => ?_)
  exact ⟨rfl, Cs.le h3 (by omega)⟩
theorem sI_usage (L : Nat) (xs : Nat → Int32) {m d : Nat} (hm : 4294967296 ≤ m) (hd : 3 ≤ d) (a1 : Int32) {b bq bx : Int} {g : a2_G} {r : a2_A} (h : Cs b g r) (hb : b ≤ 3249) (hq : b + (-2) ≤ bq) (hx : b + (1) ≤ bx) : wp (ev L xs (m + 1) d nI_usage [.ref cI, .int a1] g r) (kO bq) (kX bx) := by
  obtain ⟨d, rfl⟩ : ∃ e, d = e + 1 := ⟨d - 1, by omega⟩
  rw [qI_usage]
  refine wp_vV (sI_beginIn L xs hm (by omega) a1 19 h (by omega) (Int.le_refl _) (by omega)) (fun v1 g1 r1 h1 => ?_)
  refine wp_vVN (sR_skipW L xs (by omega) 67 h1) (fun v2 g2 r2 h2 => ?_)
  refine wp_vS (sR_skip L xs (by omega) 29 h2) (fun _ => ?_) (fun g3 r3 h3 => ?_)
  · refine wp_if (fun _ => ?_) (fun hc => absurd (by decide) hc)
    refine wp_nO (sR_require L xs hm (by omega) 28 h2 (by omega) (Int.le_refl _) (by omega)) (fun g4 r4 h4 => ?_)
    unfold BI_usage_52
    exact ⟨rfl, Cs.le h4 (by omega)⟩
  · refine wp_if (fun hc => absurd hc (by decide)) (fun _ => ?_)
    refine wp_nT (sT_set L xs (by omega) v1 1 1 h3) (fun g5 r5 h5 q5 => ?_)
    unfold BI_usage_52
    exact ⟨rfl, Cs.le h5 (by omega)⟩
theorem sI_itemClause (L : Nat) (xs : Nat → Int32) {m d : Nat} (hm : 4294967296 ≤ m) (hd : 5 ≤ d) (a1 : Int32) {b bq bx : Int} {g : a2_G} {r : a2_A} (h : Cs b g r) (hb : b ≤ 3249) (hq : b + (-1) ≤ bq) (hx : b + (1) ≤ bx) : wp (ev L xs (m + 1) d nI_itemClause [.ref cI, .int a1] g r) (kO bq) (kX bx) := by
  obtain ⟨d, rfl⟩ : ∃ e, d = e + 1 := ⟨d - 1, by omega⟩
  rw [qI_itemClause]
  refine wp_vB (sR_isKind L xs (by omega) 0 h.1) ?_ (fun f1 => ?_)
  · refine wp_if (fun hc => absurd hc (by decide)) (fun _ => ?_)
    exact wp_nR (sR_refuse L xs (by omega) 1 h (by omega))
  · refine wp_if (fun _ => ?_) (fun hc => absurd (by decide) hc)
    unfold BI_itemClause_19
    refine wp_vP (sR_value L xs (by omega) h.1) (fun v3 _ => ?_)
    refine wp_if (fun _ => ?_) (fun _ => ?_)
    · refine wp_nO (sI_picture L xs hm (by omega) a1 h (by omega) (Int.le_refl _) (by omega)) (fun g4 r4 h4 => ?_)
      unfold BI_itemClause_124
      exact ⟨rfl, Cs.le h4 (by omega)⟩
    · refine wp_if (fun _ => ?_) (fun _ => ?_)
      · refine wp_nO (sI_literals L xs hm (by omega) a1 h (by omega) (Int.le_refl _) (by omega)) (fun g5 r5 h5 => ?_)
        unfold BI_itemClause_124
        exact ⟨rfl, Cs.le h5 (by omega)⟩
      · refine wp_if (fun _ => ?_) (fun _ => ?_)
        · unfold BI_itemClause_116
          exact wp_nR (sR_refuse L xs (by omega) 1 h (by omega))
        · refine wp_if (fun _ => ?_) (fun _ => ?_)
          · refine wp_nO (sI_occurs L xs hm (by omega) a1 h (by omega) (Int.le_refl _) (by omega)) (fun g7 r7 h7 => ?_)
            unfold BI_itemClause_124
            exact ⟨rfl, Cs.le h7 (by omega)⟩
          · refine wp_if (fun _ => ?_) (fun _ => ?_)
            · unfold BI_itemClause_116
              exact wp_nR (sR_refuse L xs (by omega) 1 h (by omega))
            · refine wp_if (fun _ => ?_) (fun _ => ?_)
              · unfold BI_itemClause_116
                exact wp_nR (sR_refuse L xs (by omega) 1 h (by omega))
              · refine wp_if (fun _ => ?_) (fun _ => ?_)
                · unfold BI_itemClause_116
                  exact wp_nR (sR_refuse L xs (by omega) 1 h (by omega))
                · refine wp_if (fun _ => ?_) (fun _ => ?_)
                  · refine wp_nO (sI_redefines L xs hm (by omega) a1 h (by omega) (Int.le_refl _) (by omega)) (fun g11 r11 h11 => ?_)
                    unfold BI_itemClause_124
                    exact ⟨rfl, Cs.le h11 (by omega)⟩
                  · refine wp_if (fun _ => ?_) (fun _ => ?_)
                    · refine wp_nO (sI_usage L xs hm (by omega) a1 h (by omega) (Int.le_refl _) (by omega)) (fun g12 r12 h12 => ?_)
                      unfold BI_itemClause_124
                      exact ⟨rfl, Cs.le h12 (by omega)⟩
                    · unfold BI_itemClause_116
                      exact wp_nR (sR_refuse L xs (by omega) 1 h (by omega))
theorem sBI_readItem_74 (L : Nat) (xs : Nat → Int32) {m d : Nat} (hm : 4294967296 ≤ m) {b bq bx : Int} (hd : 5 ≤ d) (hb : b ≤ 3249) (hq : b + (-3) ≤ bq) (hx : b + (1) ≤ bx) : ∀ (n k : Nat) (x1 x2 x3 x4 : Int32) {g : a2_G} {r : a2_A}, 0 ≤ x4.toInt → 1500 ≤ x4.toInt + n → n < k → Cs b g r → wp (BI_readItem_74 L xs (m + 1) d k x1 x2 x3 x4 g r) (kO bq) (kX bx) := by
  have k15 : (1500 : Int32).toInt = 1500 := rfl
  have k40 : (40 : Int32).toInt = 40 := rfl
  intro n
  induction n with
  | zero =>
    intro k x1 x2 x3 x4 g r hi0 hi1 hk h
    unfold BI_readItem_74
    refine wp_if (fun hc => ?_) (fun hc => ?_)
    · rw [c2_ge] at hc
      unfold BI_readItem_104
      refine wp_vV (sR_requireKind L xs hm (by omega) 4 h (by omega) (Int.le_refl _) (by omega)) (fun v1 g1 r1 h1 => ?_)
      refine wp_nON (sI_place L xs (by omega) x3 x1 x2 h1) (fun g2 r2 h2 => ?_)
      exact ⟨rfl, Cs.le h2 (by omega)⟩
    · rw [c2_ge] at hc
      refine wp_vB (sR_isKind L xs (by omega) 4 h.1) ?_ (fun f3 => ?_)
      · refine wp_if (fun hc => absurd hc (by decide)) (fun _ => ?_)
        refine wp_nO (sI_itemClause L xs hm (by omega) x3 h (by omega) (Int.le_refl _) (by omega)) (fun g4 r4 h4 => ?_)
        obtain ⟨k, rfl⟩ : ∃ q, k = q + 1 := ⟨k - 1, by omega⟩
        rw [lI_readItem_74]
        have ei := i32_inc (x := x4) (by omega)
        exfalso
        omega
      · refine wp_if (fun _ => ?_) (fun hc => absurd (by decide) hc)
        unfold BI_readItem_104
        refine wp_vV (sR_requireKind L xs hm (by omega) 4 h (by omega) (Int.le_refl _) (by omega)) (fun v5 g5 r5 h5 => ?_)
        refine wp_nON (sI_place L xs (by omega) x3 x1 x2 h5) (fun g6 r6 h6 => ?_)
        exact ⟨rfl, Cs.le h6 (by omega)⟩
  | succ n ih =>
    intro k x1 x2 x3 x4 g r hi0 hi1 hk h
    unfold BI_readItem_74
    refine wp_if (fun hc => ?_) (fun hc => ?_)
    · rw [c2_ge] at hc
      unfold BI_readItem_104
      refine wp_vV (sR_requireKind L xs hm (by omega) 4 h (by omega) (Int.le_refl _) (by omega)) (fun v1 g1 r1 h1 => ?_)
      refine wp_nON (sI_place L xs (by omega) x3 x1 x2 h1) (fun g2 r2 h2 => ?_)
      exact ⟨rfl, Cs.le h2 (by omega)⟩
    · rw [c2_ge] at hc
      refine wp_vB (sR_isKind L xs (by omega) 4 h.1) ?_ (fun f3 => ?_)
      · refine wp_if (fun hc => absurd hc (by decide)) (fun _ => ?_)
        refine wp_nO (sI_itemClause L xs hm (by omega) x3 h (by omega) (Int.le_refl _) (by omega)) (fun g4 r4 h4 => ?_)
        obtain ⟨k, rfl⟩ : ∃ q, k = q + 1 := ⟨k - 1, by omega⟩
        rw [lI_readItem_74]
        have ei := i32_inc (x := x4) (by omega)
        exact ih k _ _ _ _ (by omega) (by omega) (by omega) (Cs.le h4 (by omega))
      · refine wp_if (fun _ => ?_) (fun hc => absurd (by decide) hc)
        unfold BI_readItem_104
        refine wp_vV (sR_requireKind L xs hm (by omega) 4 h (by omega) (Int.le_refl _) (by omega)) (fun v5 g5 r5 h5 => ?_)
        refine wp_nON (sI_place L xs (by omega) x3 x1 x2 h5) (fun g6 r6 h6 => ?_)
        exact ⟨rfl, Cs.le h6 (by omega)⟩
theorem sI_readItem (L : Nat) (xs : Nat → Int32) {m d : Nat} (hm : 4294967296 ≤ m) (hd : 6 ≤ d) {b bq bx : Int} {g : a2_G} {r : a2_A} (h : Cs b g r) (hb : b ≤ 3248) (hq : b + (-2) ≤ bq) (hx : b + (2) ≤ bx) : wp (ev L xs (m + 1) d nI_readItem [.ref cI] g r) (kO bq) (kX bx) := by
  obtain ⟨d, rfl⟩ : ∃ e, d = e + 1 := ⟨d - 1, by omega⟩
  rw [qI_readItem]
  refine wp_vP (sR_value L xs (by omega) h.1) (fun v1 _ => ?_)
  refine wp_vP (sI_keptOpen L xs hm (by omega) v1 h.1) (fun v2 _ => ?_)
  refine wp_if (fun _ => ?_) (fun _ => ?_)
  · unfold BI_readItem_27
    refine wp_vP (sR_place L xs (by omega) h.1) (fun v3 _ => ?_)
    refine wp_vT (sT_make L xs hm (by omega) 12 0 v3 h (by omega)) (fun v4 g4 r4 h4 q4 => ?_)
    refine wp_nON (sR_advance L xs (by omega) h4) (fun g5 r5 h5 => ?_)
    refine wp_vV (sI_nameOrFiller L xs hm (by omega) h5 (by omega) (Int.le_refl _) (by omega)) (fun v6 g6 r6 h6 => ?_)
    refine wp_nT (sT_set L xs (by omega) v4 1 ((1000 * v1) + v6) h6) (fun g7 r7 h7 q7 => ?_)
    exact sBI_readItem_74 L xs hm (d := d) (by omega) (by omega) (by omega) (by omega) 1500 m v1 v2 v4 0 (by first | decide | omega) (by first | decide | omega) (by omega) h7
  · exact wp_nR (sR_refuse L xs (by omega) 1 h (by omega))
theorem sX_comparing (L : Nat) (xs : Nat → Int32) {m d : Nat} (hm : 4294967296 ≤ m) (hd : 2 ≤ d) {b bq bx : Int} {g : a2_G} {r : a2_A} (h : Cs b g r) (hb : b ≤ 3250) (hq : b + (-3) ≤ bq) (hx : b + (0) ≤ bx) : wp (ev L xs (m + 1) d nX_comparing [.ref cX] g r) (kV bq) (kX bx) := by
  obtain ⟨d, rfl⟩ : ∃ e, d = e + 1 := ⟨d - 1, by omega⟩
  rw [qX_comparing]
  refine wp_vVN (sR_skipW L xs (by omega) 67 h) (fun v1 g1 r1 h1 => ?_)
  refine wp_vS (sR_skip L xs (by omega) 64 h1) (fun _ => ?_) (fun g2 r2 h2 => ?_)
  · refine wp_if (fun _ => ?_) (fun hc => absurd (by decide) hc)
    unfold BX_comparing_27
    refine wp_vS (sR_skip L xs (by omega) 68 h1) (fun _ => ?_) (fun g3 r3 h3 => ?_)
    · refine wp_if (fun _ => ?_) (fun hc => absurd (by decide) hc)
      refine wp_vS (sR_skip L xs (by omega) 70 h1) (fun _ => ?_) (fun g4 r4 h4 => ?_)
      · refine wp_if (fun _ => ?_) (fun hc => absurd (by decide) hc)
        refine wp_vS (sR_skip L xs (by omega) 69 h1) (fun _ => ?_) (fun g5 r5 h5 => ?_)
        · refine wp_if (fun _ => ?_) (fun hc => absurd (by decide) hc)
          refine wp_vB (sR_isKind L xs (by omega) 5 h1.1) ?_ (fun f6 => ?_)
          · refine wp_if (fun _ => ?_) (fun hc => absurd (by decide) hc)
            unfold BX_comparing_139
            exact wp_nR (sR_refuse L xs (by omega) 1 h1 (by omega))
          · refine wp_if (fun hc => absurd hc (by decide)) (fun _ => ?_)
            refine wp_vP (sR_value L xs (by omega) h1.1) (fun v8 _ => ?_)
            refine wp_if (fun _ => ?_) (fun _ => ?_)
            · unfold BX_comparing_139
              exact wp_nR (sR_refuse L xs (by omega) 1 h1 (by omega))
            · refine wp_vP (sR_value L xs (by omega) h1.1) (fun v10 _ => ?_)
              refine wp_if (fun _ => ?_) (fun _ => ?_)
              · unfold BX_comparing_147
                refine wp_vP (sR_value L xs (by omega) h1.1) (fun v11 _ => ?_)
                refine wp_nON (sR_advanceL L xs (by omega) h1 (show Lt g1 from f6)) (fun g12 r12 h12 => ?_)
                exact ⟨_, rfl, Cs.le h12 (by omega)⟩
              · unfold BX_comparing_139
                exact wp_nR (sR_refuse L xs (by omega) 1 h1 (by omega))
        · refine wp_if (fun hc => absurd hc (by decide)) (fun _ => ?_)
          refine wp_vVN (sR_skipW L xs (by omega) 71 h5) (fun v14 g14 r14 h14 => ?_)
          exact ⟨_, rfl, Cs.le h14 (by omega)⟩
      · refine wp_if (fun hc => absurd hc (by decide)) (fun _ => ?_)
        refine wp_vVN (sR_skipW L xs (by omega) 71 h4) (fun v15 g15 r15 h15 => ?_)
        exact ⟨_, rfl, Cs.le h15 (by omega)⟩
    · refine wp_if (fun hc => absurd hc (by decide)) (fun _ => ?_)
      refine wp_vVN (sR_skipW L xs (by omega) 48 h3) (fun v16 g16 r16 h16 => ?_)
      exact ⟨_, rfl, Cs.le h16 (by omega)⟩
  · refine wp_if (fun hc => absurd hc (by decide)) (fun _ => ?_)
    unfold BX_comparing_27
    refine wp_vS (sR_skip L xs (by omega) 68 h2) (fun _ => ?_) (fun g17 r17 h17 => ?_)
    · refine wp_if (fun _ => ?_) (fun hc => absurd (by decide) hc)
      refine wp_vS (sR_skip L xs (by omega) 70 h2) (fun _ => ?_) (fun g18 r18 h18 => ?_)
      · refine wp_if (fun _ => ?_) (fun hc => absurd (by decide) hc)
        refine wp_vS (sR_skip L xs (by omega) 69 h2) (fun _ => ?_) (fun g19 r19 h19 => ?_)
        · refine wp_if (fun _ => ?_) (fun hc => absurd (by decide) hc)
          refine wp_vB (sR_isKind L xs (by omega) 5 h2.1) ?_ (fun f20 => ?_)
          · refine wp_if (fun _ => ?_) (fun hc => absurd (by decide) hc)
            unfold BX_comparing_139
            exact wp_nR (sR_refuse L xs (by omega) 1 h2 (by omega))
          · refine wp_if (fun hc => absurd hc (by decide)) (fun _ => ?_)
            refine wp_vP (sR_value L xs (by omega) h2.1) (fun v22 _ => ?_)
            refine wp_if (fun _ => ?_) (fun _ => ?_)
            · unfold BX_comparing_139
              exact wp_nR (sR_refuse L xs (by omega) 1 h2 (by omega))
            · refine wp_vP (sR_value L xs (by omega) h2.1) (fun v24 _ => ?_)
              refine wp_if (fun _ => ?_) (fun _ => ?_)
              · unfold BX_comparing_147
                refine wp_vP (sR_value L xs (by omega) h2.1) (fun v25 _ => ?_)
                refine wp_nON (sR_advanceL L xs (by omega) h2 (show Lt g2 from f20)) (fun g26 r26 h26 => ?_)
                exact ⟨_, rfl, Cs.le h26 (by omega)⟩
              · unfold BX_comparing_139
                exact wp_nR (sR_refuse L xs (by omega) 1 h2 (by omega))
        · refine wp_if (fun hc => absurd hc (by decide)) (fun _ => ?_)
          refine wp_vVN (sR_skipW L xs (by omega) 71 h19) (fun v28 g28 r28 h28 => ?_)
          exact ⟨_, rfl, Cs.le h28 (by omega)⟩
      · refine wp_if (fun hc => absurd hc (by decide)) (fun _ => ?_)
        refine wp_vVN (sR_skipW L xs (by omega) 71 h18) (fun v29 g29 r29 h29 => ?_)
        exact ⟨_, rfl, Cs.le h29 (by omega)⟩
    · refine wp_if (fun hc => absurd hc (by decide)) (fun _ => ?_)
      refine wp_vVN (sR_skipW L xs (by omega) 48 h17) (fun v30 g30 r30 h30 => ?_)
      exact ⟨_, rfl, Cs.le h30 (by omega)⟩
theorem sX_conditionName (L : Nat) (xs : Nat → Int32) {m d : Nat} (hm : 4294967296 ≤ m) (hd : 2 ≤ d) (a1 : Int32) {b bq bx : Int} {g : a2_G} {r : a2_A} (h : Cs b g r) (hb : b ≤ 3250) (hq : b + (-2) ≤ bq) (hx : b + (0) ≤ bx) : wp (ev L xs (m + 1) d nX_conditionName [.ref cX, .int a1] g r) (kV bq) (kX bx) := by
  obtain ⟨d, rfl⟩ : ∃ e, d = e + 1 := ⟨d - 1, by omega⟩
  rw [qX_conditionName]
  refine wp_vB (sR_isKind L xs (by omega) 1 h.1) ?_ (fun f1 => ?_)
  · refine wp_if (fun hc => absurd hc (by decide)) (fun _ => ?_)
    refine wp_vB (sR_isOperand L xs (by omega) h.1) ?_ (fun f2 => ?_)
    · refine wp_if (fun _ => ?_) (fun hc => absurd (by decide) hc)
      unfold BX_conditionName_28
      exact wp_nR (sR_refuse L xs (by omega) 1 h (by omega))
    · refine wp_if (fun hc => absurd hc (by decide)) (fun _ => ?_)
      refine wp_nON (sR_advanceL L xs (by omega) h (show Lt g from f2)) (fun g4 r4 h4 => ?_)
      unfold BX_conditionName_28
      exact wp_nR (sR_refuse L xs (by omega) 1 h4 (by omega))
  · refine wp_if (fun _ => ?_) (fun hc => absurd (by decide) hc)
    unfold BX_conditionName_36
    refine wp_vP (sR_value L xs (by omega) h.1) (fun v6 _ => ?_)
    refine wp_vT (sT_make L xs hm (by omega) 54 v6 a1 h (by omega)) (fun v7 g7 r7 h7 q7 => ?_)
    refine wp_nON (sR_advanceL L xs (by omega) h7 (show Lt g7 from (q7.lt (show Lt g from f1)))) (fun g8 r8 h8 => ?_)
    exact ⟨_, rfl, Cs.le h8 (by omega)⟩
theorem sX_relation (L : Nat) (xs : Nat → Int32) {m d : Nat} (hm : 4294967296 ≤ m) (hd : 3 ≤ d) {b bq bx : Int} {g : a2_G} {r : a2_A} (h : Cs b g r) (hb : b ≤ 3249) (hq : b + (-1) ≤ bq) (hx : b + (1) ≤ bx) : wp (ev L xs (m + 1) d nX_relation [.ref cX] g r) (kV bq) (kX bx) := by
  obtain ⟨d, rfl⟩ : ∃ e, d = e + 1 := ⟨d - 1, by omega⟩
  rw [qX_relation]
  refine wp_vP (sR_place L xs (by omega) h.1) (fun v1 _ => ?_)
  refine wp_vB (sR_isOperand L xs (by omega) h.1) ?_ (fun f2 => ?_)
  · refine wp_if (fun _ => ?_) (fun hc => absurd (by decide) hc)
    unfold BX_relation_30
    unfold BX_relation_31
    refine wp_vB (sX_isComparing L xs (by omega) 0 h.1) ?_ (fun f3 => ?_)
    · refine wp_if (fun hc => absurd hc (by decide)) (fun _ => ?_)
      refine wp_if (fun _ => ?_) (fun _ => ?_)
      · unfold BX_relation_56
        refine wp_if (fun _ => ?_) (fun hc => absurd (by decide) hc)
        unfold BX_relation_71
        refine wp_if (fun hc => absurd hc (by decide)) (fun _ => ?_)
        refine wp_if (fun _ => ?_) (fun hc => absurd (by decide) hc)
        unfold BX_relation_87
        refine wp_vT (sT_make L xs hm (by omega) 53 (g fX_latestHow) v1 h (by omega)) (fun v4 g4 r4 h4 q4 => ?_)
        refine wp_nT (sT_set L xs (by omega) v4 3 (g4 fX_subject) h4) (fun g5 r5 h5 q5 => ?_)
        refine wp_if (fun _ => ?_) (fun hc => absurd (by decide) hc)
        unfold BX_relation_134
        refine wp_vV (sL_operand L xs hm (by omega) h5 (by omega) (Int.le_refl _) (by omega)) (fun v6 g6 r6 h6 => ?_)
        refine wp_nT (sT_append L xs (by omega) v4 v6 h6) (fun g7 r7 h7 q7 => ?_)
        exact ⟨_, rfl, Cs.le h7 (by omega)⟩
      · refine wp_vV (sX_conditionName L xs hm (by omega) v1 h (by omega) (Int.le_refl _) (by omega)) (fun v8 g8 r8 h8 => ?_)
        exact ⟨_, rfl, Cs.le h8 (by omega)⟩
    · refine wp_if (fun hc => absurd hc (by decide)) (fun _ => ?_)
      refine wp_if (fun _ => ?_) (fun _ => ?_)
      · unfold BX_relation_56
        refine wp_if (fun _ => ?_) (fun hc => absurd (by decide) hc)
        unfold BX_relation_71
        refine wp_if (fun hc => absurd hc (by decide)) (fun _ => ?_)
        refine wp_if (fun hc => absurd hc (by decide)) (fun _ => ?_)
        unfold BX_relation_79
        refine wp_vV (sX_comparing L xs hm (by omega) h (by omega) (Int.le_refl _) (by omega)) (fun v9 g9 r9 h9 => ?_)
        unfold BX_relation_87
        refine wp_vT (sT_make L xs hm (by omega) 53 ((upd g9 fX_latestHow v9) fX_latestHow) v1 (show Cs _ (upd g9 fX_latestHow v9) r9 from h9) (by omega)) (fun v10 g10 r10 h10 q10 => ?_)
        refine wp_nT (sT_set L xs (by omega) v10 3 (g10 fX_subject) h10) (fun g11 r11 h11 q11 => ?_)
        refine wp_if (fun _ => ?_) (fun hc => absurd (by decide) hc)
        unfold BX_relation_134
        refine wp_vV (sL_operand L xs hm (by omega) h11 (by omega) (Int.le_refl _) (by omega)) (fun v12 g12 r12 h12 => ?_)
        refine wp_nT (sT_append L xs (by omega) v10 v12 h12) (fun g13 r13 h13 q13 => ?_)
        exact ⟨_, rfl, Cs.le h13 (by omega)⟩
      · refine wp_vV (sX_conditionName L xs hm (by omega) v1 h (by omega) (Int.le_refl _) (by omega)) (fun v14 g14 r14 h14 => ?_)
        exact ⟨_, rfl, Cs.le h14 (by omega)⟩
  · refine wp_if (fun hc => absurd hc (by decide)) (fun _ => ?_)
    refine wp_vB (sX_isComparing L xs (by omega) 1 h.1) ?_ (fun f15 => ?_)
    · refine wp_if (fun _ => ?_) (fun hc => absurd (by decide) hc)
      unfold BX_relation_30
      unfold BX_relation_31
      refine wp_vB (sX_isComparing L xs (by omega) 0 h.1) ?_ (fun f16 => ?_)
      · refine wp_if (fun hc => absurd hc (by decide)) (fun _ => ?_)
        refine wp_if (fun _ => ?_) (fun _ => ?_)
        · unfold BX_relation_56
          refine wp_if (fun _ => ?_) (fun hc => absurd (by decide) hc)
          unfold BX_relation_71
          refine wp_if (fun hc => absurd hc (by decide)) (fun _ => ?_)
          refine wp_if (fun _ => ?_) (fun hc => absurd (by decide) hc)
          unfold BX_relation_87
          refine wp_vT (sT_make L xs hm (by omega) 53 (g fX_latestHow) v1 h (by omega)) (fun v17 g17 r17 h17 q17 => ?_)
          refine wp_nT (sT_set L xs (by omega) v17 3 (g17 fX_subject) h17) (fun g18 r18 h18 q18 => ?_)
          refine wp_if (fun _ => ?_) (fun hc => absurd (by decide) hc)
          unfold BX_relation_134
          refine wp_vV (sL_operand L xs hm (by omega) h18 (by omega) (Int.le_refl _) (by omega)) (fun v19 g19 r19 h19 => ?_)
          refine wp_nT (sT_append L xs (by omega) v17 v19 h19) (fun g20 r20 h20 q20 => ?_)
          exact ⟨_, rfl, Cs.le h20 (by omega)⟩
        · refine wp_vV (sX_conditionName L xs hm (by omega) v1 h (by omega) (Int.le_refl _) (by omega)) (fun v21 g21 r21 h21 => ?_)
          exact ⟨_, rfl, Cs.le h21 (by omega)⟩
      · refine wp_if (fun hc => absurd hc (by decide)) (fun _ => ?_)
        refine wp_if (fun _ => ?_) (fun _ => ?_)
        · unfold BX_relation_56
          refine wp_if (fun _ => ?_) (fun hc => absurd (by decide) hc)
          unfold BX_relation_71
          refine wp_if (fun hc => absurd hc (by decide)) (fun _ => ?_)
          refine wp_if (fun hc => absurd hc (by decide)) (fun _ => ?_)
          unfold BX_relation_79
          refine wp_vV (sX_comparing L xs hm (by omega) h (by omega) (Int.le_refl _) (by omega)) (fun v22 g22 r22 h22 => ?_)
          unfold BX_relation_87
          refine wp_vT (sT_make L xs hm (by omega) 53 ((upd g22 fX_latestHow v22) fX_latestHow) v1 (show Cs _ (upd g22 fX_latestHow v22) r22 from h22) (by omega)) (fun v23 g23 r23 h23 q23 => ?_)
          refine wp_nT (sT_set L xs (by omega) v23 3 (g23 fX_subject) h23) (fun g24 r24 h24 q24 => ?_)
          refine wp_if (fun _ => ?_) (fun hc => absurd (by decide) hc)
          unfold BX_relation_134
          refine wp_vV (sL_operand L xs hm (by omega) h24 (by omega) (Int.le_refl _) (by omega)) (fun v25 g25 r25 h25 => ?_)
          refine wp_nT (sT_append L xs (by omega) v23 v25 h25) (fun g26 r26 h26 q26 => ?_)
          exact ⟨_, rfl, Cs.le h26 (by omega)⟩
        · refine wp_vV (sX_conditionName L xs hm (by omega) v1 h (by omega) (Int.le_refl _) (by omega)) (fun v27 g27 r27 h27 => ?_)
          exact ⟨_, rfl, Cs.le h27 (by omega)⟩
    · refine wp_if (fun hc => absurd hc (by decide)) (fun _ => ?_)
      unfold BX_relation_31
      refine wp_vB (sX_isComparing L xs (by omega) 0 h.1) ?_ (fun f28 => ?_)
      · refine wp_if (fun _ => ?_) (fun hc => absurd (by decide) hc)
        unfold BX_relation_56
        refine wp_if (fun hc => absurd hc (by decide)) (fun _ => ?_)
        refine wp_vV (sL_operand L xs hm (by omega) h (by omega) (Int.le_refl _) (by omega)) (fun v29 g29 r29 h29 => ?_)
        unfold BX_relation_71
        refine wp_if (fun _ => ?_) (fun hc => absurd (by decide) hc)
        unfold BX_relation_79
        refine wp_vV (sX_comparing L xs hm (by omega) (show Cs _ (upd g29 fX_subject v29) r29 from h29) (by omega) (Int.le_refl _) (by omega)) (fun v30 g30 r30 h30 => ?_)
        unfold BX_relation_87
        refine wp_vT (sT_make L xs hm (by omega) 53 ((upd g30 fX_latestHow v30) fX_latestHow) v1 (show Cs _ (upd g30 fX_latestHow v30) r30 from h30) (by omega)) (fun v31 g31 r31 h31 q31 => ?_)
        refine wp_nT (sT_set L xs (by omega) v31 3 (g31 fX_subject) h31) (fun g32 r32 h32 q32 => ?_)
        refine wp_if (fun hc => absurd hc (by decide)) (fun _ => ?_)
        refine wp_nT (sT_append L xs (by omega) v31 (g32 fX_subject) h32) (fun g33 r33 h33 q33 => ?_)
        unfold BX_relation_134
        refine wp_vV (sL_operand L xs hm (by omega) h33 (by omega) (Int.le_refl _) (by omega)) (fun v34 g34 r34 h34 => ?_)
        refine wp_nT (sT_append L xs (by omega) v31 v34 h34) (fun g35 r35 h35 q35 => ?_)
        exact ⟨_, rfl, Cs.le h35 (by omega)⟩
      · refine wp_if (fun _ => ?_) (fun hc => absurd (by decide) hc)
        unfold BX_relation_56
        refine wp_if (fun hc => absurd hc (by decide)) (fun _ => ?_)
        refine wp_vV (sL_operand L xs hm (by omega) h (by omega) (Int.le_refl _) (by omega)) (fun v36 g36 r36 h36 => ?_)
        unfold BX_relation_71
        refine wp_if (fun _ => ?_) (fun hc => absurd (by decide) hc)
        unfold BX_relation_79
        refine wp_vV (sX_comparing L xs hm (by omega) (show Cs _ (upd g36 fX_subject v36) r36 from h36) (by omega) (Int.le_refl _) (by omega)) (fun v37 g37 r37 h37 => ?_)
        unfold BX_relation_87
        refine wp_vT (sT_make L xs hm (by omega) 53 ((upd g37 fX_latestHow v37) fX_latestHow) v1 (show Cs _ (upd g37 fX_latestHow v37) r37 from h37) (by omega)) (fun v38 g38 r38 h38 q38 => ?_)
        refine wp_nT (sT_set L xs (by omega) v38 3 (g38 fX_subject) h38) (fun g39 r39 h39 q39 => ?_)
        refine wp_if (fun hc => absurd hc (by decide)) (fun _ => ?_)
        refine wp_nT (sT_append L xs (by omega) v38 (g39 fX_subject) h39) (fun g40 r40 h40 q40 => ?_)
        unfold BX_relation_134
        refine wp_vV (sL_operand L xs hm (by omega) h40 (by omega) (Int.le_refl _) (by omega)) (fun v41 g41 r41 h41 => ?_)
        refine wp_nT (sT_append L xs (by omega) v38 v41 h41) (fun g42 r42 h42 q42 => ?_)
        exact ⟨_, rfl, Cs.le h42 (by omega)⟩
theorem sS_scopeEnd (L : Nat) (xs : Nat → Int32) {m d : Nat} (hm : 4294967296 ≤ m) (hd : 2 ≤ d) (a1 : Int32) (a2 : Int32) {b bq bx : Int} {g : a2_G} {r : a2_A} (h : Cs b g r) (hb : b ≤ 3250) (hq : b + (0) ≤ bq) (hx : b + (-20) ≤ bx) : wp (ev L xs (m + 1) d nS_scopeEnd [.ref cS, .int a1, .int a2] g r) (kO bq) (kX bx) := by
  obtain ⟨d, rfl⟩ : ∃ e, d = e + 1 := ⟨d - 1, by omega⟩
  rw [qS_scopeEnd]
  refine wp_vS (sR_skip L xs (by omega) a2 h) (fun _ => ?_) (fun g1 r1 h1 => ?_)
  · refine wp_if (fun _ => ?_) (fun hc => absurd (by decide) hc)
    unfold BS_scopeEnd_21
    exact ⟨rfl, Cs.le h (by omega)⟩
  · refine wp_if (fun hc => absurd hc (by decide)) (fun _ => ?_)
    refine wp_nT (sT_set L xs (by omega) a1 3 1 h1) (fun g2 r2 h2 q2 => ?_)
    unfold BS_scopeEnd_21
    exact ⟨rfl, Cs.le h2 (by omega)⟩
theorem sBS_operandsIn_17 (L : Nat) (xs : Nat → Int32) {m d : Nat} (hm : 4294967296 ≤ m) {b bq bx : Int} (hd : 2 ≤ d) (hb : b ≤ 3250) (hq : b + (0) ≤ bq) (hx : b + (0) ≤ bx) : ∀ (n k : Nat) (x1 x2 : Int32) {g : a2_G} {r : a2_A}, 0 ≤ x2.toInt → 1500 ≤ x2.toInt + n → n < k → Cs b g r → wp (BS_operandsIn_17 L xs (m + 1) d k x1 x2 g r) (kO bq) (kX bx) := by
  have k15 : (1500 : Int32).toInt = 1500 := rfl
  have k40 : (40 : Int32).toInt = 40 := rfl
  intro n
  induction n with
  | zero =>
    intro k x1 x2 g r hi0 hi1 hk h
    unfold BS_operandsIn_17
    refine wp_if (fun hc => ?_) (fun hc => ?_)
    · rw [c2_ge] at hc
      unfold BS_operandsIn_55
      exact ⟨rfl, Cs.le h (by omega)⟩
    · rw [c2_ge] at hc
      refine wp_vB (sR_isOperand L xs (by omega) h.1) ?_ (fun f1 => ?_)
      · refine wp_if (fun _ => ?_) (fun hc => absurd (by decide) hc)
        unfold BS_operandsIn_55
        exact ⟨rfl, Cs.le h (by omega)⟩
      · refine wp_if (fun hc => absurd hc (by decide)) (fun _ => ?_)
        refine wp_vV (sL_operand L xs hm (by omega) h (by omega) (Int.le_refl _) (by omega)) (fun v2 g2 r2 h2 => ?_)
        refine wp_nT (sT_append L xs (by omega) x1 v2 h2) (fun g3 r3 h3 q3 => ?_)
        obtain ⟨k, rfl⟩ : ∃ q, k = q + 1 := ⟨k - 1, by omega⟩
        rw [lS_operandsIn_17]
        have ei := i32_inc (x := x2) (by omega)
        exfalso
        omega
  | succ n ih =>
    intro k x1 x2 g r hi0 hi1 hk h
    unfold BS_operandsIn_17
    refine wp_if (fun hc => ?_) (fun hc => ?_)
    · rw [c2_ge] at hc
      unfold BS_operandsIn_55
      exact ⟨rfl, Cs.le h (by omega)⟩
    · rw [c2_ge] at hc
      refine wp_vB (sR_isOperand L xs (by omega) h.1) ?_ (fun f1 => ?_)
      · refine wp_if (fun _ => ?_) (fun hc => absurd (by decide) hc)
        unfold BS_operandsIn_55
        exact ⟨rfl, Cs.le h (by omega)⟩
      · refine wp_if (fun hc => absurd hc (by decide)) (fun _ => ?_)
        refine wp_vV (sL_operand L xs hm (by omega) h (by omega) (Int.le_refl _) (by omega)) (fun v2 g2 r2 h2 => ?_)
        refine wp_nT (sT_append L xs (by omega) x1 v2 h2) (fun g3 r3 h3 q3 => ?_)
        obtain ⟨k, rfl⟩ : ∃ q, k = q + 1 := ⟨k - 1, by omega⟩
        rw [lS_operandsIn_17]
        have ei := i32_inc (x := x2) (by omega)
        exact ih k _ _ (by omega) (by omega) (by omega) (Cs.le h3 (by omega))
theorem sS_operandsIn (L : Nat) (xs : Nat → Int32) {m d : Nat} (hm : 4294967296 ≤ m) (hd : 3 ≤ d) (a1 : Int32) {b bq bx : Int} {g : a2_G} {r : a2_A} (h : Cs b g r) (hb : b ≤ 3250) (hq : b + (-2) ≤ bq) (hx : b + (0) ≤ bx) : wp (ev L xs (m + 1) d nS_operandsIn [.ref cS, .int a1] g r) (kO bq) (kX bx) := by
  obtain ⟨d, rfl⟩ : ∃ e, d = e + 1 := ⟨d - 1, by omega⟩
  rw [qS_operandsIn]
  refine wp_vV (sL_operand L xs hm (by omega) h (by omega) (Int.le_refl _) (by omega)) (fun v1 g1 r1 h1 => ?_)
  refine wp_nT (sT_append L xs (by omega) a1 v1 h1) (fun g2 r2 h2 q2 => ?_)
  exact sBS_operandsIn_17 L xs hm (d := d) (by omega) (by omega) (by omega) (by omega) 1500 m a1 0 (by first | decide | omega) (by first | decide | omega) (by omega) h2
theorem sS_phraseIn (L : Nat) (xs : Nat → Int32) {m d : Nat} (hm : 4294967296 ≤ m) (hd : 2 ≤ d) (a1 : Int32) (a2 : Int32) {b bq bx : Int} {g : a2_G} {r : a2_A} (h : Cs b g r) (hb : b ≤ 3250) (hq : b + (1) ≤ bq) (hx : b + (-20) ≤ bx) : wp (ev L xs (m + 1) d nS_phraseIn [.ref cS, .int a1, .int a2] g r) (kV bq) (kX bx) := by
  obtain ⟨d, rfl⟩ : ∃ e, d = e + 1 := ⟨d - 1, by omega⟩
  rw [qS_phraseIn]
  refine wp_vP (sR_place L xs (by omega) h.1) (fun v1 _ => ?_)
  refine wp_vT (sT_make L xs hm (by omega) a2 0 v1 h (by omega)) (fun v2 g2 r2 h2 q2 => ?_)
  refine wp_nT (sT_append L xs (by omega) a1 v2 h2) (fun g3 r3 h3 q3 => ?_)
  exact ⟨_, rfl, Cs.le h3 (by omega)⟩
theorem sS_times (L : Nat) (xs : Nat → Int32) {m d : Nat} (hm : 4294967296 ≤ m) (hd : 4 ≤ d) (a1 : Int32) {b bq bx : Int} {g : a2_G} {r : a2_A} (h : Cs b g r) (hb : b ≤ 3249) (hq : b + (-4) ≤ bq) (hx : b + (1) ≤ bx) : wp (ev L xs (m + 1) d nS_times [.ref cS, .int a1] g r) (kO bq) (kX bx) := by
  obtain ⟨d, rfl⟩ : ∃ e, d = e + 1 := ⟨d - 1, by omega⟩
  rw [qS_times]
  refine wp_vV (sS_phraseIn L xs hm (by omega) a1 43 h (by omega) (Int.le_refl _) (by omega)) (fun v1 g1 r1 h1 => ?_)
  refine wp_nO (sL_operandIn L xs hm (by omega) v1 h1 (by omega) (Int.le_refl _) (by omega)) (fun g2 r2 h2 => ?_)
  refine wp_nO (sR_require L xs hm (by omega) 23 h2 (by omega) (Int.le_refl _) (by omega)) (fun g3 r3 h3 => ?_)
  exact ⟨rfl, Cs.le h3 (by omega)⟩
theorem sS_varying (L : Nat) (xs : Nat → Int32) {m d : Nat} (hm : 4294967296 ≤ m) (hd : 4 ≤ d) (a1 : Int32) {b bq bx : Int} {g : a2_G} {r : a2_A} (h : Cs b g r) (hb : b ≤ 3249) (hq : b + (-11) ≤ bq) (hx : b + (1) ≤ bx) : wp (ev L xs (m + 1) d nS_varying [.ref cS, .int a1] g r) (kV bq) (kX bx) := by
  obtain ⟨d, rfl⟩ : ∃ e, d = e + 1 := ⟨d - 1, by omega⟩
  rw [qS_varying]
  refine wp_vV (sS_phraseIn L xs hm (by omega) a1 45 h (by omega) (Int.le_refl _) (by omega)) (fun v1 g1 r1 h1 => ?_)
  refine wp_nON (sR_advance L xs (by omega) h1) (fun g2 r2 h2 => ?_)
  refine wp_nO (sL_nameIn L xs hm (by omega) v1 41 h2 (by omega) (Int.le_refl _) (by omega)) (fun g3 r3 h3 => ?_)
  refine wp_nO (sR_require L xs hm (by omega) 58 h3 (by omega) (Int.le_refl _) (by omega)) (fun g4 r4 h4 => ?_)
  refine wp_nO (sL_operandIn L xs hm (by omega) v1 h4 (by omega) (Int.le_refl _) (by omega)) (fun g5 r5 h5 => ?_)
  refine wp_nO (sR_require L xs hm (by omega) 25 h5 (by omega) (Int.le_refl _) (by omega)) (fun g6 r6 h6 => ?_)
  refine wp_nO (sL_operandIn L xs hm (by omega) v1 h6 (by omega) (Int.le_refl _) (by omega)) (fun g7 r7 h7 => ?_)
  exact ⟨_, rfl, Cs.le h7 (by omega)⟩
theorem sS_begin (L : Nat) (xs : Nat → Int32) {m d : Nat} (hm : 4294967296 ≤ m) (hd : 2 ≤ d) (a1 : Int32) {b bq bx : Int} {g : a2_G} {r : a2_A} (h : Cs b g r) (hl : Lt g) (hb : b ≤ 3250) (hq : b + (-2) ≤ bq) (hx : b + (-20) ≤ bx) : wp (ev L xs (m + 1) d nS_begin [.ref cS, .int a1] g r) (kV bq) (kX bx) := by
  obtain ⟨d, rfl⟩ : ∃ e, d = e + 1 := ⟨d - 1, by omega⟩
  rw [qS_begin]
  refine wp_vP (sR_place L xs (by omega) h.1) (fun v1 _ => ?_)
  refine wp_vT (sT_make L xs hm (by omega) a1 0 v1 h (by omega)) (fun v2 g2 r2 h2 q2 => ?_)
  refine wp_nT (sT_set L xs (by omega) v2 3 0 h2) (fun g3 r3 h3 q3 => ?_)
  refine wp_nON (sR_advanceL L xs (by omega) h3 (show Lt g3 from (q3.lt (show Lt g2 from (q2.lt (show Lt g from hl)))))) (fun g4 r4 h4 => ?_)
  exact ⟨_, rfl, Cs.le h4 (by omega)⟩
theorem sS_move (L : Nat) (xs : Nat → Int32) {m d : Nat} (hm : 4294967296 ≤ m) (hd : 4 ≤ d) {b bq bx : Int} {g : a2_G} {r : a2_A} (h : Cs b g r) (hl : Lt g) (hb : b ≤ 3250) (hq : b + (-9) ≤ bq) (hx : b + (-2) ≤ bx) : wp (ev L xs (m + 1) d nS_move [.ref cS] g r) (kV bq) (kX bx) := by
  obtain ⟨d, rfl⟩ : ∃ e, d = e + 1 := ⟨d - 1, by omega⟩
  rw [qS_move]
  refine wp_vV (sS_begin L xs hm (by omega) 26 h (show Lt g from hl) (by omega) (Int.le_refl _) (by omega)) (fun v1 g1 r1 h1 => ?_)
  refine wp_nO (sL_operandIn L xs hm (by omega) v1 h1 (by omega) (Int.le_refl _) (by omega)) (fun g2 r2 h2 => ?_)
  refine wp_nO (sR_require L xs hm (by omega) 48 h2 (by omega) (Int.le_refl _) (by omega)) (fun g3 r3 h3 => ?_)
  refine wp_nO (sL_namesIn L xs hm (by omega) v1 41 h3 (by omega) (Int.le_refl _) (by omega)) (fun g4 r4 h4 => ?_)
  exact ⟨_, rfl, Cs.le h4 (by omega)⟩
theorem sS_display (L : Nat) (xs : Nat → Int32) {m d : Nat} (hm : 4294967296 ≤ m) (hd : 4 ≤ d) {b bq bx : Int} {g : a2_G} {r : a2_A} (h : Cs b g r) (hl : Lt g) (hb : b ≤ 3250) (hq : b + (-4) ≤ bq) (hx : b + (-2) ≤ bx) : wp (ev L xs (m + 1) d nS_display [.ref cS] g r) (kV bq) (kX bx) := by
  obtain ⟨d, rfl⟩ : ∃ e, d = e + 1 := ⟨d - 1, by omega⟩
  rw [qS_display]
  refine wp_vV (sS_begin L xs hm (by omega) 33 h (show Lt g from hl) (by omega) (Int.le_refl _) (by omega)) (fun v1 g1 r1 h1 => ?_)
  refine wp_nO (sS_operandsIn L xs hm (by omega) v1 h1 (by omega) (Int.le_refl _) (by omega)) (fun g2 r2 h2 => ?_)
  exact ⟨_, rfl, Cs.le h2 (by omega)⟩
theorem sS_goTo (L : Nat) (xs : Nat → Int32) {m d : Nat} (hm : 4294967296 ≤ m) (hd : 3 ≤ d) {b bq bx : Int} {g : a2_G} {r : a2_A} (h : Cs b g r) (hl : Lt g) (hb : b ≤ 3250) (hq : b + (-5) ≤ bq) (hx : b + (-2) ≤ bx) : wp (ev L xs (m + 1) d nS_goTo [.ref cS] g r) (kV bq) (kX bx) := by
  obtain ⟨d, rfl⟩ : ∃ e, d = e + 1 := ⟨d - 1, by omega⟩
  rw [qS_goTo]
  refine wp_vV (sS_begin L xs hm (by omega) 34 h (show Lt g from hl) (by omega) (Int.le_refl _) (by omega)) (fun v1 g1 r1 h1 => ?_)
  refine wp_vVN (sR_skipW L xs (by omega) 48 h1) (fun v2 g2 r2 h2 => ?_)
  refine wp_vV (sR_requireKind L xs hm (by omega) 1 h2 (by omega) (Int.le_refl _) (by omega)) (fun v3 g3 r3 h3 => ?_)
  refine wp_nT (sT_set L xs (by omega) v1 1 v3 h3) (fun g4 r4 h4 q4 => ?_)
  exact ⟨_, rfl, Cs.le h4 (by omega)⟩
theorem sS_stop (L : Nat) (xs : Nat → Int32) {m d : Nat} (hm : 4294967296 ≤ m) (hd : 3 ≤ d) {b bq bx : Int} {g : a2_G} {r : a2_A} (h : Cs b g r) (hl : Lt g) (hb : b ≤ 3250) (hq : b + (-5) ≤ bq) (hx : b + (-2) ≤ bx) : wp (ev L xs (m + 1) d nS_stop [.ref cS] g r) (kV bq) (kX bx) := by
  obtain ⟨d, rfl⟩ : ∃ e, d = e + 1 := ⟨d - 1, by omega⟩
  rw [qS_stop]
  refine wp_vV (sS_begin L xs hm (by omega) 35 h (show Lt g from hl) (by omega) (Int.le_refl _) (by omega)) (fun v1 g1 r1 h1 => ?_)
  refine wp_nO (sR_require L xs hm (by omega) 63 h1 (by omega) (Int.le_refl _) (by omega)) (fun g2 r2 h2 => ?_)
  exact ⟨_, rfl, Cs.le h2 (by omega)⟩
