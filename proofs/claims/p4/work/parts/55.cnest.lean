/-! Written by wip/p2/gensafe.py: what knows its nesting. -/
def spL (L : Nat) (xs : Nat → Int32) (m N : Nat) : Prop := ∀ {d : Nat} (a1 a2 : Int32) {b bq bx : Int} {g : a2_G} {r : a2_A}, 9 + 16 * N ≤ d → 0 ≤ a2.toInt → a2.toInt ≤ 41 → 41 ≤ a2.toInt + (N : Nat) → Cs b g r → b ≤ 3243 → b + (1) ≤ bq → b + (0) ≤ bx → wp (ev L xs (m + 1) d nS_list [.ref cS, .int a1, .int a2] g r) (kV bq) (kX bx)
def spF (L : Nat) (xs : Nat → Int32) (m N : Nat) : Prop := ∀ {d : Nat} (a1 : Int32) {b bq bx : Int} {g : a2_G} {r : a2_A}, 4 + 16 * N ≤ d → 0 ≤ a1.toInt → a1.toInt ≤ 40 → 41 ≤ a1.toInt + (N : Nat) → Cs b g r → b ≤ 3249 → b + (-1) ≤ bq → b + (1) ≤ bx → wp (ev L xs (m + 1) d nX_factor [.ref cX, .int a1] g r) (kV bq) (kX bx)
def spC (L : Nat) (xs : Nat → Int32) (m N : Nat) : Prop := ∀ {d : Nat} (a1 : Int32) {b bq bx : Int} {g : a2_G} {r : a2_A}, 6 + 16 * N ≤ d → 0 ≤ a1.toInt → a1.toInt ≤ 40 → 41 ≤ a1.toInt + (N : Nat) → Cs b g r → b ≤ 3249 → b + (1) ≤ bq → b + (1) ≤ bx → wp (ev L xs (m + 1) d nX_condition [.ref cX, .int a1] g r) (kV bq) (kX bx)
def spU (L : Nat) (xs : Nat → Int32) (m N : Nat) : Prop := ∀ {d : Nat} (a1 : Int32) {b bq bx : Int} {g : a2_G} {r : a2_A}, 5 + 16 * N ≤ d → 0 ≤ a1.toInt → a1.toInt ≤ 40 → 41 ≤ a1.toInt + (N : Nat) → Cs b g r → b ≤ 3250 → b + (-2) ≤ bq → b + (0) ≤ bx → wp (ev L xs (m + 1) d nX_sum [.ref cX, .int a1] g r) (kV bq) (kX bx)
def spS (L : Nat) (xs : Nat → Int32) (m N : Nat) : Prop := ∀ {d : Nat} (a1 : Int32) {b bq bx : Int} {g : a2_G} {r : a2_A}, 8 + 16 * N ≤ d → 0 ≤ a1.toInt → a1.toInt ≤ 40 → 41 ≤ a1.toInt + (N : Nat) → Cs b g r → Lt g → b ≤ 3244 → b + (0) ≤ bq → b + (-1) ≤ bx → wp (ev L xs (m + 1) d nS_statement [.ref cS, .int a1] g r) (kV bq) (kX bx)
theorem sX_factor (L : Nat) (xs : Nat → Int32) {m : Nat} (hm : 4294967296 ≤ m) {N : Nat} (ihL : spL L xs m N) (ihF : spF L xs m N) (ihC : spC L xs m N) (ihU : spU L xs m N) : spF L xs m (N + 1) := by
  intro d a1 b bq bx g r hd hn0 hn1 hn2 h hb hq hx
  obtain ⟨d, rfl⟩ : ∃ e, d = e + 1 := ⟨d - 1, by omega⟩
  have k40 : (40 : Int32).toInt = 40 := rfl
  rw [qX_factor]
  refine wp_vB (sR_isReserved L xs (by omega) 64 0 h.1) ?_ (fun f1 => ?_)
  · refine wp_if (fun _ => ?_) (fun hc => absurd (by decide) hc)
    unfold BX_factor_66
    refine wp_vB (sR_isSign L xs (by omega) 0 0 h.1) ?_ (fun f2 => ?_)
    · refine wp_if (fun _ => ?_) (fun hc => absurd (by decide) hc)
      refine wp_vV (sX_relation L xs hm (by omega) h (by omega) (Int.le_refl _) (by omega)) (fun v3 g3 r3 h3 => ?_)
      exact ⟨_, rfl, Cs.le h3 (by omega)⟩
    · refine wp_if (fun hc => absurd hc (by decide)) (fun _ => ?_)
      have ei4 := i32_inc (x := a1) (by omega)
      refine wp_nG (sX_goDeeper L xs (by omega) (a1 + 1) h (show Lt g from (f2 rfl)) (by omega)) (fun g4 r4 h4 z4 => ?_)
      have ej5 := i32_inc (x := a1) (by omega)
      refine wp_vV (ihC (a1 + 1) (by omega) (by first | decide | omega) (by first | decide | omega) (by first | decide | omega) h4 (by omega) (Int.le_refl _) (by omega)) (fun v5 g5 r5 h5 => ?_)
      refine wp_nO (sR_requireSign L xs hm (by omega) 1 h5 (by omega) (Int.le_refl _) (by omega)) (fun g6 r6 h6 => ?_)
      exact ⟨_, rfl, Cs.le (show Cs _ (upd g6 fX_subject (-1)) r6 from h6) (by omega)⟩
  · refine wp_if (fun hc => absurd hc (by decide)) (fun _ => ?_)
    refine wp_vB (sR_isComparingWord L xs (by omega) 1 h.1) ?_ (fun f7 => ?_)
    · refine wp_if (fun hc => absurd hc (by decide)) (fun _ => ?_)
      refine wp_vP (sR_place L xs (by omega) h.1) (fun v8 _ => ?_)
      refine wp_vT (sT_make L xs hm (by omega) 52 0 v8 h (by omega)) (fun v9 g9 r9 h9 q9 => ?_)
      have ei10 := i32_inc (x := a1) (by omega)
      refine wp_nG (sX_goDeeper L xs (by omega) (a1 + 1) h9 (show Lt g9 from (q9.lt (show Lt g from (f1 rfl).1))) (by omega)) (fun g10 r10 h10 z10 => ?_)
      have ej11 := i32_inc (x := a1) (by omega)
      refine wp_vV (ihF (a1 + 1) (by omega) (by first | decide | omega) (by first | decide | omega) (by first | decide | omega) h10 (by omega) (Int.le_refl _) (by omega)) (fun v11 g11 r11 h11 => ?_)
      refine wp_nT (sT_append L xs (by omega) v9 v11 h11) (fun g12 r12 h12 q12 => ?_)
      exact ⟨_, rfl, Cs.le h12 (by omega)⟩
    · refine wp_if (fun _ => ?_) (fun hc => absurd (by decide) hc)
      unfold BX_factor_66
      refine wp_vB (sR_isSign L xs (by omega) 0 0 h.1) ?_ (fun f13 => ?_)
      · refine wp_if (fun _ => ?_) (fun hc => absurd (by decide) hc)
        refine wp_vV (sX_relation L xs hm (by omega) h (by omega) (Int.le_refl _) (by omega)) (fun v14 g14 r14 h14 => ?_)
        exact ⟨_, rfl, Cs.le h14 (by omega)⟩
      · refine wp_if (fun hc => absurd hc (by decide)) (fun _ => ?_)
        have ei15 := i32_inc (x := a1) (by omega)
        refine wp_nG (sX_goDeeper L xs (by omega) (a1 + 1) h (show Lt g from (f13 rfl)) (by omega)) (fun g15 r15 h15 z15 => ?_)
        have ej16 := i32_inc (x := a1) (by omega)
        refine wp_vV (ihC (a1 + 1) (by omega) (by first | decide | omega) (by first | decide | omega) (by first | decide | omega) h15 (by omega) (Int.le_refl _) (by omega)) (fun v16 g16 r16 h16 => ?_)
        refine wp_nO (sR_requireSign L xs hm (by omega) 1 h16 (by omega) (Int.le_refl _) (by omega)) (fun g17 r17 h17 => ?_)
        exact ⟨_, rfl, Cs.le (show Cs _ (upd g17 fX_subject (-1)) r17 from h17) (by omega)⟩
theorem sBX_conjunction_33 (L : Nat) (xs : Nat → Int32) {m d : Nat} (hm : 4294967296 ≤ m) {N : Nat} (ihL : spL L xs m N) (ihF : spF L xs m N) (ihC : spC L xs m N) (ihU : spU L xs m N) {b bq bx : Int} (nn : Int32) (hn0 : 0 ≤ nn.toInt) (hn1 : nn.toInt ≤ 40) (hn2 : 41 ≤ nn.toInt + (N + 1 : Nat)) (hd : 4 + 16 * (N + 1) ≤ d) (hb : b ≤ 3250) (hq : b + (0) ≤ bq) (hx : b + (-2) ≤ bx) : ∀ (n k : Nat) (x1 x2 x3 x4 : Int32) {g : a2_G} {r : a2_A}, 0 ≤ x4.toInt → 1500 ≤ x4.toInt + n → n < k → x1 = nn → Cs b g r → wp (BX_conjunction_33 L xs (m + 1) d k x1 x2 x3 x4 g r) (kV bq) (kX bx) := by
  have k15 : (1500 : Int32).toInt = 1500 := rfl
  have k40 : (40 : Int32).toInt = 40 := rfl
  intro n
  induction n with
  | zero =>
    intro k x1 x2 x3 x4 g r hi0 hi1 hk hnn h
    subst hnn
    unfold BX_conjunction_33
    refine wp_if (fun hc => ?_) (fun hc => ?_)
    · rw [c2_ge] at hc
      unfold BX_conjunction_72
      exact ⟨_, rfl, Cs.le h (by omega)⟩
    · rw [c2_ge] at hc
      refine wp_vS (sR_skip L xs (by omega) 65 h) (fun _ => ?_) (fun g1 r1 h1 => ?_)
      · refine wp_if (fun _ => ?_) (fun hc => absurd (by decide) hc)
        unfold BX_conjunction_72
        exact ⟨_, rfl, Cs.le h (by omega)⟩
      · refine wp_if (fun hc => absurd hc (by decide)) (fun _ => ?_)
        refine wp_vV ((sX_factor L xs hm ihL ihF ihC ihU) x1 (by omega) (by first | decide | omega) (by first | decide | omega) (by first | decide | omega) h1 (by omega) (Int.le_refl _) (by omega)) (fun v2 g2 r2 h2 => ?_)
        refine wp_nT (sT_append L xs (by omega) x3 v2 h2) (fun g3 r3 h3 q3 => ?_)
        obtain ⟨k, rfl⟩ : ∃ q, k = q + 1 := ⟨k - 1, by omega⟩
        rw [lX_conjunction_33]
        have ei := i32_inc (x := x4) (by omega)
        exfalso
        omega
  | succ n ih =>
    intro k x1 x2 x3 x4 g r hi0 hi1 hk hnn h
    subst hnn
    unfold BX_conjunction_33
    refine wp_if (fun hc => ?_) (fun hc => ?_)
    · rw [c2_ge] at hc
      unfold BX_conjunction_72
      exact ⟨_, rfl, Cs.le h (by omega)⟩
    · rw [c2_ge] at hc
      refine wp_vS (sR_skip L xs (by omega) 65 h) (fun _ => ?_) (fun g1 r1 h1 => ?_)
      · refine wp_if (fun _ => ?_) (fun hc => absurd (by decide) hc)
        unfold BX_conjunction_72
        exact ⟨_, rfl, Cs.le h (by omega)⟩
      · refine wp_if (fun hc => absurd hc (by decide)) (fun _ => ?_)
        refine wp_vV ((sX_factor L xs hm ihL ihF ihC ihU) x1 (by omega) (by first | decide | omega) (by first | decide | omega) (by first | decide | omega) h1 (by omega) (Int.le_refl _) (by omega)) (fun v2 g2 r2 h2 => ?_)
        refine wp_nT (sT_append L xs (by omega) x3 v2 h2) (fun g3 r3 h3 q3 => ?_)
        obtain ⟨k, rfl⟩ : ∃ q, k = q + 1 := ⟨k - 1, by omega⟩
        rw [lX_conjunction_33]
        have ei := i32_inc (x := x4) (by omega)
        exact ih k _ _ _ _ (by omega) (by omega) (by omega) rfl (Cs.le h3 (by omega))
theorem sX_conjunction (L : Nat) (xs : Nat → Int32) {m : Nat} (hm : 4294967296 ≤ m) {N : Nat} (ihL : spL L xs m N) (ihF : spF L xs m N) (ihC : spC L xs m N) (ihU : spU L xs m N) : ∀ {d : Nat} (a1 : Int32) {b bq bx : Int} {g : a2_G} {r : a2_A}, 5 + 16 * (N + 1) ≤ d → 0 ≤ a1.toInt → a1.toInt ≤ 40 → 41 ≤ a1.toInt + ((N + 1) : Nat) → Cs b g r → b ≤ 3249 → b + (0) ≤ bq → b + (1) ≤ bx → wp (ev L xs (m + 1) d nX_conjunction [.ref cX, .int a1] g r) (kV bq) (kX bx) := by
  intro d a1 b bq bx g r hd hn0 hn1 hn2 h hb hq hx
  obtain ⟨d, rfl⟩ : ∃ e, d = e + 1 := ⟨d - 1, by omega⟩
  have k40 : (40 : Int32).toInt = 40 := rfl
  rw [qX_conjunction]
  refine wp_vV ((sX_factor L xs hm ihL ihF ihC ihU) a1 (by omega) (by first | decide | omega) (by first | decide | omega) (by first | decide | omega) h (by omega) (Int.le_refl _) (by omega)) (fun v1 g1 r1 h1 => ?_)
  refine wp_vB (sR_isReserved L xs (by omega) 65 0 h1.1) ?_ (fun f2 => ?_)
  · refine wp_if (fun hc => absurd hc (by decide)) (fun _ => ?_)
    exact ⟨_, rfl, Cs.le h1 (by omega)⟩
  · refine wp_if (fun _ => ?_) (fun hc => absurd (by decide) hc)
    refine wp_vT (sX_join L xs hm (by omega) 51 0 v1 h1 (by omega)) (fun v3 g3 r3 h3 q3 => ?_)
    exact sBX_conjunction_33 L xs hm ihL ihF ihC ihU (d := d) a1 (by omega) (by omega) (by omega) (by omega) (by omega) (by omega) (by omega) 1500 m a1 v1 v3 0 (by first | decide | omega) (by first | decide | omega) (by omega) rfl h3
theorem sBX_condition_38 (L : Nat) (xs : Nat → Int32) {m d : Nat} (hm : 4294967296 ≤ m) {N : Nat} (ihL : spL L xs m N) (ihF : spF L xs m N) (ihC : spC L xs m N) (ihU : spU L xs m N) {b bq bx : Int} (nn : Int32) (hn0 : 0 ≤ nn.toInt) (hn1 : nn.toInt ≤ 40) (hn2 : 41 ≤ nn.toInt + (N + 1 : Nat)) (hd : 5 + 16 * (N + 1) ≤ d) (hb : b ≤ 3250) (hq : b + (0) ≤ bq) (hx : b + (-2) ≤ bx) : ∀ (n k : Nat) (x1 x2 x3 x4 : Int32) {g : a2_G} {r : a2_A}, 0 ≤ x4.toInt → 1500 ≤ x4.toInt + n → n < k → x1 = nn → Cs b g r → wp (BX_condition_38 L xs (m + 1) d k x1 x2 x3 x4 g r) (kV bq) (kX bx) := by
  have k15 : (1500 : Int32).toInt = 1500 := rfl
  have k40 : (40 : Int32).toInt = 40 := rfl
  intro n
  induction n with
  | zero =>
    intro k x1 x2 x3 x4 g r hi0 hi1 hk hnn h
    subst hnn
    unfold BX_condition_38
    refine wp_if (fun hc => ?_) (fun hc => ?_)
    · rw [c2_ge] at hc
      unfold BX_condition_77
      exact ⟨_, rfl, Cs.le h (by omega)⟩
    · rw [c2_ge] at hc
      refine wp_vS (sR_skip L xs (by omega) 66 h) (fun _ => ?_) (fun g1 r1 h1 => ?_)
      · refine wp_if (fun _ => ?_) (fun hc => absurd (by decide) hc)
        unfold BX_condition_77
        exact ⟨_, rfl, Cs.le h (by omega)⟩
      · refine wp_if (fun hc => absurd hc (by decide)) (fun _ => ?_)
        refine wp_vV ((sX_conjunction L xs hm ihL ihF ihC ihU) x1 (by omega) (by first | decide | omega) (by first | decide | omega) (by first | decide | omega) h1 (by omega) (Int.le_refl _) (by omega)) (fun v2 g2 r2 h2 => ?_)
        refine wp_nT (sT_append L xs (by omega) x3 v2 h2) (fun g3 r3 h3 q3 => ?_)
        obtain ⟨k, rfl⟩ : ∃ q, k = q + 1 := ⟨k - 1, by omega⟩
        rw [lX_condition_38]
        have ei := i32_inc (x := x4) (by omega)
        exfalso
        omega
  | succ n ih =>
    intro k x1 x2 x3 x4 g r hi0 hi1 hk hnn h
    subst hnn
    unfold BX_condition_38
    refine wp_if (fun hc => ?_) (fun hc => ?_)
    · rw [c2_ge] at hc
      unfold BX_condition_77
      exact ⟨_, rfl, Cs.le h (by omega)⟩
    · rw [c2_ge] at hc
      refine wp_vS (sR_skip L xs (by omega) 66 h) (fun _ => ?_) (fun g1 r1 h1 => ?_)
      · refine wp_if (fun _ => ?_) (fun hc => absurd (by decide) hc)
        unfold BX_condition_77
        exact ⟨_, rfl, Cs.le h (by omega)⟩
      · refine wp_if (fun hc => absurd hc (by decide)) (fun _ => ?_)
        refine wp_vV ((sX_conjunction L xs hm ihL ihF ihC ihU) x1 (by omega) (by first | decide | omega) (by first | decide | omega) (by first | decide | omega) h1 (by omega) (Int.le_refl _) (by omega)) (fun v2 g2 r2 h2 => ?_)
        refine wp_nT (sT_append L xs (by omega) x3 v2 h2) (fun g3 r3 h3 q3 => ?_)
        obtain ⟨k, rfl⟩ : ∃ q, k = q + 1 := ⟨k - 1, by omega⟩
        rw [lX_condition_38]
        have ei := i32_inc (x := x4) (by omega)
        exact ih k _ _ _ _ (by omega) (by omega) (by omega) rfl (Cs.le h3 (by omega))
theorem sX_condition (L : Nat) (xs : Nat → Int32) {m : Nat} (hm : 4294967296 ≤ m) {N : Nat} (ihL : spL L xs m N) (ihF : spF L xs m N) (ihC : spC L xs m N) (ihU : spU L xs m N) : spC L xs m (N + 1) := by
  intro d a1 b bq bx g r hd hn0 hn1 hn2 h hb hq hx
  obtain ⟨d, rfl⟩ : ∃ e, d = e + 1 := ⟨d - 1, by omega⟩
  have k40 : (40 : Int32).toInt = 40 := rfl
  rw [qX_condition]
  refine wp_vV ((sX_conjunction L xs hm ihL ihF ihC ihU) a1 (by omega) (by first | decide | omega) (by first | decide | omega) (by first | decide | omega) (show Cs _ (upd g fX_subject (-1)) r from h) (by omega) (Int.le_refl _) (by omega)) (fun v1 g1 r1 h1 => ?_)
  refine wp_vB (sR_isReserved L xs (by omega) 66 0 h1.1) ?_ (fun f2 => ?_)
  · refine wp_if (fun hc => absurd hc (by decide)) (fun _ => ?_)
    exact ⟨_, rfl, Cs.le h1 (by omega)⟩
  · refine wp_if (fun _ => ?_) (fun hc => absurd (by decide) hc)
    refine wp_vT (sX_join L xs hm (by omega) 50 0 v1 h1 (by omega)) (fun v3 g3 r3 h3 q3 => ?_)
    exact sBX_condition_38 L xs hm ihL ihF ihC ihU (d := d) a1 (by omega) (by omega) (by omega) (by omega) (by omega) (by omega) (by omega) 1500 m a1 v1 v3 0 (by first | decide | omega) (by first | decide | omega) (by omega) rfl h3
theorem sX_sumUnit (L : Nat) (xs : Nat → Int32) {m : Nat} (hm : 4294967296 ≤ m) {N : Nat} (ihL : spL L xs m N) (ihF : spF L xs m N) (ihC : spC L xs m N) (ihU : spU L xs m N) : ∀ {d : Nat} (a1 : Int32) {b bq bx : Int} {g : a2_G} {r : a2_A}, 3 + 16 * (N + 1) ≤ d → 0 ≤ a1.toInt → a1.toInt ≤ 40 → 41 ≤ a1.toInt + ((N + 1) : Nat) → Cs b g r → b ≤ 3250 → b + (-2) ≤ bq → b + (0) ≤ bx → wp (ev L xs (m + 1) d nX_sumUnit [.ref cX, .int a1] g r) (kV bq) (kX bx) := by
  intro d a1 b bq bx g r hd hn0 hn1 hn2 h hb hq hx
  obtain ⟨d, rfl⟩ : ∃ e, d = e + 1 := ⟨d - 1, by omega⟩
  have k40 : (40 : Int32).toInt = 40 := rfl
  rw [qX_sumUnit]
  refine wp_vB (sR_isSign L xs (by omega) 0 0 h.1) ?_ (fun f1 => ?_)
  · refine wp_if (fun _ => ?_) (fun hc => absurd (by decide) hc)
    refine wp_vB (sR_isKind L xs (by omega) 3 h.1) ?_ (fun f2 => ?_)
    · refine wp_if (fun _ => ?_) (fun hc => absurd (by decide) hc)
      unfold BX_sumUnit_56
      refine wp_vV (sL_operand L xs hm (by omega) h (by omega) (Int.le_refl _) (by omega)) (fun v3 g3 r3 h3 => ?_)
      exact ⟨_, rfl, Cs.le h3 (by omega)⟩
    · refine wp_if (fun hc => absurd hc (by decide)) (fun _ => ?_)
      exact wp_nR (sR_refuse L xs (by omega) 1 h (by omega))
  · refine wp_if (fun hc => absurd hc (by decide)) (fun _ => ?_)
    have ei5 := i32_inc (x := a1) (by omega)
    refine wp_nG (sX_goDeeper L xs (by omega) (a1 + 1) h (show Lt g from (f1 rfl)) (by omega)) (fun g5 r5 h5 z5 => ?_)
    have ej6 := i32_inc (x := a1) (by omega)
    refine wp_vV (ihU (a1 + 1) (by omega) (by first | decide | omega) (by first | decide | omega) (by first | decide | omega) h5 (by omega) (Int.le_refl _) (by omega)) (fun v6 g6 r6 h6 => ?_)
    refine wp_nO (sR_requireSign L xs hm (by omega) 1 h6 (by omega) (Int.le_refl _) (by omega)) (fun g7 r7 h7 => ?_)
    exact ⟨_, rfl, Cs.le h7 (by omega)⟩
theorem sBX_product_8_1 (L : Nat) (xs : Nat → Int32) {m d : Nat} (hm : 4294967296 ≤ m) {N : Nat} (ihL : spL L xs m N) (ihF : spF L xs m N) (ihC : spC L xs m N) (ihU : spU L xs m N) {b bq bx : Int} (nn : Int32) (hn0 : 0 ≤ nn.toInt) (hn1 : nn.toInt ≤ 40) (hn2 : 41 ≤ nn.toInt + (N + 1 : Nat)) (hd : 3 + 16 * (N + 1) ≤ d) (hb : b ≤ 3250) (hq : b + (0) ≤ bq) (hx : b + (-2) ≤ bx) : ∀ (n k : Nat) (x1 x2 x3 x4 : Int32) {g : a2_G} {r : a2_A}, 0 ≤ x3.toInt → 1500 ≤ x3.toInt + n → n < k → x1 = nn → Cs b g r → wp (BX_product_8_1 L xs (m + 1) d k x1 x2 x3 x4 g r) (kV bq) (kX bx) := by
  have k15 : (1500 : Int32).toInt = 1500 := rfl
  have k40 : (40 : Int32).toInt = 40 := rfl
  intro n
  induction n with
  | zero =>
    intro k x1 x2 x3 x4 g r hi0 hi1 hk hnn h
    subst hnn
    unfold BX_product_8_1
    refine wp_if (fun hc => ?_) (fun hc => ?_)
    · rw [c2_ge] at hc
      unfold BX_product_87_1
      exact ⟨_, rfl, Cs.le h (by omega)⟩
    · rw [c2_ge] at hc
      refine wp_vB (sR_isSign L xs (by omega) 7 0 h.1) ?_ (fun f1 => ?_)
      · refine wp_if (fun hc => absurd hc (by decide)) (fun _ => ?_)
        refine wp_vB (sR_isSign L xs (by omega) 8 0 h.1) ?_ (fun f2 => ?_)
        · refine wp_if (fun _ => ?_) (fun hc => absurd (by decide) hc)
          unfold BX_product_87_1
          exact ⟨_, rfl, Cs.le h (by omega)⟩
        · refine wp_if (fun hc => absurd hc (by decide)) (fun _ => ?_)
          unfold BX_product_41_1
          refine wp_vP (sR_value L xs (by omega) h.1) (fun v3 _ => ?_)
          refine wp_vT (sX_join L xs hm (by omega) 55 v3 x2 h (by omega)) (fun v4 g4 r4 h4 q4 => ?_)
          refine wp_nON (sR_advanceL L xs (by omega) h4 (show Lt g4 from (q4.lt (show Lt g from (f2 rfl))))) (fun g5 r5 h5 => ?_)
          refine wp_vV ((sX_sumUnit L xs hm ihL ihF ihC ihU) x1 (by omega) (by first | decide | omega) (by first | decide | omega) (by first | decide | omega) h5 (by omega) (Int.le_refl _) (by omega)) (fun v6 g6 r6 h6 => ?_)
          refine wp_nT (sT_append L xs (by omega) v4 v6 h6) (fun g7 r7 h7 q7 => ?_)
          obtain ⟨k, rfl⟩ : ∃ q, k = q + 1 := ⟨k - 1, by omega⟩
          rw [lX_product_8_1]
          have ei := i32_inc (x := x3) (by omega)
          exfalso
          omega
      · refine wp_if (fun _ => ?_) (fun hc => absurd (by decide) hc)
        unfold BX_product_41_1
        refine wp_vP (sR_value L xs (by omega) h.1) (fun v8 _ => ?_)
        refine wp_vT (sX_join L xs hm (by omega) 55 v8 x2 h (by omega)) (fun v9 g9 r9 h9 q9 => ?_)
        refine wp_nON (sR_advanceL L xs (by omega) h9 (show Lt g9 from (q9.lt (show Lt g from (f1 rfl))))) (fun g10 r10 h10 => ?_)
        refine wp_vV ((sX_sumUnit L xs hm ihL ihF ihC ihU) x1 (by omega) (by first | decide | omega) (by first | decide | omega) (by first | decide | omega) h10 (by omega) (Int.le_refl _) (by omega)) (fun v11 g11 r11 h11 => ?_)
        refine wp_nT (sT_append L xs (by omega) v9 v11 h11) (fun g12 r12 h12 q12 => ?_)
        obtain ⟨k, rfl⟩ : ∃ q, k = q + 1 := ⟨k - 1, by omega⟩
        rw [lX_product_8_1]
        have ei := i32_inc (x := x3) (by omega)
        exfalso
        omega
  | succ n ih =>
    intro k x1 x2 x3 x4 g r hi0 hi1 hk hnn h
    subst hnn
    unfold BX_product_8_1
    refine wp_if (fun hc => ?_) (fun hc => ?_)
    · rw [c2_ge] at hc
      unfold BX_product_87_1
      exact ⟨_, rfl, Cs.le h (by omega)⟩
    · rw [c2_ge] at hc
      refine wp_vB (sR_isSign L xs (by omega) 7 0 h.1) ?_ (fun f1 => ?_)
      · refine wp_if (fun hc => absurd hc (by decide)) (fun _ => ?_)
        refine wp_vB (sR_isSign L xs (by omega) 8 0 h.1) ?_ (fun f2 => ?_)
        · refine wp_if (fun _ => ?_) (fun hc => absurd (by decide) hc)
          unfold BX_product_87_1
          exact ⟨_, rfl, Cs.le h (by omega)⟩
        · refine wp_if (fun hc => absurd hc (by decide)) (fun _ => ?_)
          unfold BX_product_41_1
          refine wp_vP (sR_value L xs (by omega) h.1) (fun v3 _ => ?_)
          refine wp_vT (sX_join L xs hm (by omega) 55 v3 x2 h (by omega)) (fun v4 g4 r4 h4 q4 => ?_)
          refine wp_nON (sR_advanceL L xs (by omega) h4 (show Lt g4 from (q4.lt (show Lt g from (f2 rfl))))) (fun g5 r5 h5 => ?_)
          refine wp_vV ((sX_sumUnit L xs hm ihL ihF ihC ihU) x1 (by omega) (by first | decide | omega) (by first | decide | omega) (by first | decide | omega) h5 (by omega) (Int.le_refl _) (by omega)) (fun v6 g6 r6 h6 => ?_)
          refine wp_nT (sT_append L xs (by omega) v4 v6 h6) (fun g7 r7 h7 q7 => ?_)
          obtain ⟨k, rfl⟩ : ∃ q, k = q + 1 := ⟨k - 1, by omega⟩
          rw [lX_product_8_1]
          have ei := i32_inc (x := x3) (by omega)
          exact ih k _ _ _ _ (by omega) (by omega) (by omega) rfl (Cs.le h7 (by omega))
      · refine wp_if (fun _ => ?_) (fun hc => absurd (by decide) hc)
        unfold BX_product_41_1
        refine wp_vP (sR_value L xs (by omega) h.1) (fun v8 _ => ?_)
        refine wp_vT (sX_join L xs hm (by omega) 55 v8 x2 h (by omega)) (fun v9 g9 r9 h9 q9 => ?_)
        refine wp_nON (sR_advanceL L xs (by omega) h9 (show Lt g9 from (q9.lt (show Lt g from (f1 rfl))))) (fun g10 r10 h10 => ?_)
        refine wp_vV ((sX_sumUnit L xs hm ihL ihF ihC ihU) x1 (by omega) (by first | decide | omega) (by first | decide | omega) (by first | decide | omega) h10 (by omega) (Int.le_refl _) (by omega)) (fun v11 g11 r11 h11 => ?_)
        refine wp_nT (sT_append L xs (by omega) v9 v11 h11) (fun g12 r12 h12 q12 => ?_)
        obtain ⟨k, rfl⟩ : ∃ q, k = q + 1 := ⟨k - 1, by omega⟩
        rw [lX_product_8_1]
        have ei := i32_inc (x := x3) (by omega)
        exact ih k _ _ _ _ (by omega) (by omega) (by omega) rfl (Cs.le h12 (by omega))
theorem sX_product (L : Nat) (xs : Nat → Int32) {m : Nat} (hm : 4294967296 ≤ m) {N : Nat} (ihL : spL L xs m N) (ihF : spF L xs m N) (ihC : spC L xs m N) (ihU : spU L xs m N) : ∀ {d : Nat} (a1 : Int32) {b bq bx : Int} {g : a2_G} {r : a2_A}, 4 + 16 * (N + 1) ≤ d → 0 ≤ a1.toInt → a1.toInt ≤ 40 → 41 ≤ a1.toInt + ((N + 1) : Nat) → Cs b g r → b ≤ 3250 → b + (-2) ≤ bq → b + (0) ≤ bx → wp (ev L xs (m + 1) d nX_product [.ref cX, .int a1] g r) (kV bq) (kX bx) := by
  intro d a1 b bq bx g r hd hn0 hn1 hn2 h hb hq hx
  obtain ⟨d, rfl⟩ : ∃ e, d = e + 1 := ⟨d - 1, by omega⟩
  have k40 : (40 : Int32).toInt = 40 := rfl
  rw [qX_product]
  refine wp_vV ((sX_sumUnit L xs hm ihL ihF ihC ihU) a1 (by omega) (by first | decide | omega) (by first | decide | omega) (by first | decide | omega) h (by omega) (Int.le_refl _) (by omega)) (fun v1 g1 r1 h1 => ?_)
  unfold BX_product_8
  refine wp_if (fun hc => absurd hc (by decide)) (fun _ => ?_)
  refine wp_vB (sR_isSign L xs (by omega) 7 0 h1.1) ?_ (fun f2 => ?_)
  · refine wp_if (fun hc => absurd hc (by decide)) (fun _ => ?_)
    refine wp_vB (sR_isSign L xs (by omega) 8 0 h1.1) ?_ (fun f3 => ?_)
    · refine wp_if (fun _ => ?_) (fun hc => absurd (by decide) hc)
      unfold BX_product_87
      exact ⟨_, rfl, Cs.le h1 (by omega)⟩
    · refine wp_if (fun hc => absurd hc (by decide)) (fun _ => ?_)
      unfold BX_product_41
      refine wp_vP (sR_value L xs (by omega) h1.1) (fun v4 _ => ?_)
      refine wp_vT (sX_join L xs hm (by omega) 55 v4 v1 h1 (by omega)) (fun v5 g5 r5 h5 q5 => ?_)
      refine wp_nON (sR_advanceL L xs (by omega) h5 (show Lt g5 from (q5.lt (show Lt g1 from (f3 rfl))))) (fun g6 r6 h6 => ?_)
      refine wp_vV ((sX_sumUnit L xs hm ihL ihF ihC ihU) a1 (by omega) (by first | decide | omega) (by first | decide | omega) (by first | decide | omega) h6 (by omega) (Int.le_refl _) (by omega)) (fun v7 g7 r7 h7 => ?_)
      refine wp_nT (sT_append L xs (by omega) v5 v7 h7) (fun g8 r8 h8 q8 => ?_)
      have l9 := lX_product_8_1 L xs (m + 1) d (m - 1) a1 v5 (0 + 1) v5 g8 r8
      rw [show m - 1 + 1 = m by omega] at l9
      rw [l9]
      exact sBX_product_8_1 L xs hm ihL ihF ihC ihU (d := d) a1 (by omega) (by omega) (by omega) (by omega) (by omega) (by omega) (by omega) 1500 (m - 1) a1 v5 (0 + 1) v5 (by first | decide | omega) (by first | decide | omega) (by omega) rfl h8
  · refine wp_if (fun _ => ?_) (fun hc => absurd (by decide) hc)
    unfold BX_product_41
    refine wp_vP (sR_value L xs (by omega) h1.1) (fun v9 _ => ?_)
    refine wp_vT (sX_join L xs hm (by omega) 55 v9 v1 h1 (by omega)) (fun v10 g10 r10 h10 q10 => ?_)
    refine wp_nON (sR_advanceL L xs (by omega) h10 (show Lt g10 from (q10.lt (show Lt g1 from (f2 rfl))))) (fun g11 r11 h11 => ?_)
    refine wp_vV ((sX_sumUnit L xs hm ihL ihF ihC ihU) a1 (by omega) (by first | decide | omega) (by first | decide | omega) (by first | decide | omega) h11 (by omega) (Int.le_refl _) (by omega)) (fun v12 g12 r12 h12 => ?_)
    refine wp_nT (sT_append L xs (by omega) v10 v12 h12) (fun g13 r13 h13 q13 => ?_)
    have l9 := lX_product_8_1 L xs (m + 1) d (m - 1) a1 v10 (0 + 1) v10 g13 r13
    rw [show m - 1 + 1 = m by omega] at l9
    rw [l9]
    exact sBX_product_8_1 L xs hm ihL ihF ihC ihU (d := d) a1 (by omega) (by omega) (by omega) (by omega) (by omega) (by omega) (by omega) 1500 (m - 1) a1 v10 (0 + 1) v10 (by first | decide | omega) (by first | decide | omega) (by omega) rfl h13
theorem sBX_sum_8_1 (L : Nat) (xs : Nat → Int32) {m d : Nat} (hm : 4294967296 ≤ m) {N : Nat} (ihL : spL L xs m N) (ihF : spF L xs m N) (ihC : spC L xs m N) (ihU : spU L xs m N) {b bq bx : Int} (nn : Int32) (hn0 : 0 ≤ nn.toInt) (hn1 : nn.toInt ≤ 40) (hn2 : 41 ≤ nn.toInt + (N + 1 : Nat)) (hd : 4 + 16 * (N + 1) ≤ d) (hb : b ≤ 3250) (hq : b + (0) ≤ bq) (hx : b + (-2) ≤ bx) : ∀ (n k : Nat) (x1 x2 x3 x4 : Int32) {g : a2_G} {r : a2_A}, 0 ≤ x3.toInt → 1500 ≤ x3.toInt + n → n < k → x1 = nn → Cs b g r → wp (BX_sum_8_1 L xs (m + 1) d k x1 x2 x3 x4 g r) (kV bq) (kX bx) := by
  have k15 : (1500 : Int32).toInt = 1500 := rfl
  have k40 : (40 : Int32).toInt = 40 := rfl
  intro n
  induction n with
  | zero =>
    intro k x1 x2 x3 x4 g r hi0 hi1 hk hnn h
    subst hnn
    unfold BX_sum_8_1
    refine wp_if (fun hc => ?_) (fun hc => ?_)
    · rw [c2_ge] at hc
      unfold BX_sum_86_1
      exact ⟨_, rfl, Cs.le h (by omega)⟩
    · rw [c2_ge] at hc
      refine wp_vB (sR_isSign L xs (by omega) 5 0 h.1) ?_ (fun f1 => ?_)
      · refine wp_if (fun hc => absurd hc (by decide)) (fun _ => ?_)
        refine wp_vB (sR_isSign L xs (by omega) 6 0 h.1) ?_ (fun f2 => ?_)
        · refine wp_if (fun _ => ?_) (fun hc => absurd (by decide) hc)
          unfold BX_sum_86_1
          exact ⟨_, rfl, Cs.le h (by omega)⟩
        · refine wp_if (fun hc => absurd hc (by decide)) (fun _ => ?_)
          unfold BX_sum_40_1
          refine wp_vP (sR_value L xs (by omega) h.1) (fun v3 _ => ?_)
          refine wp_vT (sX_join L xs hm (by omega) 55 v3 x2 h (by omega)) (fun v4 g4 r4 h4 q4 => ?_)
          refine wp_nON (sR_advanceL L xs (by omega) h4 (show Lt g4 from (q4.lt (show Lt g from (f2 rfl))))) (fun g5 r5 h5 => ?_)
          refine wp_vV ((sX_product L xs hm ihL ihF ihC ihU) x1 (by omega) (by first | decide | omega) (by first | decide | omega) (by first | decide | omega) h5 (by omega) (Int.le_refl _) (by omega)) (fun v6 g6 r6 h6 => ?_)
          refine wp_nT (sT_append L xs (by omega) v4 v6 h6) (fun g7 r7 h7 q7 => ?_)
          obtain ⟨k, rfl⟩ : ∃ q, k = q + 1 := ⟨k - 1, by omega⟩
          rw [lX_sum_8_1]
          have ei := i32_inc (x := x3) (by omega)
          exfalso
          omega
      · refine wp_if (fun _ => ?_) (fun hc => absurd (by decide) hc)
        unfold BX_sum_40_1
        refine wp_vP (sR_value L xs (by omega) h.1) (fun v8 _ => ?_)
        refine wp_vT (sX_join L xs hm (by omega) 55 v8 x2 h (by omega)) (fun v9 g9 r9 h9 q9 => ?_)
        refine wp_nON (sR_advanceL L xs (by omega) h9 (show Lt g9 from (q9.lt (show Lt g from (f1 rfl))))) (fun g10 r10 h10 => ?_)
        refine wp_vV ((sX_product L xs hm ihL ihF ihC ihU) x1 (by omega) (by first | decide | omega) (by first | decide | omega) (by first | decide | omega) h10 (by omega) (Int.le_refl _) (by omega)) (fun v11 g11 r11 h11 => ?_)
        refine wp_nT (sT_append L xs (by omega) v9 v11 h11) (fun g12 r12 h12 q12 => ?_)
        obtain ⟨k, rfl⟩ : ∃ q, k = q + 1 := ⟨k - 1, by omega⟩
        rw [lX_sum_8_1]
        have ei := i32_inc (x := x3) (by omega)
        exfalso
        omega
  | succ n ih =>
    intro k x1 x2 x3 x4 g r hi0 hi1 hk hnn h
    subst hnn
    unfold BX_sum_8_1
    refine wp_if (fun hc => ?_) (fun hc => ?_)
    · rw [c2_ge] at hc
      unfold BX_sum_86_1
      exact ⟨_, rfl, Cs.le h (by omega)⟩
    · rw [c2_ge] at hc
      refine wp_vB (sR_isSign L xs (by omega) 5 0 h.1) ?_ (fun f1 => ?_)
      · refine wp_if (fun hc => absurd hc (by decide)) (fun _ => ?_)
        refine wp_vB (sR_isSign L xs (by omega) 6 0 h.1) ?_ (fun f2 => ?_)
        · refine wp_if (fun _ => ?_) (fun hc => absurd (by decide) hc)
          unfold BX_sum_86_1
          exact ⟨_, rfl, Cs.le h (by omega)⟩
        · refine wp_if (fun hc => absurd hc (by decide)) (fun _ => ?_)
          unfold BX_sum_40_1
          refine wp_vP (sR_value L xs (by omega) h.1) (fun v3 _ => ?_)
          refine wp_vT (sX_join L xs hm (by omega) 55 v3 x2 h (by omega)) (fun v4 g4 r4 h4 q4 => ?_)
          refine wp_nON (sR_advanceL L xs (by omega) h4 (show Lt g4 from (q4.lt (show Lt g from (f2 rfl))))) (fun g5 r5 h5 => ?_)
          refine wp_vV ((sX_product L xs hm ihL ihF ihC ihU) x1 (by omega) (by first | decide | omega) (by first | decide | omega) (by first | decide | omega) h5 (by omega) (Int.le_refl _) (by omega)) (fun v6 g6 r6 h6 => ?_)
          refine wp_nT (sT_append L xs (by omega) v4 v6 h6) (fun g7 r7 h7 q7 => ?_)
          obtain ⟨k, rfl⟩ : ∃ q, k = q + 1 := ⟨k - 1, by omega⟩
          rw [lX_sum_8_1]
          have ei := i32_inc (x := x3) (by omega)
          exact ih k _ _ _ _ (by omega) (by omega) (by omega) rfl (Cs.le h7 (by omega))
      · refine wp_if (fun _ => ?_) (fun hc => absurd (by decide) hc)
        unfold BX_sum_40_1
        refine wp_vP (sR_value L xs (by omega) h.1) (fun v8 _ => ?_)
        refine wp_vT (sX_join L xs hm (by omega) 55 v8 x2 h (by omega)) (fun v9 g9 r9 h9 q9 => ?_)
        refine wp_nON (sR_advanceL L xs (by omega) h9 (show Lt g9 from (q9.lt (show Lt g from (f1 rfl))))) (fun g10 r10 h10 => ?_)
        refine wp_vV ((sX_product L xs hm ihL ihF ihC ihU) x1 (by omega) (by first | decide | omega) (by first | decide | omega) (by first | decide | omega) h10 (by omega) (Int.le_refl _) (by omega)) (fun v11 g11 r11 h11 => ?_)
        refine wp_nT (sT_append L xs (by omega) v9 v11 h11) (fun g12 r12 h12 q12 => ?_)
        obtain ⟨k, rfl⟩ : ∃ q, k = q + 1 := ⟨k - 1, by omega⟩
        rw [lX_sum_8_1]
        have ei := i32_inc (x := x3) (by omega)
        exact ih k _ _ _ _ (by omega) (by omega) (by omega) rfl (Cs.le h12 (by omega))
theorem sX_sum (L : Nat) (xs : Nat → Int32) {m : Nat} (hm : 4294967296 ≤ m) {N : Nat} (ihL : spL L xs m N) (ihF : spF L xs m N) (ihC : spC L xs m N) (ihU : spU L xs m N) : spU L xs m (N + 1) := by
  intro d a1 b bq bx g r hd hn0 hn1 hn2 h hb hq hx
  obtain ⟨d, rfl⟩ : ∃ e, d = e + 1 := ⟨d - 1, by omega⟩
  have k40 : (40 : Int32).toInt = 40 := rfl
  rw [qX_sum]
  refine wp_vV ((sX_product L xs hm ihL ihF ihC ihU) a1 (by omega) (by first | decide | omega) (by first | decide | omega) (by first | decide | omega) h (by omega) (Int.le_refl _) (by omega)) (fun v1 g1 r1 h1 => ?_)
  unfold BX_sum_8
  refine wp_if (fun hc => absurd hc (by decide)) (fun _ => ?_)
  refine wp_vB (sR_isSign L xs (by omega) 5 0 h1.1) ?_ (fun f2 => ?_)
  · refine wp_if (fun hc => absurd hc (by decide)) (fun _ => ?_)
    refine wp_vB (sR_isSign L xs (by omega) 6 0 h1.1) ?_ (fun f3 => ?_)
    · refine wp_if (fun _ => ?_) (fun hc => absurd (by decide) hc)
      unfold BX_sum_86
      exact ⟨_, rfl, Cs.le h1 (by omega)⟩
    · refine wp_if (fun hc => absurd hc (by decide)) (fun _ => ?_)
      unfold BX_sum_40
      refine wp_vP (sR_value L xs (by omega) h1.1) (fun v4 _ => ?_)
      refine wp_vT (sX_join L xs hm (by omega) 55 v4 v1 h1 (by omega)) (fun v5 g5 r5 h5 q5 => ?_)
      refine wp_nON (sR_advanceL L xs (by omega) h5 (show Lt g5 from (q5.lt (show Lt g1 from (f3 rfl))))) (fun g6 r6 h6 => ?_)
      refine wp_vV ((sX_product L xs hm ihL ihF ihC ihU) a1 (by omega) (by first | decide | omega) (by first | decide | omega) (by first | decide | omega) h6 (by omega) (Int.le_refl _) (by omega)) (fun v7 g7 r7 h7 => ?_)
      refine wp_nT (sT_append L xs (by omega) v5 v7 h7) (fun g8 r8 h8 q8 => ?_)
      have l9 := lX_sum_8_1 L xs (m + 1) d (m - 1) a1 v5 (0 + 1) v5 g8 r8
      rw [show m - 1 + 1 = m by omega] at l9
      rw [l9]
      exact sBX_sum_8_1 L xs hm ihL ihF ihC ihU (d := d) a1 (by omega) (by omega) (by omega) (by omega) (by omega) (by omega) (by omega) 1500 (m - 1) a1 v5 (0 + 1) v5 (by first | decide | omega) (by first | decide | omega) (by omega) rfl h8
  · refine wp_if (fun _ => ?_) (fun hc => absurd (by decide) hc)
    unfold BX_sum_40
    refine wp_vP (sR_value L xs (by omega) h1.1) (fun v9 _ => ?_)
    refine wp_vT (sX_join L xs hm (by omega) 55 v9 v1 h1 (by omega)) (fun v10 g10 r10 h10 q10 => ?_)
    refine wp_nON (sR_advanceL L xs (by omega) h10 (show Lt g10 from (q10.lt (show Lt g1 from (f2 rfl))))) (fun g11 r11 h11 => ?_)
    refine wp_vV ((sX_product L xs hm ihL ihF ihC ihU) a1 (by omega) (by first | decide | omega) (by first | decide | omega) (by first | decide | omega) h11 (by omega) (Int.le_refl _) (by omega)) (fun v12 g12 r12 h12 => ?_)
    refine wp_nT (sT_append L xs (by omega) v10 v12 h12) (fun g13 r13 h13 q13 => ?_)
    have l9 := lX_sum_8_1 L xs (m + 1) d (m - 1) a1 v10 (0 + 1) v10 g13 r13
    rw [show m - 1 + 1 = m by omega] at l9
    rw [l9]
    exact sBX_sum_8_1 L xs hm ihL ihF ihC ihU (d := d) a1 (by omega) (by omega) (by omega) (by omega) (by omega) (by omega) (by omega) 1500 (m - 1) a1 v10 (0 + 1) v10 (by first | decide | omega) (by first | decide | omega) (by omega) rfl h13
theorem sS_branch (L : Nat) (xs : Nat → Int32) {m : Nat} (hm : 4294967296 ≤ m) {N : Nat} (ihL : spL L xs m N) (ihF : spF L xs m N) (ihC : spC L xs m N) (ihU : spU L xs m N) : ∀ {d : Nat} (a1 : Int32) {b bq bx : Int} {g : a2_G} {r : a2_A}, 3 + 16 * (N + 1) ≤ d → 0 ≤ a1.toInt → a1.toInt ≤ 40 → 41 ≤ a1.toInt + ((N + 1) : Nat) → Cs b g r → b ≤ 3243 → b + (1) ≤ bq → b + (0) ≤ bx → wp (ev L xs (m + 1) d nS_branch [.ref cS, .int a1] g r) (kV bq) (kX bx) := by
  intro d a1 b bq bx g r hd hn0 hn1 hn2 h hb hq hx
  obtain ⟨d, rfl⟩ : ∃ e, d = e + 1 := ⟨d - 1, by omega⟩
  have k40 : (40 : Int32).toInt = 40 := rfl
  rw [qS_branch]
  refine wp_vB (sR_isReserved L xs (by omega) 54 0 h.1) ?_ (fun f1 => ?_)
  · refine wp_if (fun hc => absurd hc (by decide)) (fun _ => ?_)
    have ej2 := i32_inc (x := a1) (by omega)
    refine wp_vV (ihL 40 (a1 + 1) (by omega) (by first | decide | omega) (by first | decide | omega) (by first | decide | omega) h (by omega) (Int.le_refl _) (by omega)) (fun v2 g2 r2 h2 => ?_)
    exact ⟨_, rfl, Cs.le h2 (by omega)⟩
  · refine wp_if (fun _ => ?_) (fun hc => absurd (by decide) hc)
    refine wp_vP (sR_place L xs (by omega) h.1) (fun v3 _ => ?_)
    refine wp_vT (sT_make L xs hm (by omega) 42 0 v3 h (by omega)) (fun v4 g4 r4 h4 q4 => ?_)
    refine wp_nON (sR_advanceL L xs (by omega) h4 (show Lt g4 from (q4.lt (show Lt g from (f1 rfl).1)))) (fun g5 r5 h5 => ?_)
    refine wp_nO (sR_require L xs hm (by omega) 55 h5 (by omega) (Int.le_refl _) (by omega)) (fun g6 r6 h6 => ?_)
    exact ⟨_, rfl, Cs.le h6 (by omega)⟩
theorem sS_ifElse (L : Nat) (xs : Nat → Int32) {m : Nat} (hm : 4294967296 ≤ m) {N : Nat} (ihL : spL L xs m N) (ihF : spF L xs m N) (ihC : spC L xs m N) (ihU : spU L xs m N) : ∀ {d : Nat} (a1 : Int32) {b bq bx : Int} {g : a2_G} {r : a2_A}, 7 + 16 * (N + 1) ≤ d → 0 ≤ a1.toInt → a1.toInt ≤ 40 → 41 ≤ a1.toInt + ((N + 1) : Nat) → Cs b g r → Lt g → b ≤ 3244 → b + (0) ≤ bq → b + (-1) ≤ bx → wp (ev L xs (m + 1) d nS_ifElse [.ref cS, .int a1] g r) (kV bq) (kX bx) := by
  intro d a1 b bq bx g r hd hn0 hn1 hn2 h hl hb hq hx
  obtain ⟨d, rfl⟩ : ∃ e, d = e + 1 := ⟨d - 1, by omega⟩
  have k40 : (40 : Int32).toInt = 40 := rfl
  rw [qS_ifElse]
  refine wp_vV (sS_begin L xs hm (by omega) 28 h (show Lt g from hl) (by omega) (Int.le_refl _) (by omega)) (fun v1 g1 r1 h1 => ?_)
  refine wp_vV ((sX_condition L xs hm ihL ihF ihC ihU) a1 (by omega) (by first | decide | omega) (by first | decide | omega) (by first | decide | omega) h1 (by omega) (Int.le_refl _) (by omega)) (fun v2 g2 r2 h2 => ?_)
  refine wp_nT (sT_append L xs (by omega) v1 v2 h2) (fun g3 r3 h3 q3 => ?_)
  refine wp_vVN (sR_skipW L xs (by omega) 52 h3) (fun v4 g4 r4 h4 => ?_)
  refine wp_vV ((sS_branch L xs hm ihL ihF ihC ihU) a1 (by omega) (by first | decide | omega) (by first | decide | omega) (by first | decide | omega) h4 (by omega) (Int.le_refl _) (by omega)) (fun v5 g5 r5 h5 => ?_)
  refine wp_nT (sT_append L xs (by omega) v1 v5 h5) (fun g6 r6 h6 q6 => ?_)
  refine wp_vS (sR_skip L xs (by omega) 53 h6) (fun _ => ?_) (fun g7 r7 h7 => ?_)
  · refine wp_if (fun _ => ?_) (fun hc => absurd (by decide) hc)
    unfold BS_ifElse_71
    refine wp_nO (sS_scopeEnd L xs hm (by omega) v1 73 h6 (by omega) (Int.le_refl _) (by omega)) (fun g8 r8 h8 => ?_)
    exact ⟨_, rfl, Cs.le h8 (by omega)⟩
  · refine wp_if (fun hc => absurd hc (by decide)) (fun _ => ?_)
    refine wp_vV ((sS_branch L xs hm ihL ihF ihC ihU) a1 (by omega) (by first | decide | omega) (by first | decide | omega) (by first | decide | omega) h7 (by omega) (Int.le_refl _) (by omega)) (fun v9 g9 r9 h9 => ?_)
    refine wp_nT (sT_append L xs (by omega) v1 v9 h9) (fun g10 r10 h10 q10 => ?_)
    unfold BS_ifElse_71
    refine wp_nO (sS_scopeEnd L xs hm (by omega) v1 73 h10 (by omega) (Int.le_refl _) (by omega)) (fun g11 r11 h11 => ?_)
    exact ⟨_, rfl, Cs.le h11 (by omega)⟩
theorem sS_add (L : Nat) (xs : Nat → Int32) {m : Nat} (hm : 4294967296 ≤ m) {N : Nat} (ihL : spL L xs m N) (ihF : spF L xs m N) (ihC : spC L xs m N) (ihU : spU L xs m N) : ∀ {d : Nat} (a1 : Int32) {b bq bx : Int} {g : a2_G} {r : a2_A}, 4 + 16 * (N + 1) ≤ d → 0 ≤ a1.toInt → a1.toInt ≤ 40 → 41 ≤ a1.toInt + ((N + 1) : Nat) → Cs b g r → Lt g → b ≤ 3250 → b + (-9) ≤ bq → b + (-2) ≤ bx → wp (ev L xs (m + 1) d nS_add [.ref cS, .int a1] g r) (kV bq) (kX bx) := by
  intro d a1 b bq bx g r hd hn0 hn1 hn2 h hl hb hq hx
  obtain ⟨d, rfl⟩ : ∃ e, d = e + 1 := ⟨d - 1, by omega⟩
  have k40 : (40 : Int32).toInt = 40 := rfl
  rw [qS_add]
  refine wp_vV (sS_begin L xs hm (by omega) 27 h (show Lt g from hl) (by omega) (Int.le_refl _) (by omega)) (fun v1 g1 r1 h1 => ?_)
  refine wp_nO (sS_operandsIn L xs hm (by omega) v1 h1 (by omega) (Int.le_refl _) (by omega)) (fun g2 r2 h2 => ?_)
  refine wp_vS (sR_skip L xs (by omega) 49 h2) (fun _ => ?_) (fun g3 r3 h3 => ?_)
  · refine wp_if (fun _ => ?_) (fun hc => absurd (by decide) hc)
    refine wp_nO (sR_require L xs hm (by omega) 48 h2 (by omega) (Int.le_refl _) (by omega)) (fun g4 r4 h4 => ?_)
    refine wp_nO (sL_namesIn L xs hm (by omega) v1 41 h4 (by omega) (Int.le_refl _) (by omega)) (fun g5 r5 h5 => ?_)
    unfold BS_add_66
    refine wp_vS (sR_skip L xs (by omega) 50 h5) (fun _ => ?_) (fun g6 r6 h6 => ?_)
    · refine wp_if (fun _ => ?_) (fun hc => absurd (by decide) hc)
      unfold BS_add_104
      refine wp_nO (sS_scopeEnd L xs hm (by omega) v1 72 h5 (by omega) (Int.le_refl _) (by omega)) (fun g7 r7 h7 => ?_)
      exact ⟨_, rfl, Cs.le h7 (by omega)⟩
    · refine wp_if (fun hc => absurd hc (by decide)) (fun _ => ?_)
      refine wp_nO (sR_require L xs hm (by omega) 51 h6 (by omega) (Int.le_refl _) (by omega)) (fun g8 r8 h8 => ?_)
      have ej9 := i32_inc (x := a1) (by omega)
      refine wp_vV (ihL 40 (a1 + 1) (by omega) (by first | decide | omega) (by first | decide | omega) (by first | decide | omega) h8 (by omega) (Int.le_refl _) (by omega)) (fun v9 g9 r9 h9 => ?_)
      refine wp_nT (sT_append L xs (by omega) v1 v9 h9) (fun g10 r10 h10 q10 => ?_)
      unfold BS_add_104
      refine wp_nO (sS_scopeEnd L xs hm (by omega) v1 72 h10 (by omega) (Int.le_refl _) (by omega)) (fun g11 r11 h11 => ?_)
      exact ⟨_, rfl, Cs.le h11 (by omega)⟩
  · refine wp_if (fun hc => absurd hc (by decide)) (fun _ => ?_)
    refine wp_nT (sT_set L xs (by omega) v1 1 1 h3) (fun g12 r12 h12 q12 => ?_)
    refine wp_nO (sL_nameIn L xs hm (by omega) v1 41 h12 (by omega) (Int.le_refl _) (by omega)) (fun g13 r13 h13 => ?_)
    unfold BS_add_66
    refine wp_vS (sR_skip L xs (by omega) 50 h13) (fun _ => ?_) (fun g14 r14 h14 => ?_)
    · refine wp_if (fun _ => ?_) (fun hc => absurd (by decide) hc)
      unfold BS_add_104
      refine wp_nO (sS_scopeEnd L xs hm (by omega) v1 72 h13 (by omega) (Int.le_refl _) (by omega)) (fun g15 r15 h15 => ?_)
      exact ⟨_, rfl, Cs.le h15 (by omega)⟩
    · refine wp_if (fun hc => absurd hc (by decide)) (fun _ => ?_)
      refine wp_nO (sR_require L xs hm (by omega) 51 h14 (by omega) (Int.le_refl _) (by omega)) (fun g16 r16 h16 => ?_)
      have ej17 := i32_inc (x := a1) (by omega)
      refine wp_vV (ihL 40 (a1 + 1) (by omega) (by first | decide | omega) (by first | decide | omega) (by first | decide | omega) h16 (by omega) (Int.le_refl _) (by omega)) (fun v17 g17 r17 h17 => ?_)
      refine wp_nT (sT_append L xs (by omega) v1 v17 h17) (fun g18 r18 h18 q18 => ?_)
      unfold BS_add_104
      refine wp_nO (sS_scopeEnd L xs hm (by omega) v1 72 h18 (by omega) (Int.le_refl _) (by omega)) (fun g19 r19 h19 => ?_)
      exact ⟨_, rfl, Cs.le h19 (by omega)⟩
theorem sS_perform (L : Nat) (xs : Nat → Int32) {m : Nat} (hm : 4294967296 ≤ m) {N : Nat} (ihL : spL L xs m N) (ihF : spF L xs m N) (ihC : spC L xs m N) (ihU : spU L xs m N) : ∀ {d : Nat} (a1 : Int32) {b bq bx : Int} {g : a2_G} {r : a2_A}, 7 + 16 * (N + 1) ≤ d → 0 ≤ a1.toInt → a1.toInt ≤ 40 → 41 ≤ a1.toInt + ((N + 1) : Nat) → Cs b g r → Lt g → b ≤ 3245 → b + (-4) ≤ bq → b + (-1) ≤ bx → wp (ev L xs (m + 1) d nS_perform [.ref cS, .int a1] g r) (kV bq) (kX bx) := by
  intro d a1 b bq bx g r hd hn0 hn1 hn2 h hl hb hq hx
  obtain ⟨d, rfl⟩ : ∃ e, d = e + 1 := ⟨d - 1, by omega⟩
  have k40 : (40 : Int32).toInt = 40 := rfl
  rw [qS_perform]
  refine wp_vV (sS_begin L xs hm (by omega) 29 h (show Lt g from hl) (by omega) (Int.le_refl _) (by omega)) (fun v1 g1 r1 h1 => ?_)
  refine wp_vB (sR_isKind L xs (by omega) 1 h1.1) ?_ (fun f2 => ?_)
  · refine wp_if (fun _ => ?_) (fun hc => absurd (by decide) hc)
    unfold BS_perform_35
    unfold BS_perform_36
    refine wp_if (fun _ => ?_) (fun hc => absurd (by decide) hc)
    unfold BS_perform_73
    refine wp_vB (sR_isKind L xs (by omega) 2 h1.1) ?_ (fun f3 => ?_)
    · refine wp_if (fun hc => absurd hc (by decide)) (fun _ => ?_)
      refine wp_vB (sR_isKind L xs (by omega) 1 h1.1) ?_ (fun f4 => ?_)
      · refine wp_if (fun _ => ?_) (fun hc => absurd (by decide) hc)
        unfold BS_perform_116
        refine wp_vB (sR_isReserved L xs (by omega) 56 0 h1.1) ?_ (fun f5 => ?_)
        · refine wp_if (fun _ => ?_) (fun hc => absurd (by decide) hc)
          refine wp_vB (sR_isReserved L xs (by omega) 57 0 h1.1) ?_ (fun f6 => ?_)
          · refine wp_if (fun _ => ?_) (fun hc => absurd (by decide) hc)
            unfold BS_perform_213
            refine wp_if (fun hc => absurd hc (by decide)) (fun _ => ?_)
            have ej7 := i32_inc (x := a1) (by omega)
            refine wp_vV (ihL 40 (a1 + 1) (by omega) (by first | decide | omega) (by first | decide | omega) (by first | decide | omega) h1 (by omega) (Int.le_refl _) (by omega)) (fun v7 g7 r7 h7 => ?_)
            refine wp_nT (sT_append L xs (by omega) v1 v7 h7) (fun g8 r8 h8 q8 => ?_)
            refine wp_nO (sR_require L xs hm (by omega) 74 h8 (by omega) (Int.le_refl _) (by omega)) (fun g9 r9 h9 => ?_)
            refine wp_nT (sT_set L xs (by omega) v1 1 1 h9) (fun g10 r10 h10 q10 => ?_)
            refine wp_nT (sT_set L xs (by omega) v1 3 1 h10) (fun g11 r11 h11 q11 => ?_)
            unfold BS_perform_263
            exact ⟨_, rfl, Cs.le h11 (by omega)⟩
          · refine wp_if (fun hc => absurd hc (by decide)) (fun _ => ?_)
            refine wp_vV (sS_varying L xs hm (by omega) v1 h1 (by omega) (Int.le_refl _) (by omega)) (fun v12 g12 r12 h12 => ?_)
            refine wp_nO (sR_require L xs hm (by omega) 56 h12 (by omega) (Int.le_refl _) (by omega)) (fun g13 r13 h13 => ?_)
            refine wp_vV ((sX_condition L xs hm ihL ihF ihC ihU) a1 (by omega) (by first | decide | omega) (by first | decide | omega) (by first | decide | omega) h13 (by omega) (Int.le_refl _) (by omega)) (fun v14 g14 r14 h14 => ?_)
            refine wp_nT (sT_append L xs (by omega) v12 v14 h14) (fun g15 r15 h15 q15 => ?_)
            unfold BS_perform_213_1
            refine wp_if (fun hc => absurd hc (by decide)) (fun _ => ?_)
            have ej16 := i32_inc (x := a1) (by omega)
            refine wp_vV (ihL 40 (a1 + 1) (by omega) (by first | decide | omega) (by first | decide | omega) (by first | decide | omega) h15 (by omega) (Int.le_refl _) (by omega)) (fun v16 g16 r16 h16 => ?_)
            refine wp_nT (sT_append L xs (by omega) v1 v16 h16) (fun g17 r17 h17 q17 => ?_)
            refine wp_nO (sR_require L xs hm (by omega) 74 h17 (by omega) (Int.le_refl _) (by omega)) (fun g18 r18 h18 => ?_)
            refine wp_nT (sT_set L xs (by omega) v1 1 1 h18) (fun g19 r19 h19 q19 => ?_)
            refine wp_nT (sT_set L xs (by omega) v1 3 1 h19) (fun g20 r20 h20 q20 => ?_)
            unfold BS_perform_263_1
            exact ⟨_, rfl, Cs.le h20 (by omega)⟩
        · refine wp_if (fun hc => absurd hc (by decide)) (fun _ => ?_)
          refine wp_vV (sS_phraseIn L xs hm (by omega) v1 44 h1 (by omega) (Int.le_refl _) (by omega)) (fun v21 g21 r21 h21 => ?_)
          refine wp_nO (sR_require L xs hm (by omega) 56 h21 (by omega) (Int.le_refl _) (by omega)) (fun g22 r22 h22 => ?_)
          refine wp_vV ((sX_condition L xs hm ihL ihF ihC ihU) a1 (by omega) (by first | decide | omega) (by first | decide | omega) (by first | decide | omega) h22 (by omega) (Int.le_refl _) (by omega)) (fun v23 g23 r23 h23 => ?_)
          refine wp_nT (sT_append L xs (by omega) v21 v23 h23) (fun g24 r24 h24 q24 => ?_)
          unfold BS_perform_213_1
          refine wp_if (fun hc => absurd hc (by decide)) (fun _ => ?_)
          have ej25 := i32_inc (x := a1) (by omega)
          refine wp_vV (ihL 40 (a1 + 1) (by omega) (by first | decide | omega) (by first | decide | omega) (by first | decide | omega) h24 (by omega) (Int.le_refl _) (by omega)) (fun v25 g25 r25 h25 => ?_)
          refine wp_nT (sT_append L xs (by omega) v1 v25 h25) (fun g26 r26 h26 q26 => ?_)
          refine wp_nO (sR_require L xs hm (by omega) 74 h26 (by omega) (Int.le_refl _) (by omega)) (fun g27 r27 h27 => ?_)
          refine wp_nT (sT_set L xs (by omega) v1 1 1 h27) (fun g28 r28 h28 q28 => ?_)
          refine wp_nT (sT_set L xs (by omega) v1 3 1 h28) (fun g29 r29 h29 q29 => ?_)
          unfold BS_perform_263_1
          exact ⟨_, rfl, Cs.le h29 (by omega)⟩
      · refine wp_if (fun hc => absurd hc (by decide)) (fun _ => ?_)
        refine wp_vB (sR_isReserved L xs (by omega) 23 1 h1.1) ?_ (fun f30 => ?_)
        · refine wp_if (fun _ => ?_) (fun hc => absurd (by decide) hc)
          unfold BS_perform_116
          refine wp_vB (sR_isReserved L xs (by omega) 56 0 h1.1) ?_ (fun f31 => ?_)
          · refine wp_if (fun _ => ?_) (fun hc => absurd (by decide) hc)
            refine wp_vB (sR_isReserved L xs (by omega) 57 0 h1.1) ?_ (fun f32 => ?_)
            · refine wp_if (fun _ => ?_) (fun hc => absurd (by decide) hc)
              unfold BS_perform_213
              refine wp_if (fun hc => absurd hc (by decide)) (fun _ => ?_)
              have ej33 := i32_inc (x := a1) (by omega)
              refine wp_vV (ihL 40 (a1 + 1) (by omega) (by first | decide | omega) (by first | decide | omega) (by first | decide | omega) h1 (by omega) (Int.le_refl _) (by omega)) (fun v33 g33 r33 h33 => ?_)
              refine wp_nT (sT_append L xs (by omega) v1 v33 h33) (fun g34 r34 h34 q34 => ?_)
              refine wp_nO (sR_require L xs hm (by omega) 74 h34 (by omega) (Int.le_refl _) (by omega)) (fun g35 r35 h35 => ?_)
              refine wp_nT (sT_set L xs (by omega) v1 1 1 h35) (fun g36 r36 h36 q36 => ?_)
              refine wp_nT (sT_set L xs (by omega) v1 3 1 h36) (fun g37 r37 h37 q37 => ?_)
              unfold BS_perform_263
              exact ⟨_, rfl, Cs.le h37 (by omega)⟩
            · refine wp_if (fun hc => absurd hc (by decide)) (fun _ => ?_)
              refine wp_vV (sS_varying L xs hm (by omega) v1 h1 (by omega) (Int.le_refl _) (by omega)) (fun v38 g38 r38 h38 => ?_)
              refine wp_nO (sR_require L xs hm (by omega) 56 h38 (by omega) (Int.le_refl _) (by omega)) (fun g39 r39 h39 => ?_)
              refine wp_vV ((sX_condition L xs hm ihL ihF ihC ihU) a1 (by omega) (by first | decide | omega) (by first | decide | omega) (by first | decide | omega) h39 (by omega) (Int.le_refl _) (by omega)) (fun v40 g40 r40 h40 => ?_)
              refine wp_nT (sT_append L xs (by omega) v38 v40 h40) (fun g41 r41 h41 q41 => ?_)
              unfold BS_perform_213_1
              refine wp_if (fun hc => absurd hc (by decide)) (fun _ => ?_)
              have ej42 := i32_inc (x := a1) (by omega)
              refine wp_vV (ihL 40 (a1 + 1) (by omega) (by first | decide | omega) (by first | decide | omega) (by first | decide | omega) h41 (by omega) (Int.le_refl _) (by omega)) (fun v42 g42 r42 h42 => ?_)
              refine wp_nT (sT_append L xs (by omega) v1 v42 h42) (fun g43 r43 h43 q43 => ?_)
              refine wp_nO (sR_require L xs hm (by omega) 74 h43 (by omega) (Int.le_refl _) (by omega)) (fun g44 r44 h44 => ?_)
              refine wp_nT (sT_set L xs (by omega) v1 1 1 h44) (fun g45 r45 h45 q45 => ?_)
              refine wp_nT (sT_set L xs (by omega) v1 3 1 h45) (fun g46 r46 h46 q46 => ?_)
              unfold BS_perform_263_1
              exact ⟨_, rfl, Cs.le h46 (by omega)⟩
          · refine wp_if (fun hc => absurd hc (by decide)) (fun _ => ?_)
            refine wp_vV (sS_phraseIn L xs hm (by omega) v1 44 h1 (by omega) (Int.le_refl _) (by omega)) (fun v47 g47 r47 h47 => ?_)
            refine wp_nO (sR_require L xs hm (by omega) 56 h47 (by omega) (Int.le_refl _) (by omega)) (fun g48 r48 h48 => ?_)
            refine wp_vV ((sX_condition L xs hm ihL ihF ihC ihU) a1 (by omega) (by first | decide | omega) (by first | decide | omega) (by first | decide | omega) h48 (by omega) (Int.le_refl _) (by omega)) (fun v49 g49 r49 h49 => ?_)
            refine wp_nT (sT_append L xs (by omega) v47 v49 h49) (fun g50 r50 h50 q50 => ?_)
            unfold BS_perform_213_1
            refine wp_if (fun hc => absurd hc (by decide)) (fun _ => ?_)
            have ej51 := i32_inc (x := a1) (by omega)
            refine wp_vV (ihL 40 (a1 + 1) (by omega) (by first | decide | omega) (by first | decide | omega) (by first | decide | omega) h50 (by omega) (Int.le_refl _) (by omega)) (fun v51 g51 r51 h51 => ?_)
            refine wp_nT (sT_append L xs (by omega) v1 v51 h51) (fun g52 r52 h52 q52 => ?_)
            refine wp_nO (sR_require L xs hm (by omega) 74 h52 (by omega) (Int.le_refl _) (by omega)) (fun g53 r53 h53 => ?_)
            refine wp_nT (sT_set L xs (by omega) v1 1 1 h53) (fun g54 r54 h54 q54 => ?_)
            refine wp_nT (sT_set L xs (by omega) v1 3 1 h54) (fun g55 r55 h55 q55 => ?_)
            unfold BS_perform_263_1
            exact ⟨_, rfl, Cs.le h55 (by omega)⟩
        · refine wp_if (fun hc => absurd hc (by decide)) (fun _ => ?_)
          unfold BS_perform_108
          refine wp_nO (sS_times L xs hm (by omega) v1 h1 (by omega) (Int.le_refl _) (by omega)) (fun g56 r56 h56 => ?_)
          unfold BS_perform_213
          refine wp_if (fun hc => absurd hc (by decide)) (fun _ => ?_)
          have ej57 := i32_inc (x := a1) (by omega)
          refine wp_vV (ihL 40 (a1 + 1) (by omega) (by first | decide | omega) (by first | decide | omega) (by first | decide | omega) h56 (by omega) (Int.le_refl _) (by omega)) (fun v57 g57 r57 h57 => ?_)
          refine wp_nT (sT_append L xs (by omega) v1 v57 h57) (fun g58 r58 h58 q58 => ?_)
          refine wp_nO (sR_require L xs hm (by omega) 74 h58 (by omega) (Int.le_refl _) (by omega)) (fun g59 r59 h59 => ?_)
          refine wp_nT (sT_set L xs (by omega) v1 1 1 h59) (fun g60 r60 h60 q60 => ?_)
          refine wp_nT (sT_set L xs (by omega) v1 3 1 h60) (fun g61 r61 h61 q61 => ?_)
          unfold BS_perform_263
          exact ⟨_, rfl, Cs.le h61 (by omega)⟩
    · refine wp_if (fun _ => ?_) (fun hc => absurd (by decide) hc)
      unfold BS_perform_108
      refine wp_nO (sS_times L xs hm (by omega) v1 h1 (by omega) (Int.le_refl _) (by omega)) (fun g62 r62 h62 => ?_)
      unfold BS_perform_213
      refine wp_if (fun hc => absurd hc (by decide)) (fun _ => ?_)
      have ej63 := i32_inc (x := a1) (by omega)
      refine wp_vV (ihL 40 (a1 + 1) (by omega) (by first | decide | omega) (by first | decide | omega) (by first | decide | omega) h62 (by omega) (Int.le_refl _) (by omega)) (fun v63 g63 r63 h63 => ?_)
      refine wp_nT (sT_append L xs (by omega) v1 v63 h63) (fun g64 r64 h64 q64 => ?_)
      refine wp_nO (sR_require L xs hm (by omega) 74 h64 (by omega) (Int.le_refl _) (by omega)) (fun g65 r65 h65 => ?_)
      refine wp_nT (sT_set L xs (by omega) v1 1 1 h65) (fun g66 r66 h66 q66 => ?_)
      refine wp_nT (sT_set L xs (by omega) v1 3 1 h66) (fun g67 r67 h67 q67 => ?_)
      unfold BS_perform_263
      exact ⟨_, rfl, Cs.le h67 (by omega)⟩
  · refine wp_if (fun hc => absurd hc (by decide)) (fun _ => ?_)
    refine wp_vB (sR_isReserved L xs (by omega) 23 1 h1.1) ?_ (fun f68 => ?_)
    · refine wp_if (fun hc => absurd hc (by decide)) (fun _ => ?_)
      unfold BS_perform_36
      refine wp_if (fun hc => absurd hc (by decide)) (fun _ => ?_)
      refine wp_nO (sL_nameIn L xs hm (by omega) v1 41 h1 (by omega) (Int.le_refl _) (by omega)) (fun g69 r69 h69 => ?_)
      refine wp_vS (sR_skip L xs (by omega) 21 h69) (fun _ => ?_) (fun g70 r70 h70 => ?_)
      · refine wp_if (fun _ => ?_) (fun hc => absurd (by decide) hc)
        unfold BS_perform_73
        refine wp_vB (sR_isKind L xs (by omega) 2 h69.1) ?_ (fun f71 => ?_)
        · refine wp_if (fun hc => absurd hc (by decide)) (fun _ => ?_)
          refine wp_vB (sR_isKind L xs (by omega) 1 h69.1) ?_ (fun f72 => ?_)
          · refine wp_if (fun _ => ?_) (fun hc => absurd (by decide) hc)
            unfold BS_perform_116
            refine wp_vB (sR_isReserved L xs (by omega) 56 0 h69.1) ?_ (fun f73 => ?_)
            · refine wp_if (fun _ => ?_) (fun hc => absurd (by decide) hc)
              refine wp_vB (sR_isReserved L xs (by omega) 57 0 h69.1) ?_ (fun f74 => ?_)
              · refine wp_if (fun _ => ?_) (fun hc => absurd (by decide) hc)
                unfold BS_perform_213
                refine wp_if (fun _ => ?_) (fun hc => absurd (by decide) hc)
                unfold BS_perform_263
                exact ⟨_, rfl, Cs.le h69 (by omega)⟩
              · refine wp_if (fun hc => absurd hc (by decide)) (fun _ => ?_)
                refine wp_vV (sS_varying L xs hm (by omega) v1 h69 (by omega) (Int.le_refl _) (by omega)) (fun v75 g75 r75 h75 => ?_)
                refine wp_nO (sR_require L xs hm (by omega) 56 h75 (by omega) (Int.le_refl _) (by omega)) (fun g76 r76 h76 => ?_)
                refine wp_vV ((sX_condition L xs hm ihL ihF ihC ihU) a1 (by omega) (by first | decide | omega) (by first | decide | omega) (by first | decide | omega) h76 (by omega) (Int.le_refl _) (by omega)) (fun v77 g77 r77 h77 => ?_)
                refine wp_nT (sT_append L xs (by omega) v75 v77 h77) (fun g78 r78 h78 q78 => ?_)
                unfold BS_perform_213_1
                refine wp_if (fun _ => ?_) (fun hc => absurd (by decide) hc)
                unfold BS_perform_263_1
                exact ⟨_, rfl, Cs.le h78 (by omega)⟩
            · refine wp_if (fun hc => absurd hc (by decide)) (fun _ => ?_)
              refine wp_vV (sS_phraseIn L xs hm (by omega) v1 44 h69 (by omega) (Int.le_refl _) (by omega)) (fun v79 g79 r79 h79 => ?_)
              refine wp_nO (sR_require L xs hm (by omega) 56 h79 (by omega) (Int.le_refl _) (by omega)) (fun g80 r80 h80 => ?_)
              refine wp_vV ((sX_condition L xs hm ihL ihF ihC ihU) a1 (by omega) (by first | decide | omega) (by first | decide | omega) (by first | decide | omega) h80 (by omega) (Int.le_refl _) (by omega)) (fun v81 g81 r81 h81 => ?_)
              refine wp_nT (sT_append L xs (by omega) v79 v81 h81) (fun g82 r82 h82 q82 => ?_)
              unfold BS_perform_213_1
              refine wp_if (fun _ => ?_) (fun hc => absurd (by decide) hc)
              unfold BS_perform_263_1
              exact ⟨_, rfl, Cs.le h82 (by omega)⟩
          · refine wp_if (fun hc => absurd hc (by decide)) (fun _ => ?_)
            refine wp_vB (sR_isReserved L xs (by omega) 23 1 h69.1) ?_ (fun f83 => ?_)
            · refine wp_if (fun _ => ?_) (fun hc => absurd (by decide) hc)
              unfold BS_perform_116
              refine wp_vB (sR_isReserved L xs (by omega) 56 0 h69.1) ?_ (fun f84 => ?_)
              · refine wp_if (fun _ => ?_) (fun hc => absurd (by decide) hc)
                refine wp_vB (sR_isReserved L xs (by omega) 57 0 h69.1) ?_ (fun f85 => ?_)
                · refine wp_if (fun _ => ?_) (fun hc => absurd (by decide) hc)
                  unfold BS_perform_213
                  refine wp_if (fun _ => ?_) (fun hc => absurd (by decide) hc)
                  unfold BS_perform_263
                  exact ⟨_, rfl, Cs.le h69 (by omega)⟩
                · refine wp_if (fun hc => absurd hc (by decide)) (fun _ => ?_)
                  refine wp_vV (sS_varying L xs hm (by omega) v1 h69 (by omega) (Int.le_refl _) (by omega)) (fun v86 g86 r86 h86 => ?_)
                  refine wp_nO (sR_require L xs hm (by omega) 56 h86 (by omega) (Int.le_refl _) (by omega)) (fun g87 r87 h87 => ?_)
                  refine wp_vV ((sX_condition L xs hm ihL ihF ihC ihU) a1 (by omega) (by first | decide | omega) (by first | decide | omega) (by first | decide | omega) h87 (by omega) (Int.le_refl _) (by omega)) (fun v88 g88 r88 h88 => ?_)
                  refine wp_nT (sT_append L xs (by omega) v86 v88 h88) (fun g89 r89 h89 q89 => ?_)
                  unfold BS_perform_213_1
                  refine wp_if (fun _ => ?_) (fun hc => absurd (by decide) hc)
                  unfold BS_perform_263_1
                  exact ⟨_, rfl, Cs.le h89 (by omega)⟩
              · refine wp_if (fun hc => absurd hc (by decide)) (fun _ => ?_)
                refine wp_vV (sS_phraseIn L xs hm (by omega) v1 44 h69 (by omega) (Int.le_refl _) (by omega)) (fun v90 g90 r90 h90 => ?_)
                refine wp_nO (sR_require L xs hm (by omega) 56 h90 (by omega) (Int.le_refl _) (by omega)) (fun g91 r91 h91 => ?_)
                refine wp_vV ((sX_condition L xs hm ihL ihF ihC ihU) a1 (by omega) (by first | decide | omega) (by first | decide | omega) (by first | decide | omega) h91 (by omega) (Int.le_refl _) (by omega)) (fun v92 g92 r92 h92 => ?_)
                refine wp_nT (sT_append L xs (by omega) v90 v92 h92) (fun g93 r93 h93 q93 => ?_)
                unfold BS_perform_213_1
                refine wp_if (fun _ => ?_) (fun hc => absurd (by decide) hc)
                unfold BS_perform_263_1
                exact ⟨_, rfl, Cs.le h93 (by omega)⟩
            · refine wp_if (fun hc => absurd hc (by decide)) (fun _ => ?_)
              unfold BS_perform_108
              refine wp_nO (sS_times L xs hm (by omega) v1 h69 (by omega) (Int.le_refl _) (by omega)) (fun g94 r94 h94 => ?_)
              unfold BS_perform_213
              refine wp_if (fun _ => ?_) (fun hc => absurd (by decide) hc)
              unfold BS_perform_263
              exact ⟨_, rfl, Cs.le h94 (by omega)⟩
        · refine wp_if (fun _ => ?_) (fun hc => absurd (by decide) hc)
          unfold BS_perform_108
          refine wp_nO (sS_times L xs hm (by omega) v1 h69 (by omega) (Int.le_refl _) (by omega)) (fun g95 r95 h95 => ?_)
          unfold BS_perform_213
          refine wp_if (fun _ => ?_) (fun hc => absurd (by decide) hc)
          unfold BS_perform_263
          exact ⟨_, rfl, Cs.le h95 (by omega)⟩
      · refine wp_if (fun hc => absurd hc (by decide)) (fun _ => ?_)
        refine wp_nO (sL_nameIn L xs hm (by omega) v1 41 h70 (by omega) (Int.le_refl _) (by omega)) (fun g96 r96 h96 => ?_)
        unfold BS_perform_73
        refine wp_vB (sR_isKind L xs (by omega) 2 h96.1) ?_ (fun f97 => ?_)
        · refine wp_if (fun hc => absurd hc (by decide)) (fun _ => ?_)
          refine wp_vB (sR_isKind L xs (by omega) 1 h96.1) ?_ (fun f98 => ?_)
          · refine wp_if (fun _ => ?_) (fun hc => absurd (by decide) hc)
            unfold BS_perform_116
            refine wp_vB (sR_isReserved L xs (by omega) 56 0 h96.1) ?_ (fun f99 => ?_)
            · refine wp_if (fun _ => ?_) (fun hc => absurd (by decide) hc)
              refine wp_vB (sR_isReserved L xs (by omega) 57 0 h96.1) ?_ (fun f100 => ?_)
              · refine wp_if (fun _ => ?_) (fun hc => absurd (by decide) hc)
                unfold BS_perform_213
                refine wp_if (fun _ => ?_) (fun hc => absurd (by decide) hc)
                unfold BS_perform_263
                exact ⟨_, rfl, Cs.le h96 (by omega)⟩
              · refine wp_if (fun hc => absurd hc (by decide)) (fun _ => ?_)
                refine wp_vV (sS_varying L xs hm (by omega) v1 h96 (by omega) (Int.le_refl _) (by omega)) (fun v101 g101 r101 h101 => ?_)
                refine wp_nO (sR_require L xs hm (by omega) 56 h101 (by omega) (Int.le_refl _) (by omega)) (fun g102 r102 h102 => ?_)
                refine wp_vV ((sX_condition L xs hm ihL ihF ihC ihU) a1 (by omega) (by first | decide | omega) (by first | decide | omega) (by first | decide | omega) h102 (by omega) (Int.le_refl _) (by omega)) (fun v103 g103 r103 h103 => ?_)
                refine wp_nT (sT_append L xs (by omega) v101 v103 h103) (fun g104 r104 h104 q104 => ?_)
                unfold BS_perform_213_1
                refine wp_if (fun _ => ?_) (fun hc => absurd (by decide) hc)
                unfold BS_perform_263_1
                exact ⟨_, rfl, Cs.le h104 (by omega)⟩
            · refine wp_if (fun hc => absurd hc (by decide)) (fun _ => ?_)
              refine wp_vV (sS_phraseIn L xs hm (by omega) v1 44 h96 (by omega) (Int.le_refl _) (by omega)) (fun v105 g105 r105 h105 => ?_)
              refine wp_nO (sR_require L xs hm (by omega) 56 h105 (by omega) (Int.le_refl _) (by omega)) (fun g106 r106 h106 => ?_)
              refine wp_vV ((sX_condition L xs hm ihL ihF ihC ihU) a1 (by omega) (by first | decide | omega) (by first | decide | omega) (by first | decide | omega) h106 (by omega) (Int.le_refl _) (by omega)) (fun v107 g107 r107 h107 => ?_)
              refine wp_nT (sT_append L xs (by omega) v105 v107 h107) (fun g108 r108 h108 q108 => ?_)
              unfold BS_perform_213_1
              refine wp_if (fun _ => ?_) (fun hc => absurd (by decide) hc)
              unfold BS_perform_263_1
              exact ⟨_, rfl, Cs.le h108 (by omega)⟩
          · refine wp_if (fun hc => absurd hc (by decide)) (fun _ => ?_)
            refine wp_vB (sR_isReserved L xs (by omega) 23 1 h96.1) ?_ (fun f109 => ?_)
            · refine wp_if (fun _ => ?_) (fun hc => absurd (by decide) hc)
              unfold BS_perform_116
              refine wp_vB (sR_isReserved L xs (by omega) 56 0 h96.1) ?_ (fun f110 => ?_)
              · refine wp_if (fun _ => ?_) (fun hc => absurd (by decide) hc)
                refine wp_vB (sR_isReserved L xs (by omega) 57 0 h96.1) ?_ (fun f111 => ?_)
                · refine wp_if (fun _ => ?_) (fun hc => absurd (by decide) hc)
                  unfold BS_perform_213
                  refine wp_if (fun _ => ?_) (fun hc => absurd (by decide) hc)
                  unfold BS_perform_263
                  exact ⟨_, rfl, Cs.le h96 (by omega)⟩
                · refine wp_if (fun hc => absurd hc (by decide)) (fun _ => ?_)
                  refine wp_vV (sS_varying L xs hm (by omega) v1 h96 (by omega) (Int.le_refl _) (by omega)) (fun v112 g112 r112 h112 => ?_)
                  refine wp_nO (sR_require L xs hm (by omega) 56 h112 (by omega) (Int.le_refl _) (by omega)) (fun g113 r113 h113 => ?_)
                  refine wp_vV ((sX_condition L xs hm ihL ihF ihC ihU) a1 (by omega) (by first | decide | omega) (by first | decide | omega) (by first | decide | omega) h113 (by omega) (Int.le_refl _) (by omega)) (fun v114 g114 r114 h114 => ?_)
                  refine wp_nT (sT_append L xs (by omega) v112 v114 h114) (fun g115 r115 h115 q115 => ?_)
                  unfold BS_perform_213_1
                  refine wp_if (fun _ => ?_) (fun hc => absurd (by decide) hc)
                  unfold BS_perform_263_1
                  exact ⟨_, rfl, Cs.le h115 (by omega)⟩
              · refine wp_if (fun hc => absurd hc (by decide)) (fun _ => ?_)
                refine wp_vV (sS_phraseIn L xs hm (by omega) v1 44 h96 (by omega) (Int.le_refl _) (by omega)) (fun v116 g116 r116 h116 => ?_)
                refine wp_nO (sR_require L xs hm (by omega) 56 h116 (by omega) (Int.le_refl _) (by omega)) (fun g117 r117 h117 => ?_)
                refine wp_vV ((sX_condition L xs hm ihL ihF ihC ihU) a1 (by omega) (by first | decide | omega) (by first | decide | omega) (by first | decide | omega) h117 (by omega) (Int.le_refl _) (by omega)) (fun v118 g118 r118 h118 => ?_)
                refine wp_nT (sT_append L xs (by omega) v116 v118 h118) (fun g119 r119 h119 q119 => ?_)
                unfold BS_perform_213_1
                refine wp_if (fun _ => ?_) (fun hc => absurd (by decide) hc)
                unfold BS_perform_263_1
                exact ⟨_, rfl, Cs.le h119 (by omega)⟩
            · refine wp_if (fun hc => absurd hc (by decide)) (fun _ => ?_)
              unfold BS_perform_108
              refine wp_nO (sS_times L xs hm (by omega) v1 h96 (by omega) (Int.le_refl _) (by omega)) (fun g120 r120 h120 => ?_)
              unfold BS_perform_213
              refine wp_if (fun _ => ?_) (fun hc => absurd (by decide) hc)
              unfold BS_perform_263
              exact ⟨_, rfl, Cs.le h120 (by omega)⟩
        · refine wp_if (fun _ => ?_) (fun hc => absurd (by decide) hc)
          unfold BS_perform_108
          refine wp_nO (sS_times L xs hm (by omega) v1 h96 (by omega) (Int.le_refl _) (by omega)) (fun g121 r121 h121 => ?_)
          unfold BS_perform_213
          refine wp_if (fun _ => ?_) (fun hc => absurd (by decide) hc)
          unfold BS_perform_263
          exact ⟨_, rfl, Cs.le h121 (by omega)⟩
    · refine wp_if (fun _ => ?_) (fun hc => absurd (by decide) hc)
      unfold BS_perform_35
      unfold BS_perform_36
      refine wp_if (fun _ => ?_) (fun hc => absurd (by decide) hc)
      unfold BS_perform_73
      refine wp_vB (sR_isKind L xs (by omega) 2 h1.1) ?_ (fun f122 => ?_)
      · refine wp_if (fun hc => absurd hc (by decide)) (fun _ => ?_)
        refine wp_vB (sR_isKind L xs (by omega) 1 h1.1) ?_ (fun f123 => ?_)
        · refine wp_if (fun _ => ?_) (fun hc => absurd (by decide) hc)
          unfold BS_perform_116
          refine wp_vB (sR_isReserved L xs (by omega) 56 0 h1.1) ?_ (fun f124 => ?_)
          · refine wp_if (fun _ => ?_) (fun hc => absurd (by decide) hc)
            refine wp_vB (sR_isReserved L xs (by omega) 57 0 h1.1) ?_ (fun f125 => ?_)
            · refine wp_if (fun _ => ?_) (fun hc => absurd (by decide) hc)
              unfold BS_perform_213
              refine wp_if (fun hc => absurd hc (by decide)) (fun _ => ?_)
              have ej126 := i32_inc (x := a1) (by omega)
              refine wp_vV (ihL 40 (a1 + 1) (by omega) (by first | decide | omega) (by first | decide | omega) (by first | decide | omega) h1 (by omega) (Int.le_refl _) (by omega)) (fun v126 g126 r126 h126 => ?_)
              refine wp_nT (sT_append L xs (by omega) v1 v126 h126) (fun g127 r127 h127 q127 => ?_)
              refine wp_nO (sR_require L xs hm (by omega) 74 h127 (by omega) (Int.le_refl _) (by omega)) (fun g128 r128 h128 => ?_)
              refine wp_nT (sT_set L xs (by omega) v1 1 1 h128) (fun g129 r129 h129 q129 => ?_)
              refine wp_nT (sT_set L xs (by omega) v1 3 1 h129) (fun g130 r130 h130 q130 => ?_)
              unfold BS_perform_263
              exact ⟨_, rfl, Cs.le h130 (by omega)⟩
            · refine wp_if (fun hc => absurd hc (by decide)) (fun _ => ?_)
              refine wp_vV (sS_varying L xs hm (by omega) v1 h1 (by omega) (Int.le_refl _) (by omega)) (fun v131 g131 r131 h131 => ?_)
              refine wp_nO (sR_require L xs hm (by omega) 56 h131 (by omega) (Int.le_refl _) (by omega)) (fun g132 r132 h132 => ?_)
              refine wp_vV ((sX_condition L xs hm ihL ihF ihC ihU) a1 (by omega) (by first | decide | omega) (by first | decide | omega) (by first | decide | omega) h132 (by omega) (Int.le_refl _) (by omega)) (fun v133 g133 r133 h133 => ?_)
              refine wp_nT (sT_append L xs (by omega) v131 v133 h133) (fun g134 r134 h134 q134 => ?_)
              unfold BS_perform_213_1
              refine wp_if (fun hc => absurd hc (by decide)) (fun _ => ?_)
              have ej135 := i32_inc (x := a1) (by omega)
              refine wp_vV (ihL 40 (a1 + 1) (by omega) (by first | decide | omega) (by first | decide | omega) (by first | decide | omega) h134 (by omega) (Int.le_refl _) (by omega)) (fun v135 g135 r135 h135 => ?_)
              refine wp_nT (sT_append L xs (by omega) v1 v135 h135) (fun g136 r136 h136 q136 => ?_)
              refine wp_nO (sR_require L xs hm (by omega) 74 h136 (by omega) (Int.le_refl _) (by omega)) (fun g137 r137 h137 => ?_)
              refine wp_nT (sT_set L xs (by omega) v1 1 1 h137) (fun g138 r138 h138 q138 => ?_)
              refine wp_nT (sT_set L xs (by omega) v1 3 1 h138) (fun g139 r139 h139 q139 => ?_)
              unfold BS_perform_263_1
              exact ⟨_, rfl, Cs.le h139 (by omega)⟩
          · refine wp_if (fun hc => absurd hc (by decide)) (fun _ => ?_)
            refine wp_vV (sS_phraseIn L xs hm (by omega) v1 44 h1 (by omega) (Int.le_refl _) (by omega)) (fun v140 g140 r140 h140 => ?_)
            refine wp_nO (sR_require L xs hm (by omega) 56 h140 (by omega) (Int.le_refl _) (by omega)) (fun g141 r141 h141 => ?_)
            refine wp_vV ((sX_condition L xs hm ihL ihF ihC ihU) a1 (by omega) (by first | decide | omega) (by first | decide | omega) (by first | decide | omega) h141 (by omega) (Int.le_refl _) (by omega)) (fun v142 g142 r142 h142 => ?_)
            refine wp_nT (sT_append L xs (by omega) v140 v142 h142) (fun g143 r143 h143 q143 => ?_)
            unfold BS_perform_213_1
            refine wp_if (fun hc => absurd hc (by decide)) (fun _ => ?_)
            have ej144 := i32_inc (x := a1) (by omega)
            refine wp_vV (ihL 40 (a1 + 1) (by omega) (by first | decide | omega) (by first | decide | omega) (by first | decide | omega) h143 (by omega) (Int.le_refl _) (by omega)) (fun v144 g144 r144 h144 => ?_)
            refine wp_nT (sT_append L xs (by omega) v1 v144 h144) (fun g145 r145 h145 q145 => ?_)
            refine wp_nO (sR_require L xs hm (by omega) 74 h145 (by omega) (Int.le_refl _) (by omega)) (fun g146 r146 h146 => ?_)
            refine wp_nT (sT_set L xs (by omega) v1 1 1 h146) (fun g147 r147 h147 q147 => ?_)
            refine wp_nT (sT_set L xs (by omega) v1 3 1 h147) (fun g148 r148 h148 q148 => ?_)
            unfold BS_perform_263_1
            exact ⟨_, rfl, Cs.le h148 (by omega)⟩
        · refine wp_if (fun hc => absurd hc (by decide)) (fun _ => ?_)
          refine wp_vB (sR_isReserved L xs (by omega) 23 1 h1.1) ?_ (fun f149 => ?_)
          · refine wp_if (fun _ => ?_) (fun hc => absurd (by decide) hc)
            unfold BS_perform_116
            refine wp_vB (sR_isReserved L xs (by omega) 56 0 h1.1) ?_ (fun f150 => ?_)
            · refine wp_if (fun _ => ?_) (fun hc => absurd (by decide) hc)
              refine wp_vB (sR_isReserved L xs (by omega) 57 0 h1.1) ?_ (fun f151 => ?_)
              · refine wp_if (fun _ => ?_) (fun hc => absurd (by decide) hc)
                unfold BS_perform_213
                refine wp_if (fun hc => absurd hc (by decide)) (fun _ => ?_)
                have ej152 := i32_inc (x := a1) (by omega)
                refine wp_vV (ihL 40 (a1 + 1) (by omega) (by first | decide | omega) (by first | decide | omega) (by first | decide | omega) h1 (by omega) (Int.le_refl _) (by omega)) (fun v152 g152 r152 h152 => ?_)
                refine wp_nT (sT_append L xs (by omega) v1 v152 h152) (fun g153 r153 h153 q153 => ?_)
                refine wp_nO (sR_require L xs hm (by omega) 74 h153 (by omega) (Int.le_refl _) (by omega)) (fun g154 r154 h154 => ?_)
                refine wp_nT (sT_set L xs (by omega) v1 1 1 h154) (fun g155 r155 h155 q155 => ?_)
                refine wp_nT (sT_set L xs (by omega) v1 3 1 h155) (fun g156 r156 h156 q156 => ?_)
                unfold BS_perform_263
                exact ⟨_, rfl, Cs.le h156 (by omega)⟩
              · refine wp_if (fun hc => absurd hc (by decide)) (fun _ => ?_)
                refine wp_vV (sS_varying L xs hm (by omega) v1 h1 (by omega) (Int.le_refl _) (by omega)) (fun v157 g157 r157 h157 => ?_)
                refine wp_nO (sR_require L xs hm (by omega) 56 h157 (by omega) (Int.le_refl _) (by omega)) (fun g158 r158 h158 => ?_)
                refine wp_vV ((sX_condition L xs hm ihL ihF ihC ihU) a1 (by omega) (by first | decide | omega) (by first | decide | omega) (by first | decide | omega) h158 (by omega) (Int.le_refl _) (by omega)) (fun v159 g159 r159 h159 => ?_)
                refine wp_nT (sT_append L xs (by omega) v157 v159 h159) (fun g160 r160 h160 q160 => ?_)
                unfold BS_perform_213_1
                refine wp_if (fun hc => absurd hc (by decide)) (fun _ => ?_)
                have ej161 := i32_inc (x := a1) (by omega)
                refine wp_vV (ihL 40 (a1 + 1) (by omega) (by first | decide | omega) (by first | decide | omega) (by first | decide | omega) h160 (by omega) (Int.le_refl _) (by omega)) (fun v161 g161 r161 h161 => ?_)
                refine wp_nT (sT_append L xs (by omega) v1 v161 h161) (fun g162 r162 h162 q162 => ?_)
                refine wp_nO (sR_require L xs hm (by omega) 74 h162 (by omega) (Int.le_refl _) (by omega)) (fun g163 r163 h163 => ?_)
                refine wp_nT (sT_set L xs (by omega) v1 1 1 h163) (fun g164 r164 h164 q164 => ?_)
                refine wp_nT (sT_set L xs (by omega) v1 3 1 h164) (fun g165 r165 h165 q165 => ?_)
                unfold BS_perform_263_1
                exact ⟨_, rfl, Cs.le h165 (by omega)⟩
            · refine wp_if (fun hc => absurd hc (by decide)) (fun _ => ?_)
              refine wp_vV (sS_phraseIn L xs hm (by omega) v1 44 h1 (by omega) (Int.le_refl _) (by omega)) (fun v166 g166 r166 h166 => ?_)
              refine wp_nO (sR_require L xs hm (by omega) 56 h166 (by omega) (Int.le_refl _) (by omega)) (fun g167 r167 h167 => ?_)
              refine wp_vV ((sX_condition L xs hm ihL ihF ihC ihU) a1 (by omega) (by first | decide | omega) (by first | decide | omega) (by first | decide | omega) h167 (by omega) (Int.le_refl _) (by omega)) (fun v168 g168 r168 h168 => ?_)
              refine wp_nT (sT_append L xs (by omega) v166 v168 h168) (fun g169 r169 h169 q169 => ?_)
              unfold BS_perform_213_1
              refine wp_if (fun hc => absurd hc (by decide)) (fun _ => ?_)
              have ej170 := i32_inc (x := a1) (by omega)
              refine wp_vV (ihL 40 (a1 + 1) (by omega) (by first | decide | omega) (by first | decide | omega) (by first | decide | omega) h169 (by omega) (Int.le_refl _) (by omega)) (fun v170 g170 r170 h170 => ?_)
              refine wp_nT (sT_append L xs (by omega) v1 v170 h170) (fun g171 r171 h171 q171 => ?_)
              refine wp_nO (sR_require L xs hm (by omega) 74 h171 (by omega) (Int.le_refl _) (by omega)) (fun g172 r172 h172 => ?_)
              refine wp_nT (sT_set L xs (by omega) v1 1 1 h172) (fun g173 r173 h173 q173 => ?_)
              refine wp_nT (sT_set L xs (by omega) v1 3 1 h173) (fun g174 r174 h174 q174 => ?_)
              unfold BS_perform_263_1
              exact ⟨_, rfl, Cs.le h174 (by omega)⟩
          · refine wp_if (fun hc => absurd hc (by decide)) (fun _ => ?_)
            unfold BS_perform_108
            refine wp_nO (sS_times L xs hm (by omega) v1 h1 (by omega) (Int.le_refl _) (by omega)) (fun g175 r175 h175 => ?_)
            unfold BS_perform_213
            refine wp_if (fun hc => absurd hc (by decide)) (fun _ => ?_)
            have ej176 := i32_inc (x := a1) (by omega)
            refine wp_vV (ihL 40 (a1 + 1) (by omega) (by first | decide | omega) (by first | decide | omega) (by first | decide | omega) h175 (by omega) (Int.le_refl _) (by omega)) (fun v176 g176 r176 h176 => ?_)
            refine wp_nT (sT_append L xs (by omega) v1 v176 h176) (fun g177 r177 h177 q177 => ?_)
            refine wp_nO (sR_require L xs hm (by omega) 74 h177 (by omega) (Int.le_refl _) (by omega)) (fun g178 r178 h178 => ?_)
            refine wp_nT (sT_set L xs (by omega) v1 1 1 h178) (fun g179 r179 h179 q179 => ?_)
            refine wp_nT (sT_set L xs (by omega) v1 3 1 h179) (fun g180 r180 h180 q180 => ?_)
            unfold BS_perform_263
            exact ⟨_, rfl, Cs.le h180 (by omega)⟩
      · refine wp_if (fun _ => ?_) (fun hc => absurd (by decide) hc)
        unfold BS_perform_108
        refine wp_nO (sS_times L xs hm (by omega) v1 h1 (by omega) (Int.le_refl _) (by omega)) (fun g181 r181 h181 => ?_)
        unfold BS_perform_213
        refine wp_if (fun hc => absurd hc (by decide)) (fun _ => ?_)
        have ej182 := i32_inc (x := a1) (by omega)
        refine wp_vV (ihL 40 (a1 + 1) (by omega) (by first | decide | omega) (by first | decide | omega) (by first | decide | omega) h181 (by omega) (Int.le_refl _) (by omega)) (fun v182 g182 r182 h182 => ?_)
        refine wp_nT (sT_append L xs (by omega) v1 v182 h182) (fun g183 r183 h183 q183 => ?_)
        refine wp_nO (sR_require L xs hm (by omega) 74 h183 (by omega) (Int.le_refl _) (by omega)) (fun g184 r184 h184 => ?_)
        refine wp_nT (sT_set L xs (by omega) v1 1 1 h184) (fun g185 r185 h185 q185 => ?_)
        refine wp_nT (sT_set L xs (by omega) v1 3 1 h185) (fun g186 r186 h186 q186 => ?_)
        unfold BS_perform_263
        exact ⟨_, rfl, Cs.le h186 (by omega)⟩
