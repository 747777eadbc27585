/-! Statements' when: the word WHEN stands there, so it passes it. -/
theorem sS_when20 (L : Nat) (xs : Nat → Int32) {m d : Nat} (hm : 4294967296 ≤ m) {N : Nat} (ihL : spL L xs m N) {b bq bx : Int} (nn : Int32) (hn0 : 0 ≤ nn.toInt) (hn1 : nn.toInt ≤ 40) (hn2 : 41 ≤ nn.toInt + (N + 1 : Nat)) (hd : 5 + 16 * (N + 1) ≤ d) (hb : b ≤ 3240) (hq : b + 1 ≤ bq) (hx : b + 0 ≤ bx) : ∀ (n k : Nat) (x1 x2 x3 : Int32) {g : a2_G} {r : a2_A}, 0 ≤ x3.toInt → 1500 ≤ x3.toInt + n → n < k → x1 = nn → Cs b g r → wp (BS_when_20 L xs (m + 1) d k x1 x2 x3 g r) (kV bq) (kX bx) := by
  have k15 : (1500 : Int32).toInt = 1500 := rfl
  have tail : ∀ (k : Nat) (x2 x3 : Int32) {g : a2_G} {r : a2_A}, Cs b g r → wp (BS_when_101 L xs (m + 1) d k nn x2 x3 g r) (kV bq) (kX bx) := by
    intro k x2 x3 g r h
    unfold BS_when_101
    have ej := i32_inc (x := nn) (by omega)
    refine wp_vV (ihL 40 (nn + 1) (by omega) (by omega) (by omega) (by omega) h (by omega) (Int.le_refl _) (by omega)) (fun v1 g1 r1 h1 => ?_)
    refine wp_nT (sT_append L xs (by omega) _ _ h1) (fun g2 r2 h2 q2 => ?_)
    exact ⟨_, rfl, h2.le (by omega)⟩
  intro n
  induction n with
  | zero =>
    intro k x1 x2 x3 g r hi0 hi1 hk hnn h
    subst hnn
    unfold BS_when_20
    refine wp_if (fun _ => tail k x2 x3 h) (fun hc => ?_)
    rw [c2_ge] at hc
    exfalso; omega
  | succ n ih =>
    intro k x1 x2 x3 g r hi0 hi1 hk hnn h
    subst hnn
    unfold BS_when_20
    refine wp_if (fun _ => tail k x2 x3 h) (fun hc => ?_)
    rw [c2_ge] at hc
    have ei := i32_inc (x := x3) (by omega)
    obtain ⟨k, rfl⟩ : ∃ q, k = q + 1 := ⟨k - 1, by omega⟩
    refine wp_vS (sR_skip L xs (by omega) _ h) (fun _ => ?_) (fun g1 r1 h1 => ?_)
    · exact wp_if (fun _ => tail _ x2 x3 h) (fun hc => absurd (by decide) hc)
    · refine wp_if (fun hc => absurd hc (by decide)) (fun _ => ?_)
      refine wp_vB (sR_isReserved L xs (by omega) _ _ h1.1) ?_ (fun f => ?_)
      · refine wp_if (fun _ => ?_) (fun hc => absurd (by decide) hc)
        refine wp_nO (sL_operandIn L xs hm (by omega) _ h1 (by omega) (Int.le_refl _) (by omega)) (fun g2 r2 h2 => ?_)
        unfold BS_when_95
        rw [lS_when_20]
        exact ih k _ _ _ (by omega) (by omega) (by omega) rfl (h2.le (by omega))
      · refine wp_if (fun hc => absurd hc (by decide)) (fun _ => ?_)
        refine wp_vP (sR_place L xs (by omega) h1.1) (fun v2 _ => ?_)
        refine wp_vT (sT_make L xs hm (by omega) _ _ _ h1 (by omega)) (fun v3 g3 r3 h3 q3 => ?_)
        refine wp_nT (sT_append L xs (by omega) _ _ h3) (fun g4 r4 h4 q4 => ?_)
        refine wp_nON (sR_advanceL L xs (by omega) h4 (q4.lt (q3.lt (f rfl).1))) (fun g5 r5 h5 => ?_)
        unfold BS_when_95
        rw [lS_when_20]
        exact ih k _ _ _ (by omega) (by omega) (by omega) rfl (h5.le (by omega))
theorem sS_when (L : Nat) (xs : Nat → Int32) {m : Nat} (hm : 4294967296 ≤ m) {N : Nat} (ihL : spL L xs m N) (ihF : spF L xs m N) (ihC : spC L xs m N) (ihU : spU L xs m N) : ∀ {d : Nat} (a1 : Int32) {b bq bx : Int} {g : a2_G} {r : a2_A}, 6 + 16 * (N + 1) ≤ d → 0 ≤ a1.toInt → a1.toInt ≤ 40 → 41 ≤ a1.toInt + (N + 1 : Nat) → Cs b g r → Rw g r 59 → b ≤ 3240 → b + (-1) ≤ bq → b + 0 ≤ bx → wp (ev L xs (m + 1) d nS_when [.ref cS, .int a1] g r) (kV bq) (kX bx) := by
  intro d a1 b bq bx g r hd hn0 hn1 hn2 h hw hb hq hx
  obtain ⟨d, rfl⟩ : ∃ e, d = e + 1 := ⟨d - 1, by omega⟩
  rw [qS_when]
  refine wp_vP (sR_place L xs (by omega) h.1) (fun v1 _ => ?_)
  refine wp_vT (sT_make L xs hm (by omega) _ _ _ h (by omega)) (fun v2 g2 r2 h2 q2 => ?_)
  unfold BS_when_20
  refine wp_if (fun hc => absurd hc (by decide)) (fun _ => ?_)
  refine wp_vS (sR_skip L xs (by omega) _ h2) (fun hn => absurd (q2.rw hw) hn) (fun g1 r1 h1 => ?_)
  refine wp_if (fun hc => absurd hc (by decide)) (fun _ => ?_)
  have l9 : ∀ (g9 : a2_G) (r9 : a2_A), BS_when_95 L xs (m + 1) d m a1 v2 0 g9 r9 = BS_when_20 L xs (m + 1) d (m - 1) a1 v2 (0 + 1) g9 r9 := fun g9 r9 => by
    have l8 := lS_when_20 L xs (m + 1) d (m - 1) a1 v2 (0 + 1) g9 r9
    rw [show m - 1 + 1 = m by omega] at l8
    exact l8
  refine wp_vB (sR_isReserved L xs (by omega) _ _ h1.1) ?_ (fun f => ?_)
  · refine wp_if (fun _ => ?_) (fun hc => absurd (by decide) hc)
    refine wp_nO (sL_operandIn L xs hm (by omega) _ h1 (by omega) (Int.le_refl _) (by omega)) (fun g3 r3 h3 => ?_)
    rw [l9]
    exact sS_when20 L xs hm ihL (b := b - 2) a1 hn0 hn1 hn2 (by omega) (by omega) (by omega) (by omega) 1500 (m - 1) _ _ _ (by decide) (by decide) (by omega) rfl (h3.le (by omega))
  · refine wp_if (fun hc => absurd hc (by decide)) (fun _ => ?_)
    refine wp_vP (sR_place L xs (by omega) h1.1) (fun v2 _ => ?_)
    refine wp_vT (sT_make L xs hm (by omega) _ _ _ h1 (by omega)) (fun v3 g3 r3 h3 q3 => ?_)
    refine wp_nT (sT_append L xs (by omega) _ _ h3) (fun g4 r4 h4 q4 => ?_)
    refine wp_nON (sR_advanceL L xs (by omega) h4 (q4.lt (q3.lt (f rfl).1))) (fun g5 r5 h5 => ?_)
    rw [l9]
    exact sS_when20 L xs hm ihL (b := b - 2) a1 hn0 hn1 hn2 (by omega) (by omega) (by omega) (by omega) 1500 (m - 1) _ _ _ (by decide) (by decide) (by omega) rfl (h5.le (by omega))
