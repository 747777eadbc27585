/-! The class's parse, on the first machine. -/
theorem sC_checkEndN (L : Nat) (xs : Nat → Int32) {m d : Nat} (hm : 4294967296 ≤ m) (hd : 2 ≤ d) {b bq : Int} {g : a2_G} {r : a2_A} (h : Cs b g r) (hb : b ≤ 3250) (hq : b + (0) ≤ bq) : wp (ev L xs (m + 1) d nC_checkEnd [.ref cC] g r) (kO bq) kN := by
  obtain ⟨d, rfl⟩ : ∃ e, d = e + 1 := ⟨d - 1, by omega⟩
  rw [qC_checkEnd]
  refine wp_vP (sU_state L xs (by omega) h.1) (fun v1 _ => ?_)
  refine wp_if (fun _ => ?_) (fun _ => ?_)
  · unfold BC_checkEnd_28
    unfold BC_checkEnd_29
    refine wp_vP (sU_openCount L xs (by omega) h.1) (fun v2 _ => ?_)
    refine wp_if (fun _ => ?_) (fun _ => ?_)
    · unfold BC_checkEnd_56
      refine wp_vP (sR_place L xs (by omega) h.1) (fun v3 _ => ?_)
      refine wp_nT (sR_note L xs (by omega) 1 v3 h) (fun g4 r4 h4 q4 => ?_)
      unfold BC_checkEnd_71
      exact ⟨rfl, Cs.le h4 (by omega)⟩
    · refine wp_vP (sU_openCount L xs (by omega) h.1) (fun v5 _ => ?_)
      refine wp_if (fun _ => ?_) (fun _ => ?_)
      · unfold BC_checkEnd_71
        exact ⟨rfl, Cs.le h (by omega)⟩
      · refine wp_if (fun hc => absurd hc (by decide)) (fun _ => ?_)
        unfold BC_checkEnd_56
        refine wp_vP (sR_place L xs (by omega) h.1) (fun v6 _ => ?_)
        refine wp_nT (sR_note L xs (by omega) 1 v6 h) (fun g7 r7 h7 q7 => ?_)
        unfold BC_checkEnd_71
        exact ⟨rfl, Cs.le h7 (by omega)⟩
  · refine wp_if (fun _ => ?_) (fun _ => ?_)
    · unfold BC_checkEnd_28
      unfold BC_checkEnd_29
      refine wp_vP (sU_openCount L xs (by omega) h.1) (fun v8 _ => ?_)
      refine wp_if (fun _ => ?_) (fun _ => ?_)
      · unfold BC_checkEnd_56
        refine wp_vP (sR_place L xs (by omega) h.1) (fun v9 _ => ?_)
        refine wp_nT (sR_note L xs (by omega) 1 v9 h) (fun g10 r10 h10 q10 => ?_)
        unfold BC_checkEnd_71
        exact ⟨rfl, Cs.le h10 (by omega)⟩
      · refine wp_vP (sU_openCount L xs (by omega) h.1) (fun v11 _ => ?_)
        refine wp_if (fun _ => ?_) (fun _ => ?_)
        · unfold BC_checkEnd_71
          exact ⟨rfl, Cs.le h (by omega)⟩
        · refine wp_if (fun hc => absurd hc (by decide)) (fun _ => ?_)
          unfold BC_checkEnd_56
          refine wp_vP (sR_place L xs (by omega) h.1) (fun v12 _ => ?_)
          refine wp_nT (sR_note L xs (by omega) 1 v12 h) (fun g13 r13 h13 q13 => ?_)
          unfold BC_checkEnd_71
          exact ⟨rfl, Cs.le h13 (by omega)⟩
    · refine wp_if (fun _ => ?_) (fun _ => ?_)
      · unfold BC_checkEnd_28
        unfold BC_checkEnd_29
        refine wp_vP (sU_openCount L xs (by omega) h.1) (fun v14 _ => ?_)
        refine wp_if (fun _ => ?_) (fun _ => ?_)
        · unfold BC_checkEnd_56
          refine wp_vP (sR_place L xs (by omega) h.1) (fun v15 _ => ?_)
          refine wp_nT (sR_note L xs (by omega) 1 v15 h) (fun g16 r16 h16 q16 => ?_)
          unfold BC_checkEnd_71
          exact ⟨rfl, Cs.le h16 (by omega)⟩
        · refine wp_vP (sU_openCount L xs (by omega) h.1) (fun v17 _ => ?_)
          refine wp_if (fun _ => ?_) (fun _ => ?_)
          · unfold BC_checkEnd_71
            exact ⟨rfl, Cs.le h (by omega)⟩
          · refine wp_if (fun hc => absurd hc (by decide)) (fun _ => ?_)
            unfold BC_checkEnd_56
            refine wp_vP (sR_place L xs (by omega) h.1) (fun v18 _ => ?_)
            refine wp_nT (sR_note L xs (by omega) 1 v18 h) (fun g19 r19 h19 q19 => ?_)
            unfold BC_checkEnd_71
            exact ⟨rfl, Cs.le h19 (by omega)⟩
      · unfold BC_checkEnd_29
        refine wp_vP (sU_openCount L xs (by omega) h.1) (fun v20 _ => ?_)
        refine wp_if (fun _ => ?_) (fun _ => ?_)
        · unfold BC_checkEnd_56
          refine wp_vP (sR_place L xs (by omega) h.1) (fun v21 _ => ?_)
          refine wp_nT (sR_note L xs (by omega) 1 v21 h) (fun g22 r22 h22 q22 => ?_)
          unfold BC_checkEnd_71
          exact ⟨rfl, Cs.le h22 (by omega)⟩
        · refine wp_vP (sU_openCount L xs (by omega) h.1) (fun v23 _ => ?_)
          refine wp_if (fun _ => ?_) (fun _ => ?_)
          · unfold BC_checkEnd_71
            exact ⟨rfl, Cs.le h (by omega)⟩
          · refine wp_if (fun _ => ?_) (fun hc => absurd (by decide) hc)
            unfold BC_checkEnd_71
            exact ⟨rfl, Cs.le h (by omega)⟩
theorem cpS.one {C : Nat → Prop} {c : Nat} (h : c < 9000) (hC : C c) : cpS C [.ref c] := fun v hv k hk => by
  rw [List.mem_singleton.mp hv] at hk
  cases hk
  exact Or.inl ⟨h, hC⟩
theorem sR_startX (L : Nat) (xs : Nat → Int32) {m d : Nat} (hd : 1 ≤ d) {g : a2_G} {r : a2_A} (h : CI g r) : wp (ev L xs (m + 1) d nR_start [.ref cR] g r) (fun o g' r' => o = none ∧ CI g' r' ∧ g' = upd (upd g fR_at 0) fR_faultSize 0 ∧ r' = r) kN := by
  obtain ⟨d, rfl⟩ : ∃ e, d = e + 1 := ⟨d - 1, by omega⟩
  have h1 := sR_start L xs (m := m) (d := d + 1) hd h
  rw [qR_start] at h1 ⊢
  exact ⟨rfl, h1.2, rfl, rfl⟩
theorem sT_startX (L : Nat) (xs : Nat → Int32) {m d : Nat} (hm : 4294967296 ≤ m) (hd : 2 ≤ d) {g : a2_G} {r : a2_A} (h : CI g r) : wp (ev L xs (m + 1) d nT_start [.ref cT] g r) (fun o g' r' => o = none ∧ Cs 1 g' r' ∧ cpF cpTT g r g' r') kN := by
  refine wp_mono (cp_w cp_T (cpS.one (by decide) rfl) (sT_start L xs hm hd h)) (fun o g' r' hq => ⟨hq.1.1, hq.1.2, hq.2⟩) (fun _ _ _ hx => hx.1)
theorem sC_startX (L : Nat) (xs : Nat → Int32) {m d : Nat} (hd : 2 ≤ d) {b : Int} {g : a2_G} {r : a2_A} (h : Cs b g r) : wp (ev L xs (m + 1) d nC_start [.ref cC] g r) (fun o g' r' => o = none ∧ Cs b g' r' ∧ g' = upd g fU_size 0 ∧ r' = r) kN := by
  obtain ⟨d, rfl⟩ : ∃ e, d = e + 1 := ⟨d - 1, by omega⟩
  obtain ⟨d, rfl⟩ : ∃ e, d = e + 1 := ⟨d - 1, by omega⟩
  have h1 := sU_start L xs (m := m) (d := d + 1) (by omega) h
  rw [qC_start]
  rw [qU_start] at h1 ⊢
  exact ⟨rfl, h1.2.1, rfl, rfl⟩
/-- the class's words -/
def wR (g : a2_G) (r : a2_A) : Ws := ((r fR_kinds).2, (r fR_values).2, (g fR_size).toInt.toNat)
/-- how the class's parse ends: with its tree, numbered, or with faults -/
def CF (w : Ws) (c0 : CU) (o : am_O) (g : a2_G) (r : a2_A) : Prop := (g fR_faultSize ≠ 0 ∧ kz0 g ∧ ∃ k, o = .inr (11, k)) ∨ (g fR_faultSize = 0 ∧ o = .inl (some (.int (g fT_units))) ∧ ∃ y, Rx w true c0 x0 0 0 y ∧ oE y.1 = false ∧ TCF y g r)
/-- how the class's parse ends -/
def qP (rho : Nat → Nat) (g : a2_G) (r : a2_A) (h : am_H) (o : am_O) (h' : am_H) : Prop := ∃ rho' g' r', ((∃ v : Int32, o = .inl (some (.int v))) ∨ ∃ k, o = .inr (11, k)) ∧ hN cpCC rho g r h (if (g fR_size).toInt = 0 then 1 else 1501) rho' g' r' h' ∧ CI g' r' ∧ g' fR_size = 0 ∧ ∃ c0 x, oN c0 = 0 ∧ zX (wR g r) c0 0 0 x ∧ g' fR_faultSize = zN x ∧ CF (wR g r) c0 o g' r'
theorem hy_c42a : nm_ct.lookup ("CobolParser", 62) = some (43, 0) := by decide +kernel
theorem hy_c42b : nm_ct.lookup ("CobolParser", 65) = some (44, 0) := by decide +kernel
theorem hy_c42c : nm_ct.lookup ("CobolParser", 66) = some (46, 0) := by decide +kernel
theorem hy_c42d : nm_ct.lookup ("CobolParser", 67) = some (48, 0) := by decide +kernel
theorem hy_c42e : nm_ct.lookup ("CobolParser", 70) = some (49, 0) := by decide +kernel
theorem hy_c42f : nm_ct.lookup ("CobolParser", 75) = some (150, 0) := by decide +kernel
theorem hy_c42g : nm_ct.lookup ("CobolParser", 78) = some (151, 0) := by decide +kernel
theorem hy_c42h : nm_ct.lookup ("CobolParser", 81) = some (152, 0) := by decide +kernel
theorem hy_f42a : nm_fl.lookup ("CobolParser", 10) = some (0, 0, .object "CobolParser$Row", true) := (p1_flk1 10).trans rfl
theorem hy_f42b : nm_fl.lookup ("CobolParser", 19) = some (0, 1, .object "CobolParser$Tree", true) := (p1_flk1 19).trans rfl
theorem hy_f42c : nm_fl.lookup ("CobolParser", 46) = some (0, 2, .object "CobolParser$Clauses", true) := (p1_flk1 46).trans rfl
section
variable {L : Nat} {xs : Nat → Int32} {rho0 : Nat → Nat} {g0 : a2_G} {r0 : a2_A} {h0 : am_H}
theorem hy_end {c0 c : CU} {x : Xs} {nf : Int32} {p un : Nat} (h00 : oN c0 = 0) {b : Int} {rho : Nat → Nat} {g : a2_G} {r : a2_A} {h : am_H} {t : Nat} {v1 v2 : Option Value} (hC : CY (wR g0 r0) nf p c x g r) (hRx : ∀ y, nf = 0 → Rx (wR g0 r0) true c x p un y → Rx (wR g0 r0) true c0 x0 0 0 y) (hZ : ∀ x, zX (wR g0 r0) c p nf x → zX (wR g0 r0) c0 0 0 x) (he : ¬ (p < (wR g0 r0).2.2 ∧ nf.toInt < 20)) (hc : Cs b g r) (hb : b ≤ 3250) (hn : hN cpCC rho0 g0 r0 h0 t rho g r h) (ht : t + 1 ≤ if (g0 fR_size).toInt = 0 then 1 else 1501) : hG L xs 681 nm_m42 (qP rho0 g0 r0 h0) (none, 64, [some (.ref (rho0 0)), v1, v2], [], h) := by
  refine hy_r (p1_a1 L xs) 1 (b := (65, [some (.ref (rho0 0)), v1, v2], [.ref (rho0 0)], h)) rfl ?_
  refine hy_gf rfl hy_f42c (cj := 6) rfl hn.1 (hn.rho 0 (by decide)) ?_
  refine hy_c (m := 4294967297) (d := 680) (as := []) (ci := 6) (rest := []) rfl hy_c42g rfl rfl rfl rfl (by decide) rfl (by decide) (by decide) hn.1 cp_C (cpS.one (by decide) (by unfold cpCC; decide)) (wp_pl (sC_checkEndN L xs (by decide) (by decide) hc hb (bq := b) (by omega)) (yC_end hC)) ?_ ?_ ?_
  · intro g' r' rho' h' hq hn'
    refine hy_r (p1_a1 L xs) 1 (b := (72, [some (.ref (rho0 0)), v1, v2], [.ref (rho0 0)], h')) rfl ?_
    have hn2 := hn.trans hn'
    refine hy_c (m := 4294967297) (d := 680) (as := []) (ci := 0) (rest := []) rfl hy_c42h rfl rfl rfl rfl (by decide) (by show _ = [Value.ref (rho' 0)]; rw [hn2.rho 0 (by decide)]) (by decide) (by decide) hn2.1 cp_C (cpS.one (by decide) (by unfold cpCC; decide)) (wp_pl (sP_finish L xs (by decide) (by decide) hq.1.2.1) (pl_and xP_finish (yP_finish hq.2.2.2 un))) ?_ ?_ ?_
    · intro g2 r2 rho2 h2 hq2
      obtain ⟨⟨⟨v, e⟩, -⟩, -⟩ := hq2
      cases e
    · intro v g2 r2 rho2 h2 hq2 hn3
      exact ⟨.inl (some (.int v)), h2, am_ri rfl rfl rfl, rho2, g2, r2, Or.inl ⟨v, rfl⟩, (hn2.trans hn3).le (by omega), hq2.1.2.1, hq2.1.2.2, c0, (c, nf), h00, hZ _ (zX.fin he), hq2.2.1.1.trans hq.2.2.1.1.2.2.2.2.2.2, Or.inr ⟨hq2.2.2.1, by rw [Value.int.inj (Option.some.inj hq2.2.2.2.1)], (c, x, un), hRx _ hq2.2.2.2.2.1 (Rx.fin (fun hp => he ⟨hp, by rw [hq2.2.2.2.2.1]; decide⟩)), hq2.2.2.2.2.2.1, hq2.2.2.2.2.2.2⟩⟩
    · intro x k g2 r2 rho2 h2 hq2 hn3
      refine ⟨.inr (x, k), h2, am_Go.fin (Or.inr (Or.inr (Or.inr (Or.inl ⟨72, _, _, h2, (x, k), rfl, ?_, rfl⟩)))), rho2, g2, r2, Or.inr ⟨k, by rw [hq2.1.1]⟩, (hn2.trans hn3).le (by omega), hq2.1.2.1, hq2.1.2.2, c0, (c, nf), h00, hZ _ (zX.fin he), hq2.2.1.1.trans hq.2.2.1.1.2.2.2.2.2.2, Or.inl ⟨hq2.2.2.1, hq2.2.2.2, k, by rw [hq2.1.1]⟩⟩
      intro q hq
      rw [show am_hs nm_m42 = [(40, 47, 50, 10)] from rfl] at hq
      rw [List.mem_singleton.mp hq]
      decide
  · intro v g' r' rho' h' hq hn'
    cases hq.1.1
  · intro x k g' r' rho' h' hx hn'
    exact hx.1.elim
theorem nf_1 {n : Int32} (h0 : 0 ≤ n.toInt) (h20 : n.toInt < 20) : n + 1 ≠ 0 := fun e => by
  have h1 : (n + 1).toInt = n.toInt + 1 := i32_inc (by omega)
  rw [e] at h1
  have h00 : (0 : Int32).toInt = 0 := rfl
  omega
theorem hy_loop {c0 : CU} (h00 : oN c0 = 0) : ∀ (n : Nat) (i : Int32) {rho : Nat → Nat} {g : a2_G} {r : a2_A} {h : am_H} {t : Nat} {v2 : Option Value} {nf : Int32} {p un : Nat} {c : CU} {x : Xs}, CY (wR g0 r0) nf p c x g r → (∀ y, nf = 0 → Rx (wR g0 r0) true c x p un y → Rx (wR g0 r0) true c0 x0 0 0 y) → (∀ x, zX (wR g0 r0) c p nf x → zX (wR g0 r0) c0 0 0 x) → i.toInt ≤ p → i.toInt = 1500 - (n : Int) → n ≤ 1500 → Cs (1 + 2 * i.toInt) g r → hN cpCC rho0 g0 r0 h0 t rho g r h → (t : Int) ≤ i.toInt → ((g0 fR_size).toInt = 0 → (g fR_size).toInt = 0 ∧ t = 0) → hG L xs 681 nm_m42 (qP rho0 g0 r0 h0) (none, 23, [some (.ref (rho0 0)), some (.int i), v2], [], h) := by
  intro n
  induction n with
  | zero =>
    intro i rho g r h t v2 nf p un c x hC hRx hZ hip hi hn hc hN' ht hz
    have hP := hC.1
    refine hy_r (p1_a1 L xs) 2 (b := (27, [some (.ref (rho0 0)), some (.int i), v2], [.int 1500, .int i], h)) rfl ?_
    refine hy_b (fun k => am_j1 (t := 64) rfl rfl (by rw [c2_ge]; show (1500 : Int) ≤ i.toInt; omega) k) ?_
    have hw5 := hP.1.2.2.2.2.2.1
    refine hy_end h00 hC hRx hZ (by omega) hc (by omega) hN' ?_
    split
    · rename_i h0
      have := (hz h0).2
      omega
    · omega
  | succ n ih =>
    intro i rho g r h t v2 nf p un c x hC hRx hZ hip hi hn hc hN' ht hz
    have hP := hC.1
    have hi1 : (i + Int32.ofInt 1).toInt = i.toInt + 1 := by
      rw [ad_eq]
      · rfl
      · show -2147483648 ≤ i.toInt + 1
        omega
      · show i.toInt + 1 < 2147483648
        omega
    refine hy_r (p1_a1 L xs) 2 (b := (27, [some (.ref (rho0 0)), some (.int i), v2], [.int 1500, .int i], h)) rfl ?_
    refine hy_b (fun k => am_j0 (t := 64) rfl rfl (by rw [Bool.eq_false_iff, ne_eq, c2_ge]; show ¬ (1500 : Int) ≤ i.toInt; omega) k) ?_
    refine hy_r (p1_a1 L xs) 1 (b := (31, [some (.ref (rho0 0)), some (.int i), v2], [.ref (rho0 0)], h)) rfl ?_
    refine hy_gf rfl hy_f42a (cj := 1) rfl hN'.1 (hN'.rho 0 (by decide)) ?_
    refine hy_c (m := 4294967297) (d := 680) (as := []) (ci := 1) (rest := []) rfl hy_c42d rfl rfl rfl rfl (by decide) rfl (by decide) (by decide) hN'.1 cp_C (cpS.one (by decide) (by unfold cpCC; decide)) (wp_pl (sR_goesOn L xs (by decide) hc.1) (xR_goesOn hP)) ?_ ?_ ?_
    · intro g' r' rho' h' hq
      obtain ⟨⟨v, e, -⟩, -⟩ := hq
      cases e
    · intro v g' r' rho' h' hq hn'
      obtain ⟨⟨v', e, hv, rfl, rfl⟩, e2, -, -⟩ := hq
      cases e
      have e3 := Value.int.inj (Option.some.inj e2)
      have hn2 := hN'.trans hn'
      rcases hv with rfl | ⟨rfl, hlt⟩
      · refine hy_b (fun k => am_i1 (t := 64) rfl rfl (by decide) k) ?_
        have he : ¬ (p < (wR g0 r0).2.2 ∧ nf.toInt < 20) := fun q => by
          rw [decide_eq_true q] at e3
          exact absurd e3 (by decide)
        refine hy_end h00 hC hRx hZ he hc (by omega) hn2 ?_
        split
        · rename_i h0
          have := (hz h0).2
          omega
        · omega
      · refine hy_b (fun k => am_i0 (t := 64) rfl rfl (by decide) k) ?_
        have hpn : p < (wR g0 r0).2.2 ∧ nf.toInt < 20 := by
          by_cases q : p < (wR g0 r0).2.2 ∧ nf.toInt < 20
          · exact q
          · rw [decide_eq_false q] at e3
            exact absurd e3 (by decide)
        have hz' : ¬ (g0 fR_size).toInt = 0 := fun h0 => by
          have h1 := (hz h0).1
          have h2 : (g' fR_at).toInt < (g' fR_size).toInt := hlt
          have h3 := hc.1.1.1
          omega
        refine hy_r (p1_a1 L xs) 1 (b := (41, [some (.ref (rho0 0)), some (.int i), v2], [.ref (rho0 0)], h')) rfl ?_
        refine hy_gf rfl hy_f42c (cj := 6) rfl hn2.1 (hn2.rho 0 (by decide)) ?_
        refine hy_c (m := 4294967297) (d := 680) (as := []) (ci := 6) (rest := []) rfl hy_c42e rfl rfl rfl rfl (by decide) rfl (by decide) (by decide) hn2.1 cp_C (cpS.one (by decide) (by unfold cpCC; decide)) (wp_pl (sC_readClause L xs (by decide) (by decide) hc (by omega) (bq := 1 + 2 * (i.toInt + 1)) (bx := 1 + 2 * (i.toInt + 1)) (by omega) (by omega)) (yC_turn hC hpn)) ?_ ?_ ?_
        · intro g2 r2 rho2 h2 hq2 hn3
          refine hy_r (p1_a1 L xs) 3 (b := (23, [some (.ref (rho0 0)), some (.int (i + Int32.ofInt 1)), v2], [], h2)) rfl ?_
          obtain ⟨hq2, q, x', ez, hPq, hfc⟩ := hq2
          have hpq := (zC_mc (wR g0 r0) c p).1 q false ez
          exact ih _ hPq (fun y e hx => hRx y (hfc e).1 (Rx.go hpn.1 ez (hfc e).2.1 (fun _ => (hfc e).2.2) hx)) (fun x hx => hZ x (zX.ok hpn ez hx)) (by omega) (by omega) (by omega) (by rw [hi1]; exact hq2.2) (hn2.trans hn3) (by omega) (fun h0 => absurd h0 hz')
        · intro v g2 r2 rho2 h2 hq2 hn3
          cases hq2.1.1
        · intro x k g2 r2 rho2 h2 hx hn3
          obtain ⟨⟨rfl, hc2⟩, b, ez, hPb, hkz⟩ := hx
          have hpb := (zC_mc (wR g0 r0) c p).2 b ez
          have hrc := rc_ge (w := wR g0 r0) _ b rfl
          refine hy_b (fun {r9} k9 => am_Go.step (Or.inr (Or.inr (Or.inr (Or.inr (Or.inr ⟨44, [some (.ref (rho0 0)), some (.int i), v2], [], h2, 10, k, 40, 47, 50, rfl, rfl, by decide, by decide, rfl⟩))))) k9) ?_
          refine hy_r (p1_a1 L xs) 2 (b := (52, [some (.ref (rho0 0)), some (.int i), some (.ref k)], [.ref (rho0 0)], h2)) rfl ?_
          have hn4 := hn2.trans hn3
          refine hy_gf rfl hy_f42a (cj := 1) rfl hn4.1 (hn4.rho 0 (by decide)) ?_
          refine hy_c (m := 4294967297) (d := 680) (as := []) (ci := 1) (rest := []) rfl hy_c42f rfl rfl rfl rfl (by decide) rfl (by decide) (by decide) hn4.1 cp_C (cpS.one (by decide) (by unfold cpCC; decide)) (wp_pl (sR_recover L xs (by decide) (by decide) hc2) (yR_recover (x := x) hPb hkz hC.2.2.1 hpn.2)) ?_ ?_ ?_
          · intro g3 r3 rho3 h3 hq3 hn5
            refine hy_r (p1_a1 L xs) 2 (b := (23, [some (.ref (rho0 0)), some (.int (i + Int32.ofInt 1)), some (.ref k)], [], h3)) rfl ?_
            exact ih (un := 0) _ hq3.2.2 (fun y e _ => absurd e (nf_1 hC.2.2.1 hpn.2)) (fun x hx => hZ x (zX.no hpn ez hx)) (by omega) (by omega) (by omega) (by rw [hi1]; exact hq3.1.2) (hn4.trans hn5) (by omega) (fun h0 => absurd h0 hz')
          · intro v g3 r3 rho3 h3 hq3 hn5
            cases hq3.1.1
          · intro x k g3 r3 rho3 h3 hx hn5
            exact hx.1.elim
    · intro x k g' r' rho' h' hx hn'
      exact hx.1.elim
theorem hy_parse (hR : a2_Rel nm_Y rho0 g0 r0 h0) (hc : CI g0 r0) : hG L xs 681 nm_m42 (qP rho0 g0 r0 h0) (none, 0, [some (.ref (rho0 0)), none, none], [], h0) := by
  refine hy_r (p1_a1 L xs) 1 (b := (1, [some (.ref (rho0 0)), none, none], [.ref (rho0 0)], h0)) rfl ?_
  refine hy_gf rfl hy_f42a (cj := 1) rfl hR rfl ?_
  refine hy_c (m := 4294967297) (d := 680) (as := []) (ci := 1) (rest := []) rfl hy_c42a rfl rfl rfl rfl (by decide) rfl (by decide) (by decide) hR cp_C (cpS.one (by decide) (by unfold cpCC; decide)) (sR_startX L xs (by decide) hc) ?_ ?_ ?_
  · intro g1 r1 rho1 h1 hq1 hn1
    refine hy_r (p1_a1 L xs) 1 (b := (8, [some (.ref (rho0 0)), none, none], [.ref (rho0 0)], h1)) rfl ?_
    refine hy_gf rfl hy_f42b (cj := 2) rfl hn1.1 (hn1.rho 0 (by decide)) ?_
    refine hy_c (m := 4294967297) (d := 680) (as := []) (ci := 2) (rest := []) rfl hy_c42b rfl rfl rfl rfl (by decide) rfl (by decide) (by decide) hn1.1 cp_C (cpS.one (by decide) (by unfold cpCC; decide)) (wp_pl (sT_startX L xs (by decide) (by decide) hq1.2.1) (yT_start (by have := hq1.2.1.2.2.1; omega) (by have := hq1.2.1.2.2.1; omega))) ?_ ?_ ?_
    · intro g2 r2 rho2 h2 hq2 hn2
      have hn3 := hn1.trans hn2
      refine hy_r (p1_a1 L xs) 1 (b := (15, [some (.ref (rho0 0)), none, none], [.ref (rho0 0)], h2)) rfl ?_
      refine hy_gf rfl hy_f42c (cj := 6) rfl hn3.1 (hn3.rho 0 (by decide)) ?_
      refine hy_c (m := 4294967297) (d := 680) (as := []) (ci := 6) (rest := []) rfl hy_c42c rfl rfl rfl rfl (by decide) rfl (by decide) (by decide) hn3.1 cp_C (cpS.one (by decide) (by unfold cpCC; decide)) (sC_startX L xs (by decide) hq2.1.2.1) ?_ ?_ ?_
      · intro g3 r3 rho3 h3 hq3 hn4
        refine hy_r (p1_a1 L xs) 2 (b := (23, [some (.ref (rho0 0)), some (.int 0), none], [], h3)) rfl ?_
        obtain ⟨-, hc1, rfl, rfl⟩ := hq1
        obtain ⟨⟨-, hc2, hF2⟩, hkz, hRc⟩ := hq2
        obtain ⟨-, hc3, rfl, rfl⟩ := hq3
        have e1 : g2 fR_size = g0 fR_size := hF2.1 _ (by unfold cpTT; decide)
        have e2 : r3 fR_kinds = r1 fR_kinds := hF2.2 _ (by unfold cpTT; decide)
        have e3 : r3 fR_values = r1 fR_values := hF2.2 _ (by unfold cpTT; decide)
        have e4 : g2 fR_at = 0 := hF2.1 fR_at (by unfold cpTT; decide)
        have e5 : g2 fR_faultSize = 0 := hF2.1 fR_faultSize (by unfold cpTT; decide)
        have hP : PS (wR g0 r1) 0 0 (mkC (upd g2 fU_size 0) r3) (upd g2 fU_size 0) r3 := CI.ps hc3.1 e4 e5 (by
          show ((r1 fR_kinds).2, (r1 fR_values).2, (g0 fR_size).toInt.toNat) = ((r3 fR_kinds).2, (r3 fR_values).2, (g2 fR_size).toInt.toNat)
          rw [e1, e2, e3])
        refine hy_loop (c0 := mkC (upd g2 fU_size 0) r3) rfl 1500 0 (x := x0) (un := 0) ⟨hP, hkz, by decide, fun _ => TS.start rfl hRc⟩ (fun _ _ e => e) (fun _ e => e) (by decide) rfl (by omega) hc3 (hn3.trans hn4) (by decide) (fun h0 => ⟨?_, rfl⟩)
        show (g2 fR_size).toInt = 0
        rw [e1]
        exact h0
      · intro v g3 r3 rho3 h3 hq3 hn4
        cases hq3.1
      · intro x k g3 r3 rho3 h3 hx hn4
        exact hx.elim
    · intro v g2 r2 rho2 h2 hq2 hn2
      cases hq2.1.1
    · intro x k g2 r2 rho2 h2 hx hn2
      exact hx.1.elim
  · intro v g1 r1 rho1 h1 hq1 hn1
    cases hq1.1
  · intro x k g1 r1 rho1 h1 hx hn1
    exact hx.elim
end
