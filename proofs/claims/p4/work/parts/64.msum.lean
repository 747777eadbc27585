/-! The model's names, and its sums. -/
theorem upd_id {g : a2_G} {k : Nat} : upd g k (g k) = g := by
  funext j
  unfold upd
  by_cases h : j = k
  · rw [if_pos h, h]
  · rw [if_neg h]
theorem Mst.perm {b : Int} {s : Sg} {P P' : List Nat} {g : a2_G} {r : a2_A} (h : Mst b s P g r) (hp : P'.Perm P) : Mst b s P' g r := ⟨h.1, h.2.1, by
  obtain ⟨A, a1, a2, a3⟩ := h.2.2
  exact ⟨A, a1, hp.nodup_iff.mpr a2, fun t ht => a3 t (hp.mem_iff.mp ht)⟩⟩
/-- an array outside the forest is written -/
theorem Mst.awx {b : Int} {s : Sg} {P : List Nat} {g : a2_G} {r : a2_A} (h : Mst b s P g r) (q i : Nat) (x : Int32) (hq : q ∉ [fM_first, fM_last, fM_next, fM_above, fM_its]) (hx : q ∈ QN → In8 x) : Mst b s P g (aw r q i x) := by
  refine ⟨⟨h.1.1.aw _ _ _, h.1.2.1.aw _ _ _ hx (fun e => absurd (by rw [e]; decide) hq), h.1.2.2⟩, h.2.1, h.2.2.eq (aw_ne (fun e => ?_)) (aw_ne (fun e => ?_)) (aw_ne (fun e => ?_)) (aw_ne (fun e => ?_))⟩
  all_goals (rw [← e] at hq; exact absurd (by decide) hq)
/-- a register outside is written -/
theorem Mst.upx {b : Int} {s : Sg} {P : List Nat} {g : a2_G} {r : a2_A} (h : Mst b s P g r) (k : Nat) (x : Int32) (hk : k ∉ [fM_n, fM_faults, fM_at, fM_nodes, fM_bad, fM_failed, fM_size, fM_told]) (hx : k ∈ GN → In8 x) : Mst b s P (upd g k x) r := by
  have e : ∀ j, j ∈ [fM_n, fM_faults, fM_at, fM_nodes, fM_bad, fM_failed, fM_size, fM_told] → upd g k x j = g j := fun j hj => if_neg (fun (e : j = k) => hk (by rw [← e]; exact hj))
  unfold Mst MB
  rw [e fM_n (by decide), e fM_faults (by decide), e fM_at (by decide), e fM_nodes (by decide), e fM_bad (by decide), e fM_failed (by decide)]
  exact ⟨⟨h.1.1, h.1.2.1, h.1.2.2.1.up _ _ hx ⟨fun e => hk (by rw [← e]; decide), fun e => hk (by rw [← e]; decide)⟩, h.1.2.2.2⟩, h.2.1, h.2.2⟩
theorem tM_names6 (L : Nat) (xs : Nat → Int32) {m d : Nat} (hd : 2 ≤ d) {a : Int32} (x2 : Int32) {s : Sg} {P : List Nat} {g0 : a2_G} {r0 : a2_A} : ∀ (n k : Nat) {b : Int} (g : a2_G) (r : a2_A), (g fM_n).toInt ≤ (g fM_at).toInt + n → n < k → Mst b s P g r → g fM_bad = 0 → Mi g a → 0 < (g fM_at).toInt → b ≤ 1890 → En g0 r0 g r → wp (BM_names_6 L xs (m + 1) d k a x2 1 g r) (fun o g' r' => o = none ∧ En g0 r0 g' r' ∧ g' fM_bad = 0 ∧ (g fM_at).toInt ≤ (g' fM_at).toInt ∧ Mst (b + 1) s P g' r') kN := by
  intro n
  induction n with
  | zero =>
    intro k b g r hn hk h hb ha h0 hl hE
    have q := h.q
    have a1 := ha.1
    have a2 := ha.2
    have t : ∀ (v5 v4 : Int32), wp (BM_names_33 L xs (m + 1) d k a x2 1 v4 v5 a g r) (fun o g' r' => o = none ∧ En g0 r0 g' r' ∧ g' fM_bad = 0 ∧ (g fM_at).toInt ≤ (g' fM_at).toInt ∧ Mst (b + 1) s P g' r') kN := by
      intro v5 v4
      unfold BM_names_33
      refine wp_nH (tM_child4 L xs (by omega) _ _ _ h ha (by omega)) (fun g1 r1 n1 b1 t1 h1 => ?_)
      have en := n1.1.1 fM_n (by decide)
      refine wp_vB (tM_isKind L xs (by omega) _ h1 h1.a0) ?_ (fun f => ?_)
      · refine wp_if (fun _ => ?_) (fun hc => absurd (by decide) hc)
        unfold BM_names_66
        obtain ⟨k, rfl⟩ : ∃ e, k = e + 1 := ⟨k - 1, by omega⟩
        rw [lM_names_6, Int32.add_zero, upd_id]
        unfold BM_names_6
        refine wp_if (fun _ => ?_) (fun hc => absurd (by decide) hc)
        exact ⟨rfl, hE.trans n1, b1.trans hb, by rw [t1]; exact Int.le_refl _, h1⟩
      · have f := Mk_lt f
        rw [t1, en] at f
        exfalso; omega
    unfold BM_names_6
    refine wp_if (fun hc => absurd hc (by decide)) (fun _ => ?_)
    refine wp_if (fun _ => ?_) (fun _ => ?_)
    · exact wp_vP (tM_passed L xs (by omega) h h0 hb) (fun v1 _ => t _ _)
    · exact wp_vP (tM_passed L xs (by omega) h h0 hb) (fun v1 _ => t _ _)
  | succ n ih =>
    intro k b g r hn hk h hb ha h0 hl hE
    have q := h.q
    have a1 := ha.1
    have a2 := ha.2
    have t : ∀ (v5 v4 : Int32), wp (BM_names_33 L xs (m + 1) d k a x2 1 v4 v5 a g r) (fun o g' r' => o = none ∧ En g0 r0 g' r' ∧ g' fM_bad = 0 ∧ (g fM_at).toInt ≤ (g' fM_at).toInt ∧ Mst (b + 1) s P g' r') kN := by
      intro v5 v4
      unfold BM_names_33
      refine wp_nH (tM_child4 L xs (by omega) _ _ _ h ha (by omega)) (fun g1 r1 n1 b1 t1 h1 => ?_)
      have en := n1.1.1 fM_n (by decide)
      have nn := n1.2.1
      refine wp_vB (tM_isKind L xs (by omega) _ h1 h1.a0) ?_ (fun f => ?_)
      · refine wp_if (fun _ => ?_) (fun hc => absurd (by decide) hc)
        unfold BM_names_66
        obtain ⟨k, rfl⟩ : ∃ e, k = e + 1 := ⟨k - 1, by omega⟩
        rw [lM_names_6, Int32.add_zero, upd_id]
        unfold BM_names_6
        refine wp_if (fun _ => ?_) (fun hc => absurd (by decide) hc)
        exact ⟨rfl, hE.trans n1, b1.trans hb, by rw [t1]; exact Int.le_refl _, h1⟩
      · refine wp_if (fun hc => absurd hc (by decide)) (fun _ => ?_)
        unfold BM_names_66
        obtain ⟨k, rfl⟩ : ∃ e, k = e + 1 := ⟨k - 1, by omega⟩
        rw [lM_names_6]
        obtain ⟨p1, p2, p3⟩ := h1.ps (b1.trans hb) (Mk_lt f)
        rw [t1] at p2
        have e2 : (upd g1 fM_at (g1 fM_at + 1) fM_at).toInt = (g fM_at).toInt + 1 := by
          show (g1 fM_at + 1).toInt = _
          rw [t1]
          exact p2
        have e3 : upd g1 fM_at (g1 fM_at + 1) fM_n = g fM_n := en
        refine wp_mono (ih k (upd g1 fM_at (g1 fM_at + 1)) r1 (by rw [e2, e3]; omega) (by omega) p1 (b1.trans hb) ⟨a1, by show a.toInt < (g1 fM_nodes).toInt; omega⟩ (by rw [e2]; omega) (by omega) ((hE.trans n1).trans p3)) ?_ (fun _ _ _ hx => hx)
        rintro o g' r' ⟨c1, c2, c3, c4, c5⟩
        exact ⟨c1, c2, c3, by rw [e2] at c4; omega, c5.le (by omega)⟩
    unfold BM_names_6
    refine wp_if (fun hc => absurd hc (by decide)) (fun _ => ?_)
    refine wp_if (fun _ => ?_) (fun _ => ?_)
    · exact wp_vP (tM_passed L xs (by omega) h h0 hb) (fun v1 _ => t _ _)
    · exact wp_vP (tM_passed L xs (by omega) h h0 hb) (fun v1 _ => t _ _)
theorem tM_names (L : Nat) (xs : Nat → Int32) {m d : Nat} (hm : 4294967296 ≤ m) (hd : 4 ≤ d) {a : Int32} (a2 : Int32) {b : Int} {s : Sg} {P : List Nat} {g : a2_G} {r : a2_A} (h : Mst b s P g r) (hb : g fM_bad = 0) (ha : Mi g a) (hl : b ≤ 1890) : wp (ev L xs (m + 1) d nM_names [.ref cM, .int a, .int a2] g r) (kU (-3) 1 b s P g r) kN := by
  obtain ⟨d, rfl⟩ : ∃ e, d = e + 1 := ⟨d - 1, by omega⟩
  have q := h.q
  have a1 := ha.1
  have a2' := ha.2
  rw [qM_names]
  refine wp_vD (tM_mustBe L xs (by omega) _ h hb) (fun g1 r1 h1 => ?_) (fun g1 r1 h1 => ?_)
  · unfold BM_names_6
    refine wp_if (fun _ => ?_) (fun hc => absurd (by decide) hc)
    exact ⟨rfl, Or.inr h1⟩
  · obtain ⟨c1, c2, c3, c4⟩ := h1
    have nn := c1.2.1
    have q1 := c4.q
    refine wp_mono (tM_names6 L xs (by omega) a2 1500 m g1 r1 (by omega) (by omega) c4 c2 ⟨a1, by omega⟩ (by omega) (by omega) c1) ?_ (fun _ _ _ hx => hx)
    rintro o g' r' ⟨e1, e2, e3, e4, e5⟩
    exact ⟨e1, Or.inl ⟨e2, e3, by omega, e5.le (by omega)⟩⟩
theorem tM_names_b (L : Nat) (xs : Nat → Int32) {m d : Nat} (hd : 4 ≤ d) (a a2 : Int32) {b : Int} {s : Sg} {P : List Nat} {g : a2_G} {r : a2_A} (h : Mst b s P g r) (hb : g fM_bad = 1) : wp (ev L xs (m + 1) d nM_names [.ref cM, .int a, .int a2] g r) (fun o g' r' => o = none ∧ pB b s P g r g' r') kN := by
  obtain ⟨d, rfl⟩ : ∃ e, d = e + 1 := ⟨d - 1, by omega⟩
  rw [qM_names]
  refine wp_vZ (tM_mustBe_b L xs (by omega) _ h hb) (fun g1 r1 h1 => ?_)
  unfold BM_names_6
  refine wp_if (fun _ => ?_) (fun hc => absurd (by decide) hc)
  exact ⟨rfl, h1⟩
/-- an operand that is known to stand there -/
theorem tM_operandS (L : Nat) (xs : Nat → Int32) {m d : Nat} (hd : 3 ≤ d) {b : Int} {s : Sg} {P : List Nat} {g : a2_G} {r : a2_A} (h : Mst b s P g r) (hb : g fM_bad = 0) (hl : b ≤ 1900) (hw : Mk g r (g fM_at) 1 = true ∨ Mk g r (g fM_at) 2 = true) : wp (ev L xs (m + 1) d nM_operand [.ref cM] g r) (fun o g' r' => o = some (.int (g fM_nodes)) ∧ (g' fM_nodes).toInt = (g fM_nodes).toInt + 1 ∧ pG (-3) 1 b s ((g fM_nodes).toInt.toNat :: P) g r g' r') kN := by
  obtain ⟨d, rfl⟩ : ∃ e, d = e + 3 := ⟨d - 3, by omega⟩
  have q := h.q
  have w := h.W
  have f : (g fM_at).toInt < (g fM_n).toInt := by rcases hw with hw | hw <;> exact Mk_lt hw
  rw [qM_operand, M_isOperand L xs m d h.a0 w]
  have e9 : (Mk g r (g fM_at) 1 || Mk g r (g fM_at) 2 || Mk g r (g fM_at) 3) = true := by rcases hw with hw | hw <;> simp [hw]
  rw [e9]
  refine wp_if (fun hc => absurd hb (by rw [c2_ne] at hc; exact hc)) (fun _ => ?_)
  simp only [fn_v]
  refine wp_if (fun _ => ?_) (fun hc => absurd (by decide) hc)
  have w1 := w.1
  have w2 := w.2
  refine wp_if (fun _ => ?_) (fun hc => absurd (by rw [i32_as, inr_eq]; exact ⟨h.a0, by omega⟩) hc)
  refine wp_if (fun _ => ?_) (fun hc => absurd (by rw [i32_as, inr_eq]; exact ⟨h.a0, by omega⟩) hc)
  obtain ⟨p1, p2, p3⟩ := h.ps hb f
  refine wp_vK (tM_make L xs (by omega) _ _ _ p1 (by omega)) (fun v1 g1 r1 e1 n1 b1 t1 s1 h1 => ?_)
  subst e1
  refine ⟨rfl, s1, p3.trans n1, b1.trans hb, ?_, h1.le (by omega)⟩
  rw [t1]
  show (g fM_at).toInt + 1 ≤ (g fM_at + 1).toInt
  omega
/-- joined: two trees become one, or the right one alone -/
theorem tM_joined (L : Nat) (xs : Nat → Int32) {m d : Nat} (hd : 2 ≤ d) {a1 a2 a3 : Int32} {b : Int} {s : Sg} {P : List Nat} {g : a2_G} {r : a2_A} (h : Mst b s (a3.toInt.toNat :: ((if a2 = 0 then [] else [a1.toInt.toNat]) ++ P)) g r) (h1 : a2 ≠ 0 → Mi g a1) (h3 : Mi g a3) (h30 : 0 < a3.toInt) (hb : b ≤ 1890) : wp (ev L xs (m + 1) d nM_joined [.ref cM, .int a1, .int a2, .int a3] g r) (fun o g' r' => ∃ v : Int32, o = some (.int v) ∧ En g r g' r' ∧ g' fM_bad = g fM_bad ∧ g' fM_at = g fM_at ∧ Mi g' v ∧ 0 < v.toInt ∧ Mst (b + 1) s (v.toInt.toNat :: P) g' r') kN := by
  obtain ⟨d, rfl⟩ : ∃ e, d = e + 1 := ⟨d - 1, by omega⟩
  have q := h.q
  rw [qM_joined]
  refine wp_if (fun hc => ?_) (fun hc => ?_)
  · rw [c2_ne] at hc
    rw [if_neg hc] at h
    have i1 := h1 hc
    have i11 := i1.1
    have i12 := i1.2
    have i31 := h3.1
    have i32 := h3.2
    refine wp_if (fun _ => ?_) (fun hc => absurd (by rw [inr_eq, h.1.1.at 6]; exact ⟨i1.1, by omega⟩) hc)
    refine wp_vK (tM_make L xs (by omega) _ _ _ h (by omega)) (fun v1 g1 r1 e1 n1 b1 t1 s1 k1 => ?_)
    subst e1
    have k2 : Mst (b + 1) s (a1.toInt.toNat :: (g fM_nodes).toInt.toNat :: a3.toInt.toNat :: P) g1 r1 := k1.perm ((List.Perm.swap _ _ _).trans (List.Perm.cons _ (List.Perm.swap _ _ _)))
    refine wp_nH (tM_attach L xs (by omega) k2 ⟨by omega, by omega⟩ ⟨i11, by omega⟩ (by omega)) (fun g2 r2 n2 b2 t2 k3 => ?_)
    have e2 : g2 fM_nodes = g1 fM_nodes ∨ True := Or.inr trivial
    have m2 := n2.2.1
    have k4 : Mst (b + 1 + 0) s (a3.toInt.toNat :: (g fM_nodes).toInt.toNat :: P) g2 r2 := k3.perm (List.Perm.swap _ _ _)
    refine wp_nH (tM_attach L xs (by omega) k4 ⟨by omega, by omega⟩ ⟨i31, by omega⟩ (by omega)) (fun g3 r3 n3 b3 t3 k5 => ?_)
    have m3 := n3.2.1
    exact ⟨_, rfl, (n1.trans n2).trans n3, (b3.trans b2).trans b1, (t3.trans t2).trans t1, ⟨by omega, by omega⟩, by omega, k5.le (by omega)⟩
  · rw [c2_ne, Decidable.not_not] at hc
    rw [if_pos hc] at h
    exact ⟨a3, rfl, En.rf, rfl, rfl, h3, h30, h.le (by omega)⟩
