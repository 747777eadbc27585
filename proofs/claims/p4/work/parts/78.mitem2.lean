/-! The model's item. -/
theorem UI.tw {t t' : Int} {g g' : a2_G} {r r' : a2_A} {j : Nat} {st st' : Int32} (h : UI t g r) (hi : In g r j st) (ht : t ≤ t') (e1 : g' fM_open = g fM_open) (e2 : g' fM_units = g fM_units) (e3 : (g fM_nodes).toInt ≤ (g' fM_nodes).toInt) (e4 : r' fM_its = r fM_its) (e5 : r' fM_unitNode = r fM_unitNode) (e6 : ∀ i, i ≠ j → (r' fM_state).2 i = (r fM_state).2 i) (e7 : (r' fM_state).2 j = st') (hs : US g' r' st' ((r fM_its).2 j).toInt.toNat) : UI t' g' r' := by
  obtain ⟨h1, h2, h3, h4⟩ := h
  have o := hi.1
  refine ⟨?_, ?_, ?_, ?_⟩
  · rw [e1, e2]
    exact ⟨h1.1, h1.2.1, h1.2.2.1, by have := h1.2.2.2; omega⟩
  · rw [e1, e2, e4, e5]
    exact fun i hi => ⟨(h2 i hi).1, (h2 i hi).2.mo e3⟩
  · rw [e1]
    intro i hi'
    rw [e6 i (by omega)]
    exact h3 i hi'
  · rw [e1, e4]
    intro i hi'
    have ij : i = j := by omega
    subst ij
    rw [e7]
    exact hs
theorem tM_within7 (L : Nat) (xs : Nat → Int32) {m d : Nat} (x : Int32) {b : Int} {s : Sg} {P : List Nat} {g : a2_G} {r : a2_A} (h : Mst b s P g r) (h1 : (g fM_items).toInt ≤ 64) : ∀ (n k : Nat) (x2 : Int32), x2.toInt + 1 = n → n < k → x2.toInt < (g fM_items).toInt → (∀ i : Nat, x2.toInt < i → (i : Int) < (g fM_items).toInt → x.toInt ≤ ((r fM_levels).2 i).toInt) → wp (BM_within_7 L xs (m + 1) d k x x2 g r) (kP g r (fun v => -1 ≤ v.toInt ∧ v.toInt < (g fM_items).toInt ∧ (0 ≤ v.toInt → ((r fM_levels).2 v.toInt.toNat).toInt < x.toInt) ∧ (v.toInt < 0 → ∀ i : Nat, (i : Int) < (g fM_items).toInt → x.toInt ≤ ((r fM_levels).2 i).toInt))) kN := by
  intro n
  induction n with
  | zero =>
    intro k x2 hn hk hx hl
    unfold BM_within_7 BM_within_27
    refine wp_t (by rw [c2_lt, i32_0]; omega) ?_
    exact ⟨_, rfl, ⟨by omega, hx, fun e => by omega, fun _ i hi => hl i (by omega) hi⟩, rfl, rfl⟩
  | succ n ih =>
    intro k x2 hn hk hx hl
    unfold BM_within_7 BM_within_27
    refine wp_f (by rw [c2_lt, i32_0]; omega) ?_
    refine wp_in (h.1.1.at 23) (by omega) (by omega) ?_
    refine wp_if (fun hc => ?_) (fun hc => ?_)
    · rw [c2_lt, nc_eq] at hc
      exact ⟨_, rfl, ⟨by omega, hx, fun _ => hc, fun e => by omega⟩, rfl, rfl⟩
    · rw [c2_lt, nc_eq] at hc
      obtain ⟨k, rfl⟩ : ∃ e, k = e + 1 := ⟨k - 1, by omega⟩
      rw [lM_within_7]
      have e := i32_dec' (x := x2) (by omega)
      have e2 : (x2 + (-1)).toInt + 1 = (n : Int) := by omega
      have e3 : (x2 + (-1)).toInt < (g fM_items).toInt := by omega
      generalize x2 + (-1) = x5 at e e2 e3 ⊢
      refine ih k x5 e2 (by omega) e3 (fun i hi hi2 => ?_)
      by_cases ei : (i : Int) = x2.toInt
      · have : x2.toInt.toNat = i := by omega
        rw [this] at hc
        omega
      · exact hl i (by omega) hi2
theorem tM_within (L : Nat) (xs : Nat → Int32) {m d : Nat} (hm : 4294967296 ≤ m) (hd : 1 ≤ d) (x : Int32) {b : Int} {s : Sg} {P : List Nat} {g : a2_G} {r : a2_A} (h : Mst b s P g r) (h0 : 0 ≤ (g fM_items).toInt) (h1 : (g fM_items).toInt ≤ 64) : wp (ev L xs (m + 1) d nM_within [.ref cM, .int x] g r) (kP g r (fun v => -1 ≤ v.toInt ∧ v.toInt < (g fM_items).toInt ∧ (0 ≤ v.toInt → ((r fM_levels).2 v.toInt.toNat).toInt < x.toInt) ∧ (v.toInt < 0 → ∀ i : Nat, (i : Int) < (g fM_items).toInt → x.toInt ≤ ((r fM_levels).2 i).toInt))) kN := by
  obtain ⟨d, rfl⟩ : ∃ e, d = e + 1 := ⟨d - 1, by omega⟩
  rw [qM_within]
  have e := i32_dec (x := g fM_items) (by omega)
  exact tM_within7 L xs x h h1 (g fM_items).toInt.toNat m _ (by omega) (by omega) (by omega) (fun i hi hi2 => by omega)
theorem uM_item (L : Nat) (xs : Nat → Int32) {m d : Nat} (hm : 4294967296 ≤ m) (hd : 9 ≤ d) {b B : Int} {s : Sg} {g : a2_G} {r : a2_A} {j : Nat} {st : Int32} (h : Mst b s [] g r) (hb : g fM_bad = 0) (hs : s.1 = (g fM_at).toInt) (hlt : (g fM_at).toInt < (g fM_n).toInt) (hu : UI s.1 g r) (hi : In g r j st) (h5 : 5 ≤ st.toInt) (h7 : st.toInt ≤ 7) (hB : b + 8 ≤ B) (hB1 : B ≤ 1900) (hB2 : b ≤ 1860) : wp (ev L xs (m + 1) d nM_item [.ref cM] g r) (kCL b B s (g fM_n)) kN := by
  obtain ⟨d, rfl⟩ : ∃ e, d = e + 1 := ⟨d - 1, by omega⟩
  have q := h.q
  have W2 := h.W.2
  have sv := Sv.rf (B := B) hb h
  obtain ⟨us, ui2, ui3⟩ := hu.st hi
  obtain ⟨hh, hl, it0, it1, itm⟩ := us.2.2.2.1 h5 h7
  have f67 : ∀ x1 x2 x3, wp (BM_item_67 L xs (m + 1) d m x1 x2 x3 g r) (kCL b B s (g fM_n)) kN := by
    intro x1 x2 x3
    unfold BM_item_67
    refine wp_vF (uM_failH L xs (by omega) _ (b' := b) (P' := []) sv (by omega)) (fun g3 r3 b3 h3 l3 => ?_)
    exact h3.cb hu b3
  have f78 : ∀ (x1 x2 x3 : Int32), (x3 = 1 ∧ (x2.toInt = 1 ∨ x2.toInt = 77) ∨ x3 = 0 ∧ x2 = 88 ∨ x3 = 0 ∧ x2 ≠ 88 ∧ 2 ≤ x2.toInt ∧ x2.toInt ≤ 49 ∧ ∃ i : Nat, (i : Int) < (g fM_items).toInt ∧ ((r fM_levels).2 i).toInt < x2.toInt) → wp (BM_item_78 L xs (m + 1) d m x1 x2 x3 g r) (kCL b B s (g fM_n)) kN := by
    intro x1 x2 x3 hC
    have e88 : (88 : Int32).toInt = 88 := rfl
    obtain ⟨h1, l1, e1⟩ := sv.ps hb hlt
    have f158 : ∀ x4 g2 r2, Sv (b - 4) B s [] g r g2 r2 → g2 fM_bad = 0 → Lk 1 g g2 → wp (BM_item_158 L xs (m + 1) d m x1 x2 x3 x4 g2 r2) (kCL b B s (g fM_n)) kN := by
      intro x4 g2 r2 h2 b2 l2
      unfold BM_item_158
      have m2 := (h2.gd b2).2
      have q2 := m2.q
      refine wp_vK (tM_make L xs (by omega) _ _ _ m2 (by omega)) (fun t g3 r3 et n3 b3 t3 s3 k3 => ?_)
      have b3 : g3 fM_bad = 0 := b3.trans b2
      have h3 : Sv (b - 3) B s [t.toInt.toNat] g r g3 r3 := h2.en b2 n3 b3 (k3.le (by omega))
      have tt0 : 0 < t.toInt := by rw [et]; omega
      have tt1 : t.toInt < (g3 fM_nodes).toInt := by rw [et]; omega
      have l3 : Lk 1 g g3 := l2.tr (q := 0) ⟨n3.2.1, n3.2.2, fun _ => ⟨b2, by rw [t3]; omega⟩⟩ (by omega)
      have f223 : ∀ k x6 g4 r4, Sv (b - 3) B s [t.toInt.toNat] g r g4 r4 → Lk 1 g g4 → (g3 fM_nodes).toInt ≤ (g4 fM_nodes).toInt → (g4 fM_bad = 0 → (g4 fM_at).toInt < (g4 fM_n).toInt) → wp (BM_item_223 L xs (m + 1) d k x1 x2 x3 x4 t x6 g4 r4) (kCL b B s (g fM_n)) kN := by
        intro k x6 g4 r4 h4 l4 nn4 hlt4
        unfold BM_item_223
        rcases h4.b01 with b4 | b4
        · refine wp_t (by rw [c2_eq]; exact b4) ?_
          obtain ⟨h5', l5, e5⟩ := h4.ps b4 (hlt4 b4)
          have m5 : Mst (b - 3 - 4) s [t.toInt.toNat] (upd g4 fM_at (g4 fM_at + 1)) r4 := (h5'.gd b4).2
          have q5 := m5.q
          have ui5 := h5'.ui hu
          have in5 := hi.kp h5'.1.z.1
          have w4 := (l4.2.2 b4).2
          have ei := h5'.1.1.1 fM_items (by decide)
          have ev' := h5'.1.1.2 fM_levels (by decide)
          have en' := h5'.1.1.2 fM_itemNode (by decide)
          have eh := h5'.1.1.1 fM_holder (by decide)
          have el := h5'.1.1.1 fM_latest (by decide)
          have enn := h5'.1.1.1 fM_n (by decide)
          have nn5 := h5'.1.2.1
          have ti5 : Mi (upd g4 fM_at (g4 fM_at + 1)) t := ⟨by omega, by show t.toInt < (g4 fM_nodes).toInt; omega⟩
          have i8 : In8 t := ⟨by omega, by have := ti5.2; omega⟩
          have us5 := (ui5.st in5).1
          have eits := h5'.1.1.2 fM_its (by decide)
          generalize hg5 : upd g4 fM_at (g4 fM_at + 1) = g5 at *
          have at5 : (g5 fM_at).toInt = (g4 fM_at).toInt + 1 := by rw [← hg5]; exact e5
          have bb5 : g5 fM_bad = 0 := by rw [← hg5]; exact b4
          have fin : ∀ (a : Int32) (c : Nat) (y7 : Int32) (k' : Nat), Mi g5 a → y7.toInt = c → c ≤ 48 → (∀ i : Nat, i < c → (i : Int) < (g fM_items).toInt) → (c : Int) + 1 ≤ x2.toInt → wp (BM_item_300 L xs (m + 1) d k' x1 x2 x3 x4 t x6 a (upd g5 fM_items y7) r4) (kCL b B s (g fM_n)) kN := by
            intro a c y7 k' ia ey hc hci hx2
            unfold BM_item_300
            have m6 := m5.upx fM_items y7 (by decide) (fun hk => absurd hk (by decide))
            refine wp_nH (tM_attach L xs (by omega) m6 ia ti5 (by omega)) (fun g7 r7 n7 b7 t7 k7 => ?_)
            have eit : g7 fM_items = y7 := n7.1.1 fM_items (by decide)
            have ec' : (g7 fM_items).toNatClampNeg = c := by rw [nc_eq, eit, ey]; rfl
            have ec : (g7 fM_items).toInt = c := by rw [eit, ey]
            refine wp_in (k7.1.1.at 23) (by omega) (by omega) ?_
            refine wp_in (k7.1.1.at 24) (by omega) (by omega) ?_
            simp only [ec']
            have k8 := (((k7.upx fM_items (g7 fM_items + 1) (by decide) (fun hk => absurd hk (by decide))).upx fM_latest t (by decide) (fun _ => i8)).awx fM_levels c x2 (by decide) (fun hk => absurd hk (by decide))).awx fM_itemNode c t (by decide) (fun _ => i8)
            have nn7 : (g5 fM_nodes).toInt ≤ (g7 fM_nodes).toInt := n7.2.1
            have tk7 : g7 fM_at = g5 fM_at := t7
            have F7 : Fm WZ WZa (upd g5 fM_items y7) r4 g7 r7 := n7.x.z.1
            have ie : (g7 fM_items + 1).toInt = (c : Int) + 1 := by rw [i32_inc (by omega), ec]
            refine ⟨rfl, ?_, Or.inr ⟨?_, k8.le (by omega), ?_, ?_⟩⟩
            · show g7 fM_n = _
              rw [n7.1.1 fM_n (by decide)]
              exact enn
            · show g7 fM_bad = 0
              exact b7.trans bb5
            · refine ui5.tw in5 (st' := st) ?_ (F7.1 fM_open (by decide)) (F7.1 fM_units (by decide)) nn7 (F7.2 fM_its (by decide)) (F7.2 fM_unitNode (by decide)) (fun i _ => by show (r7 fM_state).2 i = _; rw [F7.2 fM_state (by decide)]) (by show (r7 fM_state).2 j = st; rw [F7.2 fM_state (by decide)]; exact in5.2) ?_
              · show s.1 ≤ (g7 fM_at).toInt
                rw [tk7]
                omega
              · refine ⟨fun e => by omega, fun e f => ?_, fun e f => ?_, fun _ _ => ⟨?_, ?_, ?_, ?_, fun i hi' => ?_⟩, fun e f => by omega, fun e => by omega⟩
                · show Mi _ ((r7 fM_data).2 _)
                  rw [F7.2 fM_data (by decide)]
                  exact (us5.2.1 e f).mo nn7
                · show Mi _ (g7 fM_files)
                  rw [F7.1 fM_files (by decide)]
                  exact (us5.2.2.1 e f).mo nn7
                · show Mi _ (g7 fM_holder)
                  rw [F7.1 fM_holder (by decide)]
                  show Mi _ (g5 fM_holder)
                  rw [eh]
                  exact hh.mo (show (g fM_nodes).toInt ≤ (g7 fM_nodes).toInt by omega)
                · exact ⟨ti5.1, by show t.toInt < (g7 fM_nodes).toInt; have := ti5.2; omega⟩
                · show 0 ≤ (g7 fM_items + 1).toInt
                  omega
                · show (g7 fM_items + 1).toInt ≤ 49
                  omega
                · have hi2 : (i : Int) < (g7 fM_items + 1).toInt := hi'
                  by_cases eic : i = c
                  · subst eic
                    refine ⟨?_, ?_⟩
                    · show Mi _ ((aw (aw r7 fM_levels i x2) fM_itemNode i t fM_itemNode).2 i)
                      rw [aw_at]
                      exact ⟨ti5.1, by show t.toInt < (g7 fM_nodes).toInt; have := ti5.2; omega⟩
                    · show (i : Int) + 1 ≤ ((aw r7 fM_levels i x2 fM_levels).2 i).toInt
                      rw [aw_at]
                      exact hx2
                  · have hic : i < c := by omega
                    obtain ⟨z1, z2⟩ := itm i (hci i hic)
                    refine ⟨?_, ?_⟩
                    · show Mi _ ((aw (aw r7 fM_levels c x2) fM_itemNode c t fM_itemNode).2 i)
                      rw [aw_nt eic, aw_ne (by decide), F7.2 fM_itemNode (by decide), en']
                      exact z1.mo (show (g fM_nodes).toInt ≤ (g7 fM_nodes).toInt by omega)
                    · show (i : Int) + 1 ≤ ((aw r7 fM_levels c x2 fM_levels).2 i).toInt
                      rw [aw_nt eic, F7.2 fM_levels (by decide), ev']
                      exact z2
            · show s.1 < (g7 fM_at).toInt
              rw [tk7]
              omega
          refine wp_if (fun h88 => ?_) (fun h88 => ?_)
          · rw [c2_ne] at h88
            refine wp_if (fun hx3 => ?_) (fun hx3 => ?_)
            · rw [c2_eq] at hx3
              rcases hC with ⟨c1, -⟩ | ⟨-, c2⟩ | ⟨-, c2, c3, c4, i, c5, c6⟩
              · rw [c1] at hx3
                exact absurd hx3 (by decide)
              · exact absurd c2 h88
              · refine wp_vP (tM_within L xs hm (by omega) x2 m5 (by rw [ei]; exact it0) (by rw [ei]; omega)) (fun v hv => ?_)
                obtain ⟨v1, v2, v3, v4⟩ := hv
                rw [ei] at v2 v4
                rw [ev'] at v3 v4
                have v0 : 0 ≤ v.toInt := by
                  rcases Int.lt_or_le v.toInt 0 with hneg | hpos
                  · have := v4 hneg i c5
                    omega
                  · exact hpos
                have v5 := v3 v0
                obtain ⟨z1, z2⟩ := itm v.toInt.toNat (by omega)
                have ev1 : (v + 1).toInt = v.toInt + 1 := i32_inc (by omega)
                unfold BM_item_274
                refine wp_t (by rw [c2_eq]; exact hx3) ?_
                rw [i32_as]
                refine wp_in (m5.1.1.at 24) v0 (by omega) ?_
                refine fin _ (v.toInt.toNat + 1) _ _ ?_ (by omega) (by omega) (fun i' hi' => by omega) (by omega)
                rw [nc_eq, en']
                exact z1.mo (by omega)
            · rw [c2_eq] at hx3
              rcases hC with ⟨c1, c2⟩ | ⟨c1, -⟩ | ⟨c1, -⟩
              · unfold BM_item_274
                refine wp_f (by rw [c2_eq]; exact hx3) ?_
                refine fin _ 0 _ _ ?_ rfl (by omega) (fun i' hi' => by omega) (by omega)
                rw [eh]
                exact hh.mo (by omega)
              · exact absurd c1 hx3
              · exact absurd c1 hx3
          · have hla : Mi g5 (g4 fM_latest) := by
              have e9 : g5 fM_latest = g4 fM_latest := by rw [← hg5]; rfl
              rw [← e9, el]
              exact hl.mo (by omega)
            refine wp_nH (tM_attach L xs (by omega) m5 hla ti5 (by omega)) (fun g7 r7 n7 b7 t7 k7 => ?_)
            have nn7 := n7.2.1
            refine ⟨rfl, (n7.1.1 fM_n (by decide)).trans enn, Or.inr ⟨b7.trans bb5, k7.le (by omega), (ui5.kp n7.x.z.1 nn7).le (by rw [t7]; omega), by rw [t7]; omega⟩⟩
        · refine wp_f (by rw [c2_eq, b4]; decide) ?_
          exact h4.cb hu b4
      have f178 : ∀ (n k : Nat) (g4 : a2_G) (r4 : a2_A), (g4 fM_n).toInt < (g4 fM_at).toInt + n → n + 1 < k → Sv (b - 3) B s [t.toInt.toNat] g r g4 r4 → Lk 1 g g4 → (g3 fM_nodes).toInt ≤ (g4 fM_nodes).toInt → wp (BM_item_178 L xs (m + 1) d k x1 x2 x3 x4 t 1 g4 r4) (kCL b B s (g fM_n)) kN := by
        intro n
        induction n with
        | zero =>
          intro k g4 r4 hn hk h4 l4 nn4
          unfold BM_item_178
          refine wp_f (by decide) ?_
          refine wp_bad h4.b01 (fun b4 => f223 _ _ _ _ h4 l4 nn4 (fun e => (bad_ne e b4).elim)) (fun b4 => ?_)
          have := h4.q b4
          omega
        | succ n ih =>
          intro k g4 r4 hn hk h4 l4 nn4
          obtain ⟨k, rfl⟩ : ∃ e, k = e + 1 := ⟨k - 1, by omega⟩
          unfold BM_item_178
          refine wp_f (by decide) ?_
          refine wp_bad h4.b01 (fun b4 => f223 _ _ _ _ h4 l4 nn4 (fun e => (bad_ne e b4).elim)) (fun b4 => ?_)
          have m4 := (h4.gd b4).2
          refine wp_vB (tM_isKind L xs (by omega) _ m4 m4.a0) ?_ (fun f => ?_)
          · refine wp_f (by decide) ?_
            unfold BM_item_207
            refine wp_f (by decide) ?_
            refine wp_nS (uM_described2 L xs hm (by omega) h4 b4 ⟨by omega, by omega⟩ (by omega) (by omega)) (fun g5 r5 h5' l5 => ?_)
            rw [lM_item_178]
            have en5 := (h5'.1.1.1 fM_n (by decide)).trans (h4.1.1.1 fM_n (by decide)).symm
            have l45 := l4.tr l5 (Int.le_refl _)
            have nn5 := l5.1
            rcases h5'.b01 with b5 | b5
            · have w5 := (l5.2.2 b5).2
              exact ih k g5 r5 (by rw [en5]; omega) (by omega) h5' (l45.le (by omega)) (by omega)
            · unfold BM_item_178
              refine wp_f (by decide) ?_
              exact wp_bad (Or.inr b5) (fun _ => f223 _ _ _ _ h5' (l45.le (by omega)) (by omega) (fun e => (bad_ne e b5).elim)) (fun e => (bad_ne e b5).elim)
          · refine wp_t (by decide) ?_
            unfold BM_item_207
            refine wp_t (by decide) ?_
            rw [lM_item_178]
            unfold BM_item_178
            refine wp_t (by decide) ?_
            exact f223 _ _ _ _ h4 l4 nn4 (fun _ => Mk_lt f)
      have q3 := h3.q b3
      exact f178 1501 m g3 r3 (by omega) (by omega) h3 l3 (Int.le_refl _)
    have f115 : ∀ x4, ((0 : Int) < x4.toInt → (g fM_at + 1).toInt < (g fM_n).toInt) → wp (BM_item_115 L xs (m + 1) d m x1 x2 x3 x4 (upd g fM_at (g fM_at + 1)) r) (kCL b B s (g fM_n)) kN := by
      intro x4 hx4
      unfold BM_item_115
      have m1 := (h1.gd hb).2
      refine wp_if (fun _ => ?_) (fun hc => ?_)
      · refine wp_vB (tM_isWord L xs (by omega) _ m1 m1.a0) ?_ (fun f => ?_)
        · exact wp_t (by decide) (f158 _ _ _ h1 hb l1)
        · refine wp_f (by decide) ?_
          obtain ⟨h2, l2, -⟩ := h1.ps hb (Mw_lt f)
          exact f158 _ _ _ (h2.le (by omega)) hb (l1.tr l2 (by omega))
      · rw [c2_le, i32_0] at hc
        obtain ⟨h2, l2, -⟩ := h1.ps hb (hx4 (by omega))
        exact f158 _ _ _ (h2.le (by omega)) hb (l1.tr l2 (by omega))
    have m1 := (h1.gd hb).2
    unfold BM_item_78
    refine wp_vB (tM_isKind L xs (by omega) _ m1 m1.a0) ?_ (fun f => ?_)
    · refine wp_t (by decide) ?_
      exact f115 0 (fun e => by rw [i32_0] at e; omega)
    · refine wp_f (by decide) ?_
      have f' : (g fM_at + 1).toInt < (g fM_n).toInt := Mk_lt f
      refine wp_in rfl m1.a0 (by show (g fM_at + 1).toInt < _; omega) ?_
      exact f115 _ (fun _ => f')
  have f49 : ∀ x1 x2, wp (BM_item_49 L xs (m + 1) d m x1 x2 0 g r) (kCL b B s (g fM_n)) kN := by
    intro x1 x2
    have e88 : (88 : Int32).toInt = 88 := rfl
    have e2 : (2 : Int32).toInt = 2 := rfl
    have e49 : (49 : Int32).toInt = 49 := rfl
    unfold BM_item_49
    refine wp_vB (tM_in L xs (by omega) _ _ _) (wp_t (by decide) (f67 _ _ _)) (fun f => ?_)
    refine wp_f (by decide) ?_
    refine wp_vP (tM_within L xs hm (by omega) x2 h it0 (by omega)) (fun v hv => ?_)
    obtain ⟨v1, v2, v3, v4⟩ := hv
    refine wp_if (fun hc => ?_) (fun _ => f67 _ _ _)
    rw [c2_ge, i32_0] at hc
    exact f78 _ _ _ (Or.inr (Or.inr ⟨rfl, fun e => by rw [e, e88, e2, e49] at f; omega, by omega, by omega, v.toInt.toNat, by omega, v3 hc⟩))
  have f31 : ∀ x1 x2 x3, (x3 = 1 ∧ (x2.toInt = 1 ∨ x2.toInt = 77) ∨ x3 = 0) → wp (BM_item_31 L xs (m + 1) d m x1 x2 x3 g r) (kCL b B s (g fM_n)) kN := by
    intro x1 x2 x3 hx
    unfold BM_item_31
    rcases hx with ⟨rfl, hx⟩ | rfl
    · refine wp_t (by decide) ?_
      exact f78 _ _ _ (Or.inl ⟨rfl, hx⟩)
    · refine wp_f (by decide) ?_
      refine wp_if (fun _ => f49 _ _) (fun hc => ?_)
      rw [c2_ne, Decidable.not_not] at hc
      exact wp_if (fun _ => f78 _ _ _ (Or.inr (Or.inl ⟨rfl, hc⟩))) (fun _ => f49 _ _)
  rw [qM_item]
  refine wp_in rfl h.a0 (by omega) ?_
  generalize (r fM_values).2 (g fM_at).toNatClampNeg = x2
  refine wp_if (fun hc => ?_) (fun hc => ?_)
  · rw [c2_eq] at hc
    exact f31 _ _ 1 (Or.inl ⟨rfl, Or.inl (by rw [hc]; rfl)⟩)
  · refine wp_if (fun hc2 => f31 _ _ 0 (Or.inr rfl)) (fun hc2 => ?_)
    rw [c2_ne, Decidable.not_not] at hc2
    exact f31 _ _ 1 (Or.inl ⟨rfl, Or.inr (by rw [hc2]; rfl)⟩)
