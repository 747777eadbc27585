/-! The model's relations, with their trees. -/
section
variable {n : Nat} {D : Nat → TD} {K : Nat → List Nat} {r r' : a2_A}
theorem Sz.dt {n : Nat} {D : Nat → TD} {r r' : a2_A} {i : Nat} {d' : TD} (h : Sz n D r) (hx : ∀ y, y ≠ i → (r' fM_extra).2 y = (r fM_extra).2 y) (hp : d'.2.2.1 = (D i).2.2.1) (hk : d'.1 = (D i).1 ∨ i + 1 = n ∨ (D i).1 ≠ 41) (hi : d'.1 = 53 → d'.2.2.2 = -1 ∨ ∃ s, s < i ∧ (r' fM_extra).2 i = Int32.ofNat s ∧ (D s).1 = 41 ∧ (D s).2.2.1 = d'.2.2.2) : Sz n (fD D i d') r' := by
  intro v hv h53
  by_cases e : v = i
  · subst e
    rw [fD_eq] at h53 ⊢
    rcases hi h53 with q | ⟨s, s1, s2, s3, s4⟩
    · exact Or.inl q
    · refine Or.inr ⟨s, s1, s2, ?_, ?_⟩
      · rw [fD_ne (by omega)]
        exact s3
      · rw [fD_ne (by omega)]
        exact s4
  · rw [fD_ne e] at h53 ⊢
    rcases h v hv h53 with q | ⟨s, s1, s2, s3, s4⟩
    · exact Or.inl q
    · by_cases es : s = i
      · subst es
        refine Or.inr ⟨s, s1, by rw [hx v e]; exact s2, ?_, ?_⟩
        · rw [fD_eq]
          rcases hk with hk | hk | hk
          · exact hk.trans s3
          · omega
          · exact absurd s3 hk
        · rw [fD_eq, hp]
          exact s4
      · refine Or.inr ⟨s, s1, by rw [hx v e]; exact s2, ?_, ?_⟩
        · rw [fD_ne es]
          exact s3
        · rw [fD_ne es]
          exact s4
theorem Mz.dt (h : Mz n D K r) {i : Nat} {d' : TD} (hi : i < n) (h1 : ∀ y, (r' fM_kind).2 y = if y = i then d'.1 else (r fM_kind).2 y) (h2 : ∀ y, (r' fM_value).2 y = if y = i then d'.2.1 else (r fM_value).2 y) (h3 : (r' fM_place).2 = (r fM_place).2) (hp : d'.2.2.1 = (D i).2.2.1) (h4 : ∀ y, y ≠ i → (r' fM_extra).2 y = (r fM_extra).2 y) (h4' : st38 d'.1 → (r' fM_extra).2 i = d'.2.2.2) (h5 : (r' fM_first).2 = (r fM_first).2) (h6 : (r' fM_last).2 = (r fM_last).2) (h7 : (r' fM_next).2 = (r fM_next).2) (h8 : (r' fM_above).2 = (r fM_above).2) (hk : d'.1 = (D i).1 ∨ i + 1 = n ∨ (D i).1 ≠ 41) (hS : d'.1 = 53 → d'.2.2.2 = -1 ∨ ∃ s, s < i ∧ (r' fM_extra).2 i = Int32.ofNat s ∧ (D s).1 = 41 ∧ (D s).2.2.1 = d'.2.2.2) : Mz n (fD D i d') K r' := by
  obtain ⟨b1, b2, b3, b4⟩ := h
  refine ⟨fun y hy => ?_, fun y hy => ?_, fun y hy l1 c l2 e => ?_, b4.1, b4.2.dt h4 hp hk hS⟩
  · rw [h1, h2, h3]
    by_cases e : y = i
    · subst e
      rw [fD_eq, if_pos rfl, if_pos rfl, hp]
      exact ⟨rfl, rfl, (b1 y hy).2.2.1, h4'⟩
    · rw [fD_ne e, if_neg e, if_neg e, h4 y e]
      exact b1 y hy
  · rw [h5, h6]
    exact b2 y hy
  · rw [h7, h8]
    exact b3 y hy l1 c l2 e
end
theorem upd_if {f : Nat → Int32} {i : Nat} {x : Int32} (y : Nat) : upd f i x y = if y = i then x else f y := rfl
theorem if_id' {f : Nat → Int32} {i : Nat} {x : Int32} (h : f i = x) (y : Nat) : f y = if y = i then x else f y := by
  by_cases e : y = i
  · rw [if_pos e, e, h]
  · rw [if_neg e]
section
variable {L : Nat} {xs : Nat → Int32} {m d k0 : Nat} {w : Ws} {f : Gh} {p : Nat} {g : a2_G} {r : a2_A} {kn : a2_G → a2_A → Option fn_Z} {Q : Option Value → a2_G → a2_A → Prop} {X : Nat → a2_G → a2_A → Prop} {n : Nat} {D : Nat → TD} {K : Nat → List Nat} {N : Nat → Int32} {P : Nat → Prop} {v : Nat} {T F : Tf}
theorem Wn.ug (h : Wn P w f n D K N p v T g r) {j : Nat} {x : Int32} (hj : j ∈ WU) : Wn P w f n D K N p v T (upd g j x) r := by
  obtain ⟨n', D', K', h1, h2⟩ := h
  exact ⟨n', D', K', h1.ug hj, h2⟩
/-- a value set in what is being built -/
theorem Wn.sv {kd v0 pp ee x : Int32} (h : Wn P w f n D K N p v (nd (kd, v0, pp, ee) F) g r) : Wn P w f n D K N p v (nd (kd, x, pp, ee) F) g (a2_ua r fM_value ((r fM_value).1, upd (r fM_value).2 v x)) := by
  obtain ⟨n', D', K', hA, hq, hN⟩ := h
  have rv := hq.2.2.1.rg
  have ed := hq.2.2.1.da
  refine ⟨n', _, K', ⟨hA.1.ua (by decide) (by rfl), hA.2.1, hA.2.2.1, hA.2.2.2.1, hA.2.2.2.2.dt (i := v) (d' := (kd, x, pp, ee)) (by omega) (fun y => if_id' (f := (r fM_kind).2) ?_ y) (fun y => upd_if y) rfl (by rw [ed]) (fun _ _ => rfl) (fun e => ?_) rfl rfl rfl rfl (Or.inl (by rw [ed])) (fun e => ?_)⟩, hq.sd, hN⟩
  · have := (hA.2.2.2.2.1 v (by omega)).1
    rw [ed] at this
    exact this
  · have := (hA.2.2.2.2.1 v (by omega)).2.2.2
    rw [ed] at this
    exact this e
  · have := hA.2.2.2.2.2.2.2.2 v (by omega)
    rw [ed] at this
    exact this e
/-- a relation's subject noted -/
theorem Wn.sr {a b c ee x : Int32} {t : Nat} (h : Wn P w f n D K N p v (nd (53, a, b, c) F) g r) (ht : t < v) (hx : x = Int32.ofNat t) (h41 : (r fM_kind).2 t = 41) (hp : (r fM_place).2 t = ee) : Wn P w f n D K N p v (nd (53, a, b, ee) F) g (a2_ua r fM_extra ((r fM_extra).1, upd (r fM_extra).2 v x)) := by
  obtain ⟨n', D', K', hA, hq, hN⟩ := h
  have rv := hq.2.2.1.rg
  have ed := hq.2.2.1.da
  have ht' := hA.2.2.2.2.1 t (by omega)
  have hM := hA.2.2.2.2.dt (r' := a2_ua r fM_extra ((r fM_extra).1, upd (r fM_extra).2 v x)) (i := v) (d' := (53, a, b, ee)) (by omega) (fun y => if_id' (f := (r fM_kind).2) (by have := (hA.2.2.2.2.1 v (by omega)).1; rw [ed] at this; exact this) y) (fun y => if_id' (f := (r fM_value).2) (by have := (hA.2.2.2.2.1 v (by omega)).2.1; rw [ed] at this; exact this) y) rfl (by rw [ed]) (fun y hy => upd_ne (f := (r fM_extra).2) hy) (fun e => absurd e.2 (show ¬ (53 : Int32).toInt ≤ 38 by decide)) rfl rfl rfl rfl (Or.inl (by rw [ed])) (fun _ => Or.inr ⟨t, ht, by rw [← hx]; exact upd_eq (f := (r fM_extra).2), by rw [← ht'.1]; exact h41, by rw [← ht'.2.2.1]; exact hp⟩)
  exact ⟨n', _, K', ⟨hA.1.ua (by decide) (by rfl), hA.2.1, hA.2.2.1, hA.2.2.2.1, hM⟩, hq.sd, hN⟩
/-- kind and value set in what is being built -/
theorem Wn.sk {kd v0 pp ee kd' x : Int32} (hk' : ¬ st38 kd') (h53 : kd' ≠ 53) (h : Wn P w f n D K N p v (nd (kd, v0, pp, ee) []) g r) : Wn P w f n D K N p v (nd (kd', x, pp, ee) []) g (a2_ua (a2_ua r fM_kind ((r fM_kind).1, upd (r fM_kind).2 v kd')) fM_value ((r fM_value).1, upd (r fM_value).2 v x)) := by
  obtain ⟨n', D', K', hA, hq, hN⟩ := h
  have rv := hq.2.2.1.rg
  have ed := hq.2.2.1.da
  have hv1 : v + 1 = n' := by
    obtain ⟨G, -, g2, -, -, -, g6, g7, g8⟩ := hq.2.2.1.un
    have eG : G = [] := List.map_eq_nil_iff.mp (nd_inj g2).2.symm
    rw [eG] at g8
    have g8' : n + 0 + 1 = n' := g8
    omega
  have hM := hA.2.2.2.2.dt (r' := a2_ua (a2_ua r fM_kind ((r fM_kind).1, upd (r fM_kind).2 v kd')) fM_value ((r fM_value).1, upd (r fM_value).2 v x)) (i := v) (d' := (kd', x, pp, ee)) (by omega) (fun y => upd_if y) (fun y => upd_if y) rfl (by rw [ed]) (fun _ _ => rfl) (fun e => absurd e hk') rfl rfl rfl rfl (Or.inr (Or.inl hv1)) (fun e => absurd e h53)
  exact ⟨n', _, K', ⟨(hA.1.ua (by decide) (by rfl)).ua (by decide) (by rfl), hA.2.1, hA.2.2.1, hA.2.2.2.1, hM⟩, hq.sd, hN⟩
theorem Wn.gd (h : Wn P w f n D K N p v T g r) : Gd w f p g r := Wn.lf.1 _ _ _ h
theorem Wn.vn (h : Wn P w f n D K N p v T g r) : (Int32.ofNat v).toNatClampNeg = v ∧ (Int32.ofNat v).toInt = v ∧ n ≤ v := by
  obtain ⟨n', D', K', hA, hq, -⟩ := h
  have rv := hq.2.2.1.rg
  have r2 := hA.2.2.2.1
  exact ⟨tn_at (on_eq (by omega)), on_eq (by omega), by omega⟩
theorem zM_operandOf (hn : 1 ≤ n) {dd : TD} (h : Wn P w f n D K N p v (nd dd F) g r) : pl (ev L xs (m + 1) d nM_operandOf [.ref cM, .int (Int32.ofNat v)] g r) (fun o g' r' => (∃ b, Bd w f b g' r') ∨ (Wn P w f n D K N (p + 1) v (nd dd (F ++ l1 (od w p))) g' r' ∧ Fk g r g' r')) kN := by
  cases d with
  | zero => trivial
  | succ d =>
    rw [qM_operandOf]
    unfold BM_operandOf_15
    obtain ⟨n1, D1, K1, hA, hq, hN⟩ := h
    have h2 := hq.1
    have h3 := hA.2.2.2.1
    refine ml_op hA (fun e g1 r1 h1 => ?_) (fun e g1 r1 h1 => ?_)
    · refine pl_il (fun c => ?_) (fun _ => ?_)
      · exfalso
        rw [on_eq (by omega), i32_0] at c
        omega
      · have f1 : Fk g r g1 r1 := by
          obtain ⟨n2, D2, K2, hA2, hq2, -⟩ := h1
          exact Fk.of hA.2 hA2.2 hq2.1 (fun i hi => (hq2.2.1 i hi).2)
        exact ml_hf hn hq hN h1 (fun g2 r2 h2 f2 => Or.inr ⟨h2, f1.tr f2⟩)
    · exact pl_il (fun _ => Or.inl ⟨_, h1⟩) (fun c => absurd (by decide) c)
def WnC (x0 : Int32) (P : Nat → Prop) (w : Ws) (f : Gh) (n : Nat) (D : Nat → TD) (K : Nat → List Nat) (N : Nat → Int32) (q v : Nat) (T : Tf) (g : a2_G) (r : a2_A) : Prop := Wn P w f n D K N q v T g r ∧ g fM_nodes = x0
theorem WnC.lf {x0 : Int32} : LfM w f (fun p => WnC x0 P w f n D K N p v T) := ⟨fun _ _ _ h => h.1.gd, fun _ _ _ h hp => ⟨Wn.lf.2 _ _ _ h.1 hp, h.2⟩⟩
def kMc (P : Nat → Prop) (w : Ws) (f : Gh) (n : Nat) (D : Nat → TD) (K : Nat → List Nat) (N : Nat → Int32) (v : Nat) (pp ee : Int32) (F : Tf) (x0 : Int32) (r0 : a2_A) (c : Int32 × Nat) : Option Value → a2_G → a2_A → Prop := fun o g r => o = none ∧ ((∃ b, Bd w f b g r) ∨ (Wn P w f n D K N (c.2 + 1) v (nd (53, c.1, pp, ee) (F ++ l1 (od w c.2))) g r ∧ g fM_compared = c.1 ∧ FkC x0 r0 g r))
theorem zcm_153 (hn : 1 ≤ n) (x2 x3 x4 x5 x6 y : Int32) {v0 pp ee : Int32} {x0 : Int32} (hy : x6 + x3 = y) (h : WnC x0 P w f n D K N p v (nd (53, v0, pp, ee) F) g r) : pl (BM_compare_153 L xs (m + 1) d k0 (Int32.ofNat v) x2 x3 x4 x5 x6 g r) (kMc P w f n D K N v pp ee F x0 r (y, p)) kN := by
  obtain ⟨h, hx0⟩ := h
  unfold BM_compare_153
  rw [h.vn.1, hy]
  refine pl_if (fun _ => ?_) (fun _ => trivial)
  have h1 : Wn P w f n D K N p v (nd (53, y, pp, ee) F) (upd g fM_compared y) (a2_ua r fM_value ((r fM_value).1, (upd (r fM_value).2 v y))) := (h.ug (by decide)).sv
  refine pl_n (pl_and (xM_operandOf _ h1.gd) (zM_operandOf hn h1)) (fun _ _ _ e => e.1) (fun g2 r2 e => ?_)
  obtain ⟨⟨-, -, e3⟩, e4⟩ := e
  refine ⟨rfl, ?_⟩
  rcases e4 with e4 | e4
  · exact Or.inl e4
  · refine Or.inr ⟨e4.1, (e3.1 fM_compared (by decide)).trans upd_eq, ?_⟩
    rw [← hx0]
    exact e4.2
theorem zM_compare (hn : 1 ≤ n) {v0 pp ee : Int32} (h : Wn P w f n D K N p v (nd (53, v0, pp, ee) F) g r) : pl (ev L xs (m + 1) d nM_compare [.ref cM, .int (Int32.ofNat v)] g r) (kMc P w f n D K N v pp ee F (g fM_nodes) r (cmp w p)) kN := by
  cases d with
  | zero => trivial
  | succ d =>
    rw [qM_compare]
    unfold cmp
    have hc : WnC (g fM_nodes) P w f n D K N p v (nd (53, v0, pp, ee) F) g r := ⟨h, rfl⟩
    generalize g fM_nodes = x0 at hc ⊢
    refine ml_mb WnC.lf hc (fun v1 g1 h1 => ?_)
    generalize sk (ww w p 67) p = q at h1
    unfold cm1
    have h21 : ∀ (x3 : Int32) (p : Nat) (g2 : a2_G), WnC x0 P w f n D K N p v (nd (53, v0, pp, ee) F) g2 r → pl (BM_compare_21 L xs (m + 1) d m (Int32.ofNat v) v1 x3 g2 r) (kMc P w f n D K N v pp ee F x0 r (cm2 w x3 p)) kN := by
      intro x3 p g2 h2
      have hG := h2.1.gd
      unfold BM_compare_21
      refine pl_neg (by rw [c2_ne, hG.2.2.1]; decide) ?_
      refine pl_u (xM_isComparing hG.1.mrd hG.2.2.2.1) (fun e => pl_pos (by decide) ?_) (fun e => pl_neg (by decide) ?_)
      · have hp : p < w.2.2 := (wc_iff.mp e).1
        refine pl_if (fun _ => ?_) (fun _ => trivial)
        rw [hG.nat, hG.1.mrd.1]
        have hu := WnC.lf.2 _ _ _ h2 hp
        refine pl_in (fun c5 => ?_) (fun c5 => ?_)
        · have hk : wk w p 0 = true := by
            refine wk_iff.mpr ⟨hp, ?_⟩
            rcases (wc_iff.mp e).2 with q | q
            · exact absurd q.1 c5
            · exact q.1
          have hk' := wk_iff.mp hk
          unfold BM_compare_69
          rw [hG.nat, hG.1.mrd.2.1]
          refine pl_if (fun _ => pl_pos (by decide) ?_) (fun _ => trivial)
          refine pl_in (fun c8 => ?_) (fun c8 => ?_)
          · have n68 : ww w p 68 = false := Bool.eq_false_iff.mpr (fun e => c8 (ww_iff.mp e).2.2)
            have h127 : ∀ x6 y : Int32, x6 + x3 = y → pl (BM_compare_127 L xs (m + 1) d m (Int32.ofNat v) v1 x3 0 (w.2.1 p) x6 (upd g2 fM_at (g2 fM_at + 1)) r) (kMc P w f n D K N v pp ee F x0 r (y, sk (ww w (p + 1) 71) (p + 1))) kN := by
              intro x6 y hy
              unfold BM_compare_127 BM_compare_149
              refine pl_neg (by decide) (pl_pos (by rw [c2_ne]; exact c8) ?_)
              exact ml_mb WnC.lf hu (fun v3 g3 h3 => zcm_153 hn _ _ _ _ _ _ hy h3)
            refine pl_in (fun c9 => ?_) (fun c9 => ?_)
            · have hr : 68 ≤ (w.2.1 p).toInt ∧ (w.2.1 p).toInt ≤ 70 := by
                rcases (wc_iff.mp e).2 with q | q
                · exact absurd q.1 c5
                · exact q.2
              have c70 : w.2.1 p = 70 := i32e (show _ = (70 : Int) by
                have n1 : (w.2.1 p).toInt ≠ 68 := fun e => c8 (i32e (e.trans rfl))
                have n2 : (w.2.1 p).toInt ≠ 69 := fun e => c9 (i32e (e.trans rfl))
                omega)
              have e70 : ww w p 70 = true := ww_iff.mpr ⟨hk'.1, hk'.2, c70⟩
              have ec : cm2 w x3 p = (x3 + 1, sk (ww w (p + 1) 71) (p + 1)) := by
                unfold cm2
                rw [n68, e70]
                rfl
              rw [ec]
              exact h127 1 _ (Int32.add_comm _ _)
            · have c69 := Decidable.not_not.mp c9
              have e69 : ww w p 69 = true := ww_iff.mpr ⟨hk'.1, hk'.2, c69⟩
              have n70 : ww w p 70 = false := Bool.eq_false_iff.mpr (fun e => by
                have := (ww_iff.mp e).2.2
                rw [c69] at this
                exact absurd this (by decide))
              have ec : cm2 w x3 p = (x3 + 2, sk (ww w (p + 1) 71) (p + 1)) := by
                unfold cm2
                rw [n68, n70, e69]
                rfl
              rw [ec]
              exact h127 2 _ (Int32.add_comm _ _)
          · have c68 := Decidable.not_not.mp c8
            have e68 : ww w p 68 = true := ww_iff.mpr ⟨hk'.1, hk'.2, c68⟩
            have ec : cm2 w x3 p = (x3 + 0, sk (ww w (p + 1) 48) (p + 1)) := by
              unfold cm2
              rw [e68]
              rfl
            rw [ec]
            unfold BM_compare_127 BM_compare_149
            refine pl_neg (by decide) (pl_neg (by rw [c2_ne]; exact fun e => e c68) ?_)
            exact ml_mb WnC.lf hu (fun v3 g3 h3 => zcm_153 hn _ _ _ _ _ _ (Int32.add_comm _ _) h3)
        · have c5' := Decidable.not_not.mp c5
          have hk : wk w p 5 = true := wk_iff.mpr ⟨hp, c5'⟩
          have h0 := wk_x (b := 0) hk (by decide)
          have ec : cm2 w x3 p = (x3 + (w.2.1 p - 2), p + 1) := by
            unfold cm2
            rw [ww_k h0, ww_k h0, ww_k h0]
            rfl
          rw [ec]
          unfold BM_compare_69
          rw [hG.nat, hG.1.mrd.2.1]
          refine pl_if (fun _ => pl_neg (by decide) ?_) (fun _ => trivial)
          unfold BM_compare_127
          refine pl_pos (by decide) ?_
          exact zcm_153 hn _ _ _ _ _ _ (Int32.add_comm _ _) hu
      · unfold BM_compare_40
        refine pm_fa hG hG.2.2.2.1 hG.2.2.2.2 (fun g3 r3 h3 f3 => ?_)
        exact ⟨rfl, Or.inl ⟨_, h3⟩⟩
    refine ml_ms WnC.lf h1 (fun e g2 h2 => pl_neg (by decide) ?_) (fun e => pl_pos (by decide) ?_)
    · rw [e, if_pos rfl]
      exact h21 3 (q + 1) g2 h2
    · rw [e, if_neg Bool.false_ne_true]
      exact h21 0 q g1 h1
end
