/-! The model's sums: what floats, context by context. -/
theorem wp_in {i : Int32} {n N : Nat} {a : Option fn_Z} {Q : Option Value → a2_G → a2_A → Prop} {X : Nat → a2_G → a2_A → Prop} (hn : n = N) (h0 : 0 ≤ i.toInt) (h1 : i.toInt < N) (h : wp a Q X) : wp (if am_inr i n = true then a else none) Q X := by
  rw [if_pos (by rw [inr_eq, hn]; exact ⟨h0, h1⟩)]
  exact h
theorem wp_t {c : Prop} [Decidable c] {a b : Option fn_Z} {Q : Option Value → a2_G → a2_A → Prop} {X : Nat → a2_G → a2_A → Prop} (hc : c) (h : wp a Q X) : wp (if c then a else b) Q X := by
  rw [if_pos hc]
  exact h
theorem wp_f {c : Prop} [Decidable c] {a b : Option fn_Z} {Q : Option Value → a2_G → a2_A → Prop} {X : Nat → a2_G → a2_A → Prop} (hc : ¬ c) (h : wp b Q X) : wp (if c then a else b) Q X := by
  rw [if_neg hc]
  exact h
def WX : List Nat := [fM_at, fM_failed, fM_bad, fM_faults, fM_nodes, fM_contexts, fM_level, fM_marks, fM_joints, fM_subject, fM_compared]
def WXa : List Nat := [fM_faultNumber, fM_faultWord, fM_kind, fM_value, fM_place, fM_extra, fM_first, fM_last, fM_next, fM_above, fM_sums, fM_sumSign, fM_products, fM_productSign, fM_mark, fM_andFirst, fM_andLast, fM_andMany, fM_orFirst, fM_orLast, fM_orMany]
def Ex (g : a2_G) (r : a2_A) (g' : a2_G) (r' : a2_A) : Prop := Fm WX WXa g r g' r' ∧ (g fM_nodes).toInt ≤ (g' fM_nodes).toInt ∧ (g fM_at).toInt ≤ (g' fM_at).toInt
theorem Ex.rf {g : a2_G} {r : a2_A} : Ex g r g r := ⟨Fm.rf, Int.le_refl _, Int.le_refl _⟩
theorem Ex.trans {g1 g2 g3 : a2_G} {r1 r2 r3 : a2_A} (a : Ex g1 r1 g2 r2) (b : Ex g2 r2 g3 r3) : Ex g1 r1 g3 r3 := ⟨a.1.trans b.1, Int.le_trans a.2.1 b.2.1, Int.le_trans a.2.2 b.2.2⟩
theorem En.x {g g' : a2_G} {r r' : a2_A} (h : En g r g' r') : Ex g r g' r' := ⟨h.1.sub (by decide) (by decide), h.2⟩
/-- what floats may be forgotten -/
theorem Mst.bd {b : Int} {s : Sg} {P : List Nat} {g : a2_G} {r : a2_A} (h : Mst b s P g r) : Mst b s [] g r := ⟨h.1, h.2.1, h.2.2.sub List.nodup_nil (fun _ hx => nomatch hx)⟩
def sfl (r : a2_A) (P : List Nat) : Nat → List Nat
  | 0 => P
  | c + 1 => (if (r fM_productSign).2 c = 0 then [] else [((r fM_products).2 c).toInt.toNat]) ++ ((if (r fM_sumSign).2 c = 0 then [] else [((r fM_sums).2 c).toInt.toNat]) ++ sfl r P c)
def sMi (g : a2_G) (r : a2_A) (C : Nat) : Prop := ∀ c, c < C → ((r fM_productSign).2 c ≠ 0 → Mi g ((r fM_products).2 c) ∧ 0 < ((r fM_products).2 c).toInt) ∧ ((r fM_sumSign).2 c ≠ 0 → Mi g ((r fM_sums).2 c) ∧ 0 < ((r fM_sums).2 c).toInt)
def sag (r r' : a2_A) (C : Nat) : Prop := ∀ c, c < C → (r' fM_productSign).2 c = (r fM_productSign).2 c ∧ (r' fM_products).2 c = (r fM_products).2 c ∧ (r' fM_sumSign).2 c = (r fM_sumSign).2 c ∧ (r' fM_sums).2 c = (r fM_sums).2 c
theorem sag.sfl {r r' : a2_A} {P : List Nat} : ∀ {C : Nat}, sag r r' C → sfl r' P C = sfl r P C
  | 0, _ => rfl
  | C + 1, h => by
    obtain ⟨h1, h2, h3, h4⟩ := h C (Nat.lt_succ_self C)
    have ih := sag.sfl (P := P) (C := C) (fun c hc => h c (Nat.lt_succ_of_lt hc))
    show (if (r' fM_productSign).2 C = 0 then [] else [((r' fM_products).2 C).toInt.toNat]) ++ ((if (r' fM_sumSign).2 C = 0 then [] else [((r' fM_sums).2 C).toInt.toNat]) ++ _) = _
    rw [h1, h2, h3, h4, ih]
    rfl
theorem sag.mi {g g' : a2_G} {r r' : a2_A} {C : Nat} (h : sag r r' C) (hn : (g fM_nodes).toInt ≤ (g' fM_nodes).toInt) (hm : sMi g r C) : sMi g' r' C := by
  intro c hc
  obtain ⟨h1, h2, h3, h4⟩ := h c hc
  obtain ⟨m1, m2⟩ := hm c hc
  rw [h1, h2, h3, h4]
  refine ⟨fun e => ?_, fun e => ?_⟩
  · obtain ⟨⟨k1, k2⟩, k3⟩ := m1 e
    exact ⟨⟨k1, by omega⟩, k3⟩
  · obtain ⟨⟨k1, k2⟩, k3⟩ := m2 e
    exact ⟨⟨k1, by omega⟩, k3⟩
theorem sag.rf {r : a2_A} {C : Nat} : sag r r C := fun _ _ => ⟨rfl, rfl, rfl, rfl⟩
theorem sag.en {g g' : a2_G} {r r' : a2_A} {C : Nat} (h : En g r g' r') : sag r r' C := by
  intro c _
  rw [h.1.2 fM_productSign (by decide), h.1.2 fM_products (by decide), h.1.2 fM_sumSign (by decide), h.1.2 fM_sums (by decide)]
  exact ⟨rfl, rfl, rfl, rfl⟩
theorem sag.trans {r1 r2 r3 : a2_A} {C : Nat} (a : sag r1 r2 C) (b : sag r2 r3 C) : sag r1 r3 C := fun c hc => ⟨(b c hc).1.trans (a c hc).1, (b c hc).2.1.trans (a c hc).2.1, (b c hc).2.2.1.trans (a c hc).2.2.1, (b c hc).2.2.2.trans (a c hc).2.2.2⟩
theorem aw_at {r : a2_A} {q i : Nat} {x : Int32} : (aw r q i x q).2 i = x := by
  rw [aw_eq]
  exact if_pos rfl
theorem aw_nt {r : a2_A} {q i j p : Nat} {x : Int32} (h : j ≠ i) : (aw r q i x p).2 j = (r p).2 j := by
  by_cases e : p = q
  · subst e
    rw [aw_eq]
    exact if_neg h
  · rw [aw_ne e]
theorem sag.aw {r r' : a2_A} {C : Nat} (h : sag r r' C) {q i : Nat} {x : Int32} (hi : C ≤ i) : sag r (aw r' q i x) C := by
  intro c hc
  have e : c ≠ i := by omega
  rw [aw_nt e, aw_nt e, aw_nt e, aw_nt e]
  exact h c hc
/-- bad, and nothing floats -/
def xB (b : Int) (s : Sg) (g : a2_G) (r : a2_A) (g' : a2_G) (r' : a2_A) : Prop := Ex g r g' r' ∧ g' fM_bad = 1 ∧ Mst b s [] g' r'
theorem pB.x {b b' : Int} {s : Sg} {P : List Nat} {g0 g g' : a2_G} {r0 r r' : a2_A} (h : pB b s P g r g' r') (he : Ex g0 r0 g r) (hb : b ≤ b') : xB b' s g0 r0 g' r' := ⟨he.trans h.1.x, h.2.1, h.2.2.bd.le hb⟩
/-- a sum under way: C contexts -/
def SU (b : Int) (s : Sg) (P : List Nat) (C : Nat) (g : a2_G) (r : a2_A) : Prop := Mst b s (sfl r P C) g r ∧ sMi g r C ∧ g fM_bad = 0 ∧ (g fM_contexts).toInt = C ∧ 1 ≤ C ∧ C ≤ 41
def kBU (b : Int) (s : Sg) (P : List Nat) (C : Nat) (g : a2_G) (r : a2_A) : Option Value → a2_G → a2_A → Prop := fun o g' r' => ∃ v : Int32, o = some (.int v) ∧ (v = 0 ∧ xB b s g r g' r' ∨ v = 0 ∧ Ex g r g' r' ∧ (g fM_at).toInt < (g' fM_at).toInt ∧ (∃ C' : Nat, C' ≤ C ∧ SU b s P C' g' r' ∧ (g' fM_level).toInt + C = (g fM_level).toInt + C') ∨ 0 < v.toInt ∧ Mi g' v ∧ Ex g r g' r' ∧ g' fM_bad = 0 ∧ Mst b s (v.toInt.toNat :: P) g' r' ∧ (g' fM_level).toInt + C = (g fM_level).toInt + 1)
theorem kBU_tr {b : Int} {s : Sg} {P : List Nat} {C C1 : Nat} {g0 g : a2_G} {r0 r : a2_A} (he : Ex g0 r0 g r) (hC : C1 ≤ C) (hl : (g fM_level).toInt + C = (g0 fM_level).toInt + C1) (o : Option Value) (g' : a2_G) (r' : a2_A) (h : kBU b s P C1 g r o g' r') : kBU b s P C g0 r0 o g' r' := by
  have h2 := he.2.2
  obtain ⟨v, rfl, ⟨e, hb⟩ | ⟨e, x1, x2, C', c1, c2, c3⟩ | ⟨e, x1, x2, x3, x4, x5⟩⟩ := h
  · exact ⟨v, rfl, Or.inl ⟨e, he.trans hb.1, hb.2⟩⟩
  · exact ⟨v, rfl, Or.inr (Or.inl ⟨e, he.trans x1, by omega, C', by omega, c2, by omega⟩)⟩
  · exact ⟨v, rfl, Or.inr (Or.inr ⟨e, x1, he.trans x2, x3, x4, by omega⟩)⟩
theorem BbU (L : Nat) (xs : Nat → Int32) (m d k : Nat) (x1 x2 x3 x4 : Int32) (g : a2_G) (r : a2_A) : BM_behindUnit_2 L xs m d k x1 x2 g r = BM_behindUnit_2_1 L xs m d k x1 x2 x3 x4 g r := rfl
theorem tM_behindUnit (L : Nat) (xs : Nat → Int32) {m d : Nat} (hd : 3 ≤ d) {b : Int} {s : Sg} {P : List Nat} (hl : b ≤ 1880) : ∀ (C k : Nat) (x1 x2 x3 x4 : Int32) (g : a2_G) (r : a2_A), C ≤ k → 1 ≤ C → C ≤ 41 → Mst (b - 2) s (x2.toInt.toNat :: sfl r P C) g r → sMi g r C → g fM_bad = 0 → (g fM_contexts).toInt = C → Mi g x2 → 0 < x2.toInt → (C : Int) - 1000 ≤ (g fM_level).toInt → wp (BM_behindUnit_2_1 L xs (m + 1) d k x1 x2 x3 x4 g r) (kBU b s P C g r) kN := by
  intro C
  induction C with
  | zero => intro k x1 x2 x3 x4 g r hk h1; omega
  | succ C ih =>
    intro k x1 x2 x3 x4 g r hk h1 h41 h hM hb hc hi h0 hlev
    have ec : ((g fM_contexts) - 1).toInt = C := by
      rw [i32_dec (by omega)]
      omega
    have ec' : ((g fM_contexts) - 1).toNatClampNeg = C := by rw [nc_eq, ec]; rfl
    have q := h.q
    unfold BM_behindUnit_2_1
    simp only [ec']
    generalize (g fM_contexts) - 1 = x5 at ec ec' ⊢
    refine wp_in (h.1.1.at 30) (by omega) (by omega) ?_
    refine wp_in (h.1.1.at 31) (by omega) (by omega) ?_
    obtain ⟨m1, m2⟩ := hM C (Nat.lt_succ_self C)
    refine wp_v (tM_joined L xs (by omega) (P := (if (r fM_sumSign).2 C = 0 then [] else [((r fM_sums).2 C).toInt.toNat]) ++ sfl r P C) h (fun e => (m1 e).1) hi h0 (by omega)) (fun _ _ _ hx => hx.elim) ?_
    rintro o g1 r1 ⟨v1, rfl, n1, b1, t1, i1, p1, k1⟩
    refine ⟨v1, rfl, ?_⟩
    refine wp_in (k1.1.1.at 30) (by omega) (by omega) ?_
    refine wp_in (k1.1.1.at 31) (by omega) (by omega) ?_
    have e1 := i1.1
    have e2 := i1.2
    have q1 := k1.q
    have i8 : In8 v1 := ⟨by omega, by omega⟩
    have k2 := (k1.awx fM_products C v1 (by decide) (fun _ => i8)).awx fM_productSign C 0 (by decide) (fun hk => absurd hk (by decide))
    have ag : sag r (aw (aw r1 fM_products C v1) fM_productSign C 0) C := ((sag.en n1).aw (Nat.le_refl _)).aw (Nat.le_refl _)
    have x1' : Ex g r g1 (aw (aw r1 fM_products C v1) fM_productSign C 0) := ⟨(n1.x.1.aw (by decide)).aw (by decide), n1.2⟩
    have z1 : (aw (aw r1 fM_products C v1) fM_productSign C 0 fM_products).2 C = v1 := (aw_at : (aw r1 fM_products C v1 fM_products).2 C = v1)
    have z2 : (aw (aw r1 fM_products C v1) fM_productSign C 0 fM_productSign).2 C = 0 := aw_at
    have z3 : aw (aw r1 fM_products C v1) fM_productSign C 0 fM_sumSign = r fM_sumSign := n1.1.2 fM_sumSign (by decide)
    have z4 : aw (aw r1 fM_products C v1) fM_productSign C 0 fM_sums = r fM_sums := n1.1.2 fM_sums (by decide)
    have c1 := n1.1.1 fM_contexts (by decide)
    have l1 := n1.1.1 fM_level (by decide)
    have en1 := n1.1.1 fM_n (by decide)
    have nn1 := n1.2.1
    have hb1 : g1 fM_bad = 0 := b1.trans hb
    have goal82 : ∀ (y : Int32), (y = 0 ∨ (5 ≤ y.toInt ∧ y.toInt ≤ 8 ∧ (g1 fM_at).toInt < (g1 fM_n).toInt)) → ∀ (r2 : a2_A), r2 = aw (aw r1 fM_products C v1) fM_productSign C 0 → wp (BM_behindUnit_82_1 L xs (m + 1) d k x1 x2 x5 x4 y g1 r2) (kBU b s P (C + 1) g r) kN := by
      intro y hy r2 hr2
      rw [← hr2] at k2 ag x1' z1 z2 z3 z4
      have ag' := ag.sfl (P := P)
      have i9 : (6 : Int32).toInt = 6 := rfl
      unfold BM_behindUnit_82_1
      simp only [ec', z1]
      refine wp_if (fun hc6 => ?_) (fun hc6 => ?_)
      · rw [c2_le] at hc6
        refine wp_in (k2.1.1.at 28) (by omega) (by omega) ?_
        refine wp_in (k2.1.1.at 29) (by omega) (by omega) ?_
        refine wp_in (k2.1.1.at 30) (by omega) (by omega) ?_
        rw [z3, z4]
        refine wp_v (tM_joined L xs (by omega) (P := sfl r P C) k2 (fun e => ⟨(m2 e).1.1, by have := (m2 e).1.2; omega⟩) i1 p1 (by omega)) (fun _ _ _ hx => hx.elim) ?_
        rintro o g3 r3 ⟨v3, rfl, n3, b3, t3, i3, p3, k3⟩
        refine ⟨v3, rfl, ?_⟩
        refine wp_in (k3.1.1.at 28) (by omega) (by omega) ?_
        refine wp_in (k3.1.1.at 29) (by omega) (by omega) ?_
        have f1 := i3.1
        have f2 := i3.2
        have q3 := k3.q
        have i83 : In8 v3 := ⟨by omega, by omega⟩
        have k4 := (k3.awx fM_sums C v3 (by decide) (fun _ => i83)).awx fM_sumSign C y (by decide) (fun hk => absurd hk (by decide))
        have ag3 : sag r (aw (aw r3 fM_sums C v3) fM_sumSign C y) C := ((ag.trans (sag.en n3)).aw (Nat.le_refl _)).aw (Nat.le_refl _)
        have x3' : Ex g r g3 (aw (aw r3 fM_sums C v3) fM_sumSign C y) := x1'.trans ⟨(n3.x.1.aw (by decide)).aw (by decide), n3.2⟩
        have y1 : (aw (aw r3 fM_sums C v3) fM_sumSign C y fM_sums).2 C = v3 := (aw_at : (aw r3 fM_sums C v3 fM_sums).2 C = v3)
        have y2 : (aw (aw r3 fM_sums C v3) fM_sumSign C y fM_sumSign).2 C = y := aw_at
        have y3 : (aw (aw r3 fM_sums C v3) fM_sumSign C y fM_productSign).2 C = 0 := by
          rw [show aw (aw r3 fM_sums C v3) fM_sumSign C y fM_productSign = r2 fM_productSign from n3.1.2 fM_productSign (by decide)]
          exact z2
        have c3 := n3.1.1 fM_contexts (by decide)
        have l3 := n3.1.1 fM_level (by decide)
        have en3 := n3.1.1 fM_n (by decide)
        have nn3 := n3.2.1
        have hb3 : g3 fM_bad = 0 := b3.trans hb1
        rw [← ag3.sfl (P := P)] at k4
        have M4 : sMi g3 (aw (aw r3 fM_sums C v3) fM_sumSign C y) C := ag3.mi (by omega) (fun c hc => hM c (Nat.lt_succ_of_lt hc))
        refine wp_if (fun hy0 => ?_) (fun hy0 => ?_)
        · rw [c2_le, i32_0] at hy0
          refine wp_if (fun hC0 => ?_) (fun hC0 => ?_)
          · rw [c2_ne] at hC0
            have hC1 : 1 ≤ C := by
              rcases Nat.eq_zero_or_pos C with e | e
              · exact absurd (Int32.toInt_inj.mp (by rw [ec, e]; rfl)) hC0
              · exact e
            refine wp_vB (tM_isSign L xs (by omega) _ k4 k4.a0) ?_ (fun f => ?_)
            · refine wp_f (by decide) ?_
              refine wp_vZ (tM_fail L xs (by omega) _ _ k4 hb3 k4.q.2.2.2.2.2.1 (k4.an hb3) (by omega)) (fun g5 r5 h5 => ?_)
              exact ⟨0, rfl, Or.inl ⟨rfl, h5.x x3' (by omega)⟩⟩
            · refine wp_t (by decide) ?_
              refine wp_in (k4.1.1.at 28) (by omega) (by omega) ?_
              obtain ⟨w1, w2, w3⟩ := k4.ps hb3 (Ms_lt f)
              have w4 := (w1.upx fM_contexts (g3 fM_contexts - 1) (by decide) (fun hk => absurd hk (by decide))).upx fM_level (g3 fM_level - 1) (by decide) (fun hk => absurd hk (by decide))
              have x5' : Ex g r (upd (upd (upd g3 fM_at (g3 fM_at + 1)) fM_contexts (g3 fM_contexts - 1)) fM_level (g3 fM_level - 1)) (aw (aw r3 fM_sums C v3) fM_sumSign C y) := x3'.trans ⟨(w3.x.1.up (by decide)).up (by decide), w3.2⟩
              obtain ⟨k, rfl⟩ : ∃ e, k = e + 1 := ⟨k - 1, by omega⟩
              rw [lM_behindUnit_2_1]
              have s1 : (g3 fM_contexts - 1).toInt = C := by rw [c3, c1]; exact (i32_dec (by omega)).trans (by omega)
              have lv : (g3 fM_level - 1).toInt = (g fM_level).toInt - 1 := by rw [l3, l1]; exact i32_dec (by omega)
              refine wp_mono (ih k _ _ _ _ _ _ (by omega) hC1 (by omega) ?_ M4 hb3 s1 ?_ ?_ ?_) (kBU_tr x5' (by omega) ?_) (fun _ _ _ hx => hx)
              · show Mst (b - 2) s (((aw (aw r3 fM_sums C v3) fM_sumSign C y fM_sums).2 C).toInt.toNat :: _) _ _
                rw [y1]
                exact w4.le (by omega)
              · show Mi _ ((aw (aw r3 fM_sums C v3) fM_sumSign C y fM_sums).2 C)
                rw [y1]
                exact i3
              · show 0 < ((aw (aw r3 fM_sums C v3) fM_sumSign C y fM_sums).2 C).toInt
                rw [y1]
                exact p3
              · show (C : Int) - 1000 ≤ (g3 fM_level - 1).toInt
                omega
              · show (g3 fM_level - 1).toInt + ((C + 1 : Nat) : Int) = _
                omega
          · rw [c2_ne, Decidable.not_not] at hC0
            have hC1 : C = 0 := by
              rw [hC0, i32_0] at ec
              omega
            subst hC1
            refine wp_in (k3.1.1.at 28) (by decide) (by decide) ?_
            refine ⟨v3, congrArg (fun z : Int32 => some (Value.int z)) (if_pos rfl), Or.inr (Or.inr ⟨p3, i3, x3', hb3, k4.le (by omega), by have e := congrArg Int32.toInt (l3.trans l1); omega⟩)⟩
        · rw [c2_le, i32_0] at hy0
          rcases hy with e | ⟨y5, y6, y7⟩
          · rw [e, i32_0] at hy0
            exact absurd (Int.le_refl 0) hy0
          · have hlt : (g3 fM_at).toInt < (g3 fM_n).toInt := by rw [t3, en3]; exact y7
            obtain ⟨w1, w2, w3⟩ := k4.ps hb3 hlt
            have a1 := n1.2.2
            have a3 := n3.2.2
            refine ⟨0, rfl, Or.inr (Or.inl ⟨rfl, x3'.trans w3.x, ?_, C + 1, Nat.le_refl _, ⟨?_, ?_, hb3, ?_, by omega, by omega⟩, ?_⟩)⟩
            · show _ < (g3 fM_at + 1).toInt
              omega
            · have e : sfl (aw (aw r3 fM_sums C v3) fM_sumSign C y) P (C + 1) = v3.toInt.toNat :: sfl (aw (aw r3 fM_sums C v3) fM_sumSign C y) P C := by
                show (if (aw (aw r3 fM_sums C v3) fM_sumSign C y fM_productSign).2 C = 0 then [] else _) ++ ((if (aw (aw r3 fM_sums C v3) fM_sumSign C y fM_sumSign).2 C = 0 then [] else [((aw (aw r3 fM_sums C v3) fM_sumSign C y fM_sums).2 C).toInt.toNat]) ++ _) = _
                rw [y1, y2, y3, if_pos rfl, if_neg (fun e => by rw [e, i32_0] at y5; omega)]
                rfl
              show Mst b s (sfl (aw (aw r3 fM_sums C v3) fM_sumSign C y) P (C + 1)) _ _
              rw [e]
              exact w1.le (by omega)
            · intro c hc
              by_cases ecc : c = C
              · subst ecc
                refine ⟨fun e => absurd y3 e, fun _ => ?_⟩
                show Mi _ ((aw (aw r3 fM_sums c v3) fM_sumSign c y fM_sums).2 c) ∧ _
                rw [show ((aw (aw r3 fM_sums c v3) fM_sumSign c y fM_sums).2 c) = v3 from y1]
                exact ⟨i3, by have := y1; exact (show 0 < ((aw (aw r3 fM_sums c v3) fM_sumSign c y fM_sums).2 c).toInt by rw [this]; exact p3)⟩
              · exact M4 c (by omega)
            · show (g3 fM_contexts).toInt = _
              rw [c3, c1, hc]
            · show (g3 fM_level).toInt + _ = _
              rw [l3, l1]
      · rw [c2_le] at hc6
        rcases hy with e | ⟨y5, y6, y7⟩
        · rw [e, i32_0] at hc6
          exact absurd (by decide) hc6
        · refine wp_in (k2.1.1.at 31) (by omega) (by omega) ?_
          have k5 := k2.awx fM_productSign C y (by decide) (fun hk => absurd hk (by decide))
          obtain ⟨w1, w2, w3⟩ := k5.ps hb1 y7
          have a1 := n1.2.2
          have ag5 : sag r (aw r2 fM_productSign C y) C := ag.aw (Nat.le_refl _)
          refine ⟨0, rfl, Or.inr (Or.inl ⟨rfl, x1'.trans ⟨(Fm.rf.up (by decide)).aw (by decide), w3.2⟩, ?_, C + 1, Nat.le_refl _, ⟨?_, ?_, hb1, ?_, by omega, by omega⟩, ?_⟩)⟩
          · show _ < (g1 fM_at + 1).toInt
            omega
          · have u1 : (aw r2 fM_productSign C y fM_productSign).2 C = y := aw_at
            have u2 : (aw r2 fM_productSign C y fM_products).2 C = v1 := z1
            have u3 : aw r2 fM_productSign C y fM_sumSign = r fM_sumSign := z3
            have u4 : aw r2 fM_productSign C y fM_sums = r fM_sums := z4
            have e : sfl (aw r2 fM_productSign C y) P (C + 1) = v1.toInt.toNat :: ((if (r fM_sumSign).2 C = 0 then [] else [((r fM_sums).2 C).toInt.toNat]) ++ sfl r P C) := by
              show (if (aw r2 fM_productSign C y fM_productSign).2 C = 0 then [] else [((aw r2 fM_productSign C y fM_products).2 C).toInt.toNat]) ++ ((if (aw r2 fM_productSign C y fM_sumSign).2 C = 0 then [] else [((aw r2 fM_productSign C y fM_sums).2 C).toInt.toNat]) ++ sfl (aw r2 fM_productSign C y) P C) = _
              rw [u1, u2, u3, u4, ag5.sfl, if_neg (fun e => by rw [e, i32_0] at y5; omega)]
              rfl
            show Mst b s (sfl (aw r2 fM_productSign C y) P (C + 1)) _ _
            rw [e]
            exact w1.le (by omega)
          · intro c hc
            by_cases ecc : c = C
            · subst ecc
              refine ⟨fun _ => ?_, fun e => ?_⟩
              · show Mi _ ((r2 fM_products).2 c) ∧ 0 < ((r2 fM_products).2 c).toInt
                rw [z1]
                exact ⟨i1, p1⟩
              · have e' : (r fM_sumSign).2 c ≠ 0 := by rw [← z3]; exact e
                show Mi _ ((r2 fM_sums).2 c) ∧ 0 < ((r2 fM_sums).2 c).toInt
                rw [z4]
                obtain ⟨⟨j1, j2⟩, j3⟩ := m2 e'
                exact ⟨⟨j1, by show _ < (g1 fM_nodes).toInt; omega⟩, j3⟩
            · exact (ag5.mi (g := g) (g' := upd g1 fM_at (g1 fM_at + 1)) nn1 (fun c hc => hM c (Nat.lt_succ_of_lt hc))) c (by omega)
          · show (g1 fM_contexts).toInt = _
            rw [c1, hc]
          · show (g1 fM_level).toInt + _ = _
            rw [l1]
    refine wp_vB (tM_isKind L xs (by omega) _ k2 k2.a0) ?_ (fun f => ?_)
    · refine wp_t (by decide) ?_
      exact goal82 0 (Or.inl rfl) _ rfl
    · have flt := Mk_lt f
      refine wp_f (by decide) ?_
      refine wp_in (k2.1.1.at 1) k2.a0 (by omega) ?_
      refine wp_vB (tM_in L xs (by omega) _ _ _) ?_ (fun f2 => ?_)
      · refine wp_t (by decide) ?_
        exact goal82 0 (Or.inl rfl) _ rfl
      · refine wp_f (by decide) ?_
        refine wp_in (k2.1.1.at 1) k2.a0 (by omega) ?_
        exact goal82 _ (Or.inr ⟨f2.1, f2.2, flt⟩) _ rfl
