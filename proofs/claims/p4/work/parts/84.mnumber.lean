/-! The model's numberAll: a walk through the forest. -/
theorem tr_Up.sn {A : Nat → Prop} {n a : Nat → Nat} : ∀ {k t s : Nat}, tr_Up A n a k t s → n s = 0 → A (a s) → tr_Up A n a (k + 1) t (a s)
  | 0, t, s, h, hn, ha => by
    obtain ⟨rfl, h2⟩ := h
    exact ⟨hn, h2, rfl, ha⟩
  | k + 1, t, s, h, hn, ha => ⟨h.1, h.2.1, h.2.2.sn hn ha⟩
theorem vf_z {r : a2_A} {q i : Nat} (h : In8 ((r q).2 i)) : (vf r q i = 0) = ((r q).2 i = 0) := propext ⟨fun e => Int32.toInt_inj.mp (by unfold vf at e; rw [i32_0]; have := h.1; omega), fun e => by unfold vf; rw [e]; rfl⟩
theorem tM_na85 (L : Nat) (xs : Nat → Int32) {m d : Nat} {A : Nat → Prop} {N : Nat} {g : a2_G} {r : a2_A} (hT : TF A N r) (hN : N ≤ 8000) (hML : ML r) (hMR : MR r) {t0 : Nat} (hA0 : A t0) (hf0 : vf r fM_first t0 = 0) {Q : Option Value → a2_G → a2_A → Prop} : ∀ (S : List Nat) (k j : Nat) (c x3 : Int32), tr_Pa A (vf r fM_above) (nt c) S → tr_Up A (vf r fM_next) (vf r fM_above) j t0 (nt c) → 0 ≤ c.toInt → S.length + 1 < k → (∀ (k' : Nat) (u x3' : Int32) (S' : List Nat), k ≤ k' + S.length + 1 → 0 ≤ u.toInt → (u = 0 ∨ tr_Sc A (vf r fM_first) (vf r fM_next) (vf r fM_above) t0 (nt u) ∧ tr_Pa A (vf r fM_above) (nt u) S' ∧ S'.length ≤ S.length) → wp (BM_numberAll_9 L xs (m + 1) d k' 0 u x3' g r) Q kN) → wp (BM_numberAll_85 L xs (m + 1) d k 0 c x3 g r) Q kN := by
  intro S
  induction S with
  | nil =>
    intro k j c x3 hp hu hc hk hK
    obtain ⟨k, rfl⟩ : ∃ e, k = e + 1 := ⟨k - 1, by omega⟩
    have hA := hp.1
    have hlt := (hT.1 _ hA).2.1
    have hlt : c.toInt.toNat < N := hlt
    have inx := hMR.at 3 c.toInt.toNat
    have iab := hMR.at 4 c.toInt.toNat
    have za : (r fM_above).2 c.toInt.toNat = 0 := by
      rw [← vf_z iab]
      exact hp.2
    unfold BM_numberAll_85 BM_numberAll_117
    rw [nc_eq]
    refine wp_in (hML.at 10) hc (by omega) ?_
    refine wp_if (fun hz => ?_) (fun hz => ?_)
    · rw [c2_ne] at hz
      refine wp_in (hML.at 10) hc (by omega) ?_
      rw [lM_numberAll_9]
      have hz' : vf r fM_next (nt c) ≠ 0 := fun e => hz ((vf_z inx).mp e)
      obtain ⟨n1, n2, n3⟩ := hT.2.2.1 _ hA hz'
      refine hK k _ _ [] (by simp) inx.1 (Or.inr ⟨Or.inr ⟨hA0, hf0, j, nt c, hu, hz', rfl⟩, ⟨n1, ?_⟩, Nat.le_refl _⟩)
      exact n2.trans hp.2
    · rw [c2_ne, Decidable.not_not] at hz
      refine wp_in (hML.at 11) hc (by omega) ?_
      refine wp_t (by rw [c2_eq]; exact za) ?_
      refine wp_in (hML.at 10) hc (by omega) ?_
      rw [lM_numberAll_9]
      exact hK k _ _ [] (by simp) inx.1 (Or.inl hz)
  | cons p S ih =>
    intro k j c x3 hp hu hc hk hK
    obtain ⟨k, rfl⟩ : ∃ e, k = e + 1 := ⟨k - 1, by omega⟩
    have hl : (p :: S).length = S.length + 1 := rfl
    have hA := hp.1
    have hlt : c.toInt.toNat < N := (hT.1 _ hA).2.1
    have inx := hMR.at 3 c.toInt.toNat
    have iab := hMR.at 4 c.toInt.toNat
    have hpp := hp.2.1
    have hPp := tr_pa hp.2.2
    have p0 := (hT.1 _ hPp).1
    have ea : vf r fM_above (nt c) = p := hpp
    unfold BM_numberAll_85 BM_numberAll_117
    rw [nc_eq]
    refine wp_in (hML.at 10) hc (by omega) ?_
    refine wp_if (fun hz => ?_) (fun hz => ?_)
    · rw [c2_ne] at hz
      refine wp_in (hML.at 10) hc (by omega) ?_
      rw [lM_numberAll_9]
      have hz' : vf r fM_next (nt c) ≠ 0 := fun e => hz ((vf_z inx).mp e)
      obtain ⟨n1, n2, n3⟩ := hT.2.2.1 _ hA hz'
      refine hK k _ _ (p :: S) (by omega) inx.1 (Or.inr ⟨Or.inr ⟨hA0, hf0, j, nt c, hu, hz', rfl⟩, ⟨n1, n2.trans ea, hp.2.2⟩, Nat.le_refl _⟩)
    · rw [c2_ne, Decidable.not_not] at hz
      refine wp_in (hML.at 11) hc (by omega) ?_
      refine wp_f (by rw [c2_eq]; exact fun e => by have e2 : p = 0 := ea.symm.trans ((vf_z iab).mpr e); omega) ?_
      refine wp_in (hML.at 11) hc (by omega) ?_
      rw [lM_numberAll_85]
      have hz' : vf r fM_next (nt c) = 0 := (vf_z inx).mpr hz
      refine ih k (j + 1) _ _ ?_ ?_ iab.1 (by omega) (fun k' u x3' S' h1 h2 h3 => hK k' u x3' S' (by omega) h2 (h3.elim Or.inl (fun h4 => Or.inr ⟨h4.1, h4.2.1, by have := h4.2.2; omega⟩)))
      · show tr_Pa A (vf r fM_above) (vf r fM_above (nt c)) S
        rw [ea]
        exact hp.2.2
      · show tr_Up A _ _ (j + 1) t0 (vf r fM_above (nt c))
        exact hu.sn hz' (by rw [ea]; exact hPp)
theorem tr_kp {A : Nat → Prop} {N : Nat} {r r' : a2_A} (hT : TF A N r) (h1 : r' fM_first = r fM_first) (h2 : r' fM_last = r fM_last) (h3 : r' fM_next = r fM_next) (h4 : r' fM_above = r fM_above) : TF A N r' := by
  unfold TF vf at hT ⊢
  rw [h1, h2, h3, h4]
  exact hT
def kNA (N : Nat) (g : a2_G) (r : a2_A) : Option Value → a2_G → a2_A → Prop := fun o g' r' => o = none ∧ Fm [fM_told, fM_deepest] [fM_number, fM_order] g r g' r' ∧ ML r' ∧ MR r' ∧ 0 ≤ (g' fM_told).toInt ∧ (g' fM_told).toInt ≤ 8000 ∧ ∀ i : Nat, (i : Int) < (g' fM_told).toInt → ((r' fM_order).2 i).toInt.toNat < N
theorem tM_na9 (L : Nat) (xs : Nat → Int32) {m d : Nat} {A : Nat → Prop} {N : Nat} {g0 : a2_G} {r0 : a2_A} (hT : TF A N r0) (hN0 : 0 < N) (hN : N ≤ 8000) (hs : vf r0 fM_first 0 ≠ 0) {c : Nat} (hcc : 8005 ≤ c) : ∀ (n k : Nat) (W S : List Nat) (x2 x3 : Int32) (g : a2_G) (r : a2_A), N ≤ W.length + n → n * c < k → Fm [fM_told, fM_deepest] [fM_number, fM_order] g0 r0 g r → ML r → MR r → (g fM_told).toInt = W.length → W.length ≤ 8000 → (∀ i : Nat, i < W.length → ((r fM_order).2 i).toInt.toNat < N) → 0 ≤ x2.toInt → (x2 = 0 ∨ wk_Ch (tr_Sc A (vf r0 fM_first) (vf r0 fM_next) (vf r0 fM_above)) (vf r0 fM_first 0) (nt x2 :: W) ∧ (nt x2 :: W).Nodup ∧ (∀ y, y ∈ nt x2 :: W → A y) ∧ tr_Pa A (vf r0 fM_above) (nt x2) S ∧ S.length ≤ W.length) → wp (BM_numberAll_9 L xs (m + 1) d k 0 x2 x3 g r) (kNA N g0 r0) kN := by
  intro n
  induction n with
  | zero =>
    intro k W S x2 x3 g r hn hk hF hML hMR hto hW hor hx hst
    rcases hst with rfl | ⟨-, h2, h3, -, -⟩
    · unfold BM_numberAll_9
      refine wp_t (by decide) ?_
      exact ⟨rfl, hF, hML, hMR, (by rw [hto]; exact Int.natCast_nonneg _), (by rw [hto]; exact Int.ofNat_le.mpr hW), fun i hi => hor i (by rw [hto] at hi; exact Int.ofNat_lt.mp hi)⟩
    · have := wk_len N _ h2 (fun y hy => (hT.1 y (h3 y hy)).2.1)
      rw [List.length_cons] at this
      omega
  | succ n ih =>
    intro k W S x2 x3 g r hn hk hF hML hMR hto hW hor hx hst
    rw [Nat.succ_mul] at hk
    rcases hst with rfl | ⟨h1, h2, h3, h4, h5⟩
    · unfold BM_numberAll_9
      refine wp_t (by decide) ?_
      exact ⟨rfl, hF, hML, hMR, (by rw [hto]; exact Int.natCast_nonneg _), (by rw [hto]; exact Int.ofNat_le.mpr hW), fun i hi => hor i (by rw [hto] at hi; exact Int.ofNat_lt.mp hi)⟩
    · have hA := h3 _ List.mem_cons_self
      have hlt := (hT.1 _ hA).2.1
      have hpos := (hT.1 _ hA).1
      have hlt : x2.toInt.toNat < N := hlt
      have hpos : 0 < x2.toInt.toNat := hpos
      have hl := wk_len N _ h2 (fun y hy => (hT.1 y (h3 y hy)).2.1)
      rw [List.length_cons] at hl
      have i8 : In8 x2 := ⟨hx, by omega⟩
      have ec : (g fM_told).toNatClampNeg = W.length := by rw [nc_eq, hto]; rfl
      have f60 : ∀ x4, wp (BM_numberAll_60 L xs (m + 1) d k 0 x2 x3 x4 (upd g fM_told (g fM_told + 1)) (aw (aw r fM_number x2.toNatClampNeg (g fM_told)) fM_order W.length x2)) (kNA N g0 r0) kN := by
        intro x4
        have ML2 : ML (aw (aw r fM_number x2.toNatClampNeg (g fM_told)) fM_order W.length x2) := (hML.aw _ _ _).aw _ _ _
        have MR2 : MR (aw (aw r fM_number x2.toNatClampNeg (g fM_told)) fM_order W.length x2) := (hMR.aw _ _ _ (fun hk => absurd hk (by decide)) (fun hk => absurd hk (by decide))).aw _ _ _ (fun _ => i8) (fun hk => absurd hk (by decide))
        have F2 : Fm [fM_told, fM_deepest] [fM_number, fM_order] g0 r0 (upd (upd g fM_told (g fM_told + 1)) fM_deepest x4) (aw (aw r fM_number x2.toNatClampNeg (g fM_told)) fM_order W.length x2) := (((hF.up (by decide)).up (by decide)).aw (by decide)).aw (by decide)
        have e1 : aw (aw r fM_number x2.toNatClampNeg (g fM_told)) fM_order W.length x2 fM_first = r0 fM_first := F2.2 fM_first (by decide)
        have e2 : aw (aw r fM_number x2.toNatClampNeg (g fM_told)) fM_order W.length x2 fM_last = r0 fM_last := F2.2 fM_last (by decide)
        have e3 : aw (aw r fM_number x2.toNatClampNeg (g fM_told)) fM_order W.length x2 fM_next = r0 fM_next := F2.2 fM_next (by decide)
        have e4 : aw (aw r fM_number x2.toNatClampNeg (g fM_told)) fM_order W.length x2 fM_above = r0 fM_above := F2.2 fM_above (by decide)
        have v1 : vf (aw (aw r fM_number x2.toNatClampNeg (g fM_told)) fM_order W.length x2) fM_first = vf r0 fM_first := by unfold vf; rw [e1]
        have v3 : vf (aw (aw r fM_number x2.toNatClampNeg (g fM_told)) fM_order W.length x2) fM_next = vf r0 fM_next := by unfold vf; rw [e3]
        have v4 : vf (aw (aw r fM_number x2.toNatClampNeg (g fM_told)) fM_order W.length x2) fM_above = vf r0 fM_above := by unfold vf; rw [e4]
        have T2 : TF A N (aw (aw r fM_number x2.toNatClampNeg (g fM_told)) fM_order W.length x2) := tr_kp hT e1 e2 e3 e4
        have to2 : (upd (upd g fM_told (g fM_told + 1)) fM_deepest x4 fM_told).toInt = ((nt x2 :: W).length : Int) := by
          show (g fM_told + 1).toInt = _
          rw [i32_inc (by omega), hto, List.length_cons]
          rfl
        have or2 : ∀ i : Nat, i < (nt x2 :: W).length → ((aw (aw r fM_number x2.toNatClampNeg (g fM_told)) fM_order W.length x2 fM_order).2 i).toInt.toNat < N := by
          intro i hi
          rw [List.length_cons] at hi
          by_cases ei : i = W.length
          · rw [ei, aw_at]
            exact hlt
          · rw [aw_nt ei]
            exact hor i (by omega)
        have nxt : ∀ (k' : Nat) (u x3' : Int32) (S' : List Nat), n * c < k' → 0 ≤ u.toInt → (u = 0 ∨ tr_Sc A (vf r0 fM_first) (vf r0 fM_next) (vf r0 fM_above) (nt x2) (nt u) ∧ tr_Pa A (vf r0 fM_above) (nt u) S' ∧ S'.length ≤ W.length + 1) → wp (BM_numberAll_9 L xs (m + 1) d k' 0 u x3' (upd (upd g fM_told (g fM_told + 1)) fM_deepest x4) (aw (aw r fM_number x2.toNatClampNeg (g fM_told)) fM_order W.length x2)) (kNA N g0 r0) kN := by
          intro k' u x3' S' hk' hu hcase
          refine ih k' (nt x2 :: W) S' u x3' _ _ (by rw [List.length_cons]; omega) hk' F2 ML2 MR2 to2 (by rw [List.length_cons]; omega) or2 hu ?_
          rcases hcase with e | ⟨c1, c2, c3⟩
          · exact Or.inl e
          · refine Or.inr ⟨⟨c1, h1⟩, ?_, fun y hy => ?_, c2, by rw [List.length_cons]; exact c3⟩
            · exact List.nodup_cons.mpr ⟨wk_new (tr_inj hT) (tr_no hT hN0 hs) h1 h2 c1, h2⟩
            · rcases List.mem_cons.mp hy with rfl | hy
              · exact tr_pa c2
              · exact h3 y hy
        have inf := MR2.at 1 x2.toInt.toNat
        unfold BM_numberAll_60
        refine wp_in (ML2.at 8) hx (by omega) ?_
        refine wp_if (fun hz => ?_) (fun hz => ?_)
        · rw [c2_le, i32_0] at hz
          have hz' : ((aw (aw r fM_number x2.toNatClampNeg (g fM_told)) fM_order W.length x2 fM_first).2 x2.toInt.toNat).toInt ≤ 0 := hz
          have z0 : (aw (aw r fM_number x2.toNatClampNeg (g fM_told)) fM_order W.length x2 fM_first).2 x2.toInt.toNat = 0 := Int32.toInt_inj.mp (by rw [i32_0]; have := inf.1; omega)
          have hf0 : vf (aw (aw r fM_number x2.toNatClampNeg (g fM_told)) fM_order W.length x2) fM_first (nt x2) = 0 := (vf_z inf).mpr z0
          refine tM_na85 L xs T2 hN ML2 MR2 hA hf0 S k 0 x2 x3 (by rw [v4]; exact h4) ⟨rfl, hA⟩ hx (by omega) (fun k' u x3' S' q1 q2 q3 => ?_)
          rw [v1, v3, v4] at q3
          refine nxt k' u x3' S' (by omega) q2 (q3.elim Or.inl (fun q4 => Or.inr ⟨q4.1, q4.2.1, by have := q4.2.2; omega⟩))
        · rw [c2_le, i32_0] at hz
          have hz' : ¬ ((aw (aw r fM_number x2.toNatClampNeg (g fM_told)) fM_order W.length x2 fM_first).2 x2.toInt.toNat).toInt ≤ 0 := hz
          refine wp_in (ML2.at 8) hx (by omega) ?_
          obtain ⟨k, rfl⟩ : ∃ e, k = e + 1 := ⟨k - 1, by omega⟩
          rw [lM_numberAll_9]
          have hf1 : vf r0 fM_first (nt x2) ≠ 0 := by
            rw [← v1]
            intro e
            rw [(vf_z inf).mp e] at hz'
            exact hz' (by decide)
          obtain ⟨z1, z2, -, -⟩ := hT.2.1 (nt x2) hlt hf1
          have eu : nt ((aw (aw r fM_number x2.toNatClampNeg (g fM_told)) fM_order W.length x2 fM_first).2 x2.toNatClampNeg) = vf r0 fM_first (nt x2) := by rw [← v1]; rfl
          refine nxt k _ _ (nt x2 :: S) (by omega) inf.1 (Or.inr ⟨Or.inl ⟨hA, hf1, eu⟩, ?_, by rw [List.length_cons]; omega⟩)
          rw [eu]
          exact ⟨z1, z2, h4⟩
      unfold BM_numberAll_9
      refine wp_f (by rw [c2_le, i32_0]; omega) ?_
      refine wp_in (hML.at 12) hx (by omega) ?_
      refine wp_in (hML.at 13) (by omega) (by omega) ?_
      rw [ec]
      exact wp_if (fun _ => f60 _) (fun _ => f60 _)
theorem tM_numberAll (L : Nat) (xs : Nat → Int32) {m d : Nat} (hm : 4294967296 ≤ m) (hd : 1 ≤ d) {N : Nat} {g : a2_G} {r : a2_A} (hT : TP [] N r) (hN0 : 0 < N) (hN : N ≤ 8000) (hML : ML r) (hMR : MR r) (ht : g fM_told = 0) : wp (ev L xs (m + 1) d nM_numberAll [.ref cM, .int 0] g r) (kNA N g r) kN := by
  obtain ⟨d, rfl⟩ : ∃ e, d = e + 1 := ⟨d - 1, by omega⟩
  obtain ⟨A, hT, -, -⟩ := hT
  have inf := hMR.at 1 0
  rw [qM_numberAll]
  refine wp_in (hML.at 8) (by decide) (by decide) ?_
  by_cases hz : (r fM_first).2 0 = 0
  · show wp (BM_numberAll_9 L xs (m + 1) d m 0 ((r fM_first).2 0) 1 g r) (kNA N g r) kN
    rw [hz]
    unfold BM_numberAll_9
    refine wp_t (by decide) ?_
    exact ⟨rfl, Fm.rf, hML, hMR, by rw [ht]; decide, by rw [ht]; decide, fun i hi => by rw [ht, i32_0] at hi; omega⟩
  · have hs : vf r fM_first 0 ≠ 0 := fun e => hz ((vf_z inf).mp e)
    obtain ⟨z1, z2, -, -⟩ := hT.2.1 0 hN0 hs
    refine tM_na9 L xs hT hN0 hN hs (c := 8010) (by decide) N m [] [] _ 1 g r (by simp) (Nat.lt_of_le_of_lt (Nat.mul_le_mul_right 8010 hN) (Nat.lt_of_lt_of_le (by decide) hm)) Fm.rf hML hMR (by rw [ht]; rfl) (by simp) (fun i hi => absurd hi (Nat.not_lt_zero i)) inf.1 (Or.inr ⟨rfl, ?_, fun y hy => ?_, ⟨z1, z2⟩, Nat.le_refl _⟩)
    · exact List.nodup_cons.mpr ⟨(fun h => nomatch h), List.nodup_nil⟩
    · rw [List.mem_singleton.mp hy]
      exact z1
