/-! The class's clauses: sections and paragraphs, items. -/
section
variable {L : Nat} {xs : Nat → Int32} {m d k0 : Nat} {w : Ws} {f : Gh} {p : Nat} {c : CU} {x : Xs} {g : a2_G} {r : a2_A} {k : Int32 → a2_G → a2_A → Option fn_Z} {kn : a2_G → a2_A → Option fn_Z} {Q : Option Value → a2_G → a2_A → Prop} {n : Nat} {D : Nat → TD} {K : Nat → List Nat} {ids : List Nat} {ch : List Ce}
theorem yC_sectionOrParagraph (h : At w f p n D K g r) (hk1 : wk w p 1 = true) (hc : Cv c f.2.1 f.2.2) (hZ : Zc K D n ids x.1) (hh : Hc (oN c) (oT c).toInt (oI c) x.2 ids f.2.1 f.2.2) (h12 : ∀ i, i + 1 < oN c → oS c i = 12) (h53 : n53 x.1) : pl (ev L xs (m + 1) d nC_sectionOrParagraph [.ref cC] g r) (kTC (if ww w (p + 1) 16 then some (p + 3, attC (if oT c = 9 then oN c + 2 else oN c + 1) x.1 ((23, w.2.1 p, Int32.ofNat p, -1), []), x.2.1, (if oT c = 9 then oN c + 2 else oN c + 1) + 1, 0)
    else some (p + 2, attC (if x.2.2.1 = 0 then oN c + 1 else x.2.2.1) x.1 ((24, w.2.1 p, Int32.ofNat p, -1), []), x.2.1, x.2.2.1, (if x.2.2.1 = 0 then oN c + 1 else x.2.2.1) + 1)) (eB c)) kYT := by
  cases d with
  | zero => trivial
  | succ d =>
    have hcv := h.cv hc
    have hp := (wk_iff.mp hk1).1
    rw [qC_sectionOrParagraph]
    refine pl_e (xR_isReserved L xs 16 1 (j := 1) rfl (by decide) h.1) ?_
    refine pl_n (xC_requireState 8 11 h.ru hcv) (fun _ _ _ _ => trivial) (fun g1 r1 e => ?_)
    obtain ⟨-, eB1, rfl, rfl⟩ := e
    obtain ⟨hN, hs1, hs2⟩ := oB_N eB1 (by decide)
    have hs1' : 8 ≤ (oT c).toInt := hs1
    have hs2' : (oT c).toInt ≤ 11 := hs2
    have hsw := (eB_T (c := c) hN).imp (fun (e : oT c = 9 ∧ (oT (eB c)).toInt = 9) => (⟨t9.mpr e.1, e.2⟩ : (oT c).toInt = 9 ∧ (oT (eB c)).toInt = 9)) (fun (e : oT c ≠ 9 ∧ (oT (eB c)).toInt = 11) => (⟨fun e2 => e.1 (t9.mp e2), e.2⟩ : (oT c).toInt ≠ 9 ∧ (oT (eB c)).toInt = 11))
    have hsecg : ∀ {q n5 D5 K5 g5 r5}, At w f q n5 D5 K5 g5 r5 → g5 fC_section = g1 fC_section := by
      intro q n5 D5 K5 g5 r5 hA5
      have e1 := h.1.2.2.2.2.2.2.2.1 fC_section (by unfold cp15; decide)
      have e2 := hA5.1.2.2.2.2.2.2.2.1 fC_section (by unfold cp15; decide)
      exact e2.trans e1.symm
    cases hw : ww w (p + 1) 16 with
    | true =>
      rw [if_pos rfl]
      refine pl_pos (by decide) ?_
      unfold BC_sectionOrParagraph_31 BC_sectionOrParagraph_36
      refine rl_rT h.ru (fun _ => ?_)
      refine pl_e (xR_place L xs) ?_
      refine pl_neg (by decide) ?_
      rw [h.1.pla]
      unfold BC_sectionOrParagraph_62
      refine rl_rk At.lf h (fun _ g2 h2 _ => ?_)
      refine rl_mk (-1) (Or.inr rfl) h2 (fun g3 r3 h3 _ => ?_)
      refine rl_sk Vt.lf h3 (fun _ g4 h4 _ => ?_) (fun e => absurd e (by rw [hw]; decide))
      refine rl_rk Vt.lf h4 (fun _ g5 h5 _ => ?_)
      refine pl_neg (by decide) ?_
      have hA5 : ∃ n5 D5 K5, At w f (p + 3) n5 D5 K5 g5 r3 := by
        obtain ⟨n5, D5, K5, hA5, -⟩ := h5
        exact ⟨n5, D5, K5, hA5⟩
      obtain ⟨n5, D5, K5, hA5⟩ := hA5
      refine pl_e (xU_state (hA5.cv hc)) ?_
      have hh5 := hA5.hc hh
      have fin : ∀ {i0 : Nat} {a : Int32} (x1 x2 : Int32), Pt ids i0 a → oN c + 1 ≤ i0 → ((oT c).toInt = 9 → oN c + 2 ≤ i0) → pl (BC_sectionOrParagraph_125 L xs (m + 1) d m x1 x2 (Int32.ofNat n) a g5 r3) (kTC (some (p + 3, attC i0 x.1 ((23, w.2.1 p, Int32.ofNat p, -1), []), x.2.1, i0 + 1, 0)) (eB c)) kYT := by
        intro i0 a x1 x2 ha hu h92
        unfold BC_sectionOrParagraph_125 BC_sectionOrParagraph_174
        refine rl_at hZ ha h5 (fun n' D' K' g6 r6 h6 h7 hf6 => ?_)
        have hcv6 : Cv c g6 r6 := h6.cv hc
        refine rl_en (c := sC c true) (fun r7 hr7 => ?_) ?_
        · have hh6 := h6.hc hh
          refine TS.mk h6 (fun k hk => ?_) (fun k hk => hr7 k (fun e => by rw [e] at hk; exact absurd hk (by decide))) h7 ?_ (fun j hj => ?_) (h53.att (by show ((23 : Int32) ≠ 53 ∧ (23 : Int32) ≠ 41); decide))
          · rw [upd_ne (fun e => by rw [e] at hk; exact absurd hk (by decide)), upd_ne (fun e => by rw [e] at hk; exact absurd hk (by decide))]
          · rw [eB_N]
            exact hh6.bd (y := x.2) (sd := i0 + 1) (pd := 0) ⟨hs1', hs2'⟩ hsw ha.lt hu h92 (hr7 _ (by decide)) rfl rfl (Or.inr ⟨by omega, Pt.new ha.lt⟩) (Or.inl ⟨rfl, rfl⟩) (fun _ => ⟨by omega, fun e => by have := h92 e; omega⟩) (fun e => absurd rfl e)
          · rw [eB_N] at hj
            rw [eB_S hj]
            exact h12 j hj
        · obtain ⟨q1, q2, q3, q4, q5, q6, q7, q8, q9⟩ := hcv6
          have hlt := h2.2.lt
          refine ⟨q1, q2, q3, q4, q5, ?_, q7, q8, q9⟩
          show Int32.ofNat n ≠ -1
          intro e
          have e2 := congrArg Int32.toInt e
          rw [on_eq (by omega), show (-1 : Int32).toInt = -1 from rfl] at e2
          omega
      refine pl_if (fun e => ?_) (fun e => ?_)
      · rw [c2_ne] at e
        rw [if_neg e]
        exact fin _ _ (hh5.2.2.1 (by omega) (by omega)) (Nat.le_refl _) (fun e9 => absurd (t9.mp e9) e)
      · rw [c2_ne, Decidable.not_not] at e
        rw [if_pos e]
        exact fin _ _ (hh5.2.2.2.2.2.1 (t9.mpr e)) (by omega) (fun _ => Nat.le_refl _)
    | false =>
      refine pl_neg (by decide) ?_
      rw [if_neg Bool.false_ne_true]
      refine pl_e (yC_mayHold hcv) ?_
      have h36 : ∀ x2 : Int32, (x2 ≠ 0 → (!decide (oT c = 9) || !decide (g1 fC_section = -1)) = true) → pl (BC_sectionOrParagraph_36 L xs (m + 1) d m 0 x2 g1 r1) (kTC (some (p + 2, attC (if x.2.2.1 = 0 then oN c + 1 else x.2.2.1) x.1 ((24, w.2.1 p, Int32.ofNat p, -1), []), x.2.1, x.2.2.1, (if x.2.2.1 = 0 then oN c + 1 else x.2.2.1) + 1)) (eB c)) kYT := by
        intro x2 hm
        unfold BC_sectionOrParagraph_36
        refine rl_rT h.ru (fun hx2 => ?_)
        have hm' := hm hx2
        refine pl_e (xR_place L xs) ?_
        refine pl_pos (by decide) ?_
        rw [h.1.pla]
        unfold BC_sectionOrParagraph_62
        refine rl_rk At.lf h (fun _ g2 h2 _ => ?_)
        refine rl_mk (-1) (Or.inr rfl) h2 (fun g3 r3 h3 _ => ?_)
        refine rl_sk Vt.lf h3 (fun e _ _ _ => absurd e (by rw [hw]; decide)) (fun _ => ?_)
        refine rl_rk Vt.lf h3 (fun _ g5 h5 _ => ?_)
        refine pl_pos (by decide) ?_
        have hA5 : ∃ n5 D5 K5, At w f (p + 2) n5 D5 K5 g5 r3 := by
          obtain ⟨n5, D5, K5, hA5, -⟩ := h5
          exact ⟨n5, D5, K5, hA5⟩
        obtain ⟨n5, D5, K5, hA5⟩ := hA5
        have hh5 := hA5.hc hh
        obtain ⟨p1, p2, p3, p4, p5⟩ := hh5.2.2.2.2.2.2 hs1' hs2'
        obtain ⟨z1, z2⟩ := p1.z hZ h.2.lt
        have h9 : (oT c).toInt = 9 → x.2.2.1 ≠ 0 := fun e0 e1 => by
          rw [decide_eq_true (t9.mp e0), ← hsecg hA5, decide_eq_true (z1.mp e1)] at hm'
          cases hm'
        have fin : ∀ {i0 : Nat} {a : Int32} (x1 x2 : Int32), Pt ids i0 a → oN c + 1 ≤ i0 → ((oT c).toInt = 9 → oN c + 2 ≤ i0) → x.2.2.1 ≤ i0 → pl (BC_sectionOrParagraph_165 L xs (m + 1) d m x1 x2 (Int32.ofNat n) a g5 r3) (kTC (some (p + 2, attC i0 x.1 ((24, w.2.1 p, Int32.ofNat p, -1), []), x.2.1, x.2.2.1, i0 + 1)) (eB c)) kYT := by
          intro i0 a x1 x2 ha hu h92 hsd
          unfold BC_sectionOrParagraph_165 BC_sectionOrParagraph_174
          refine rl_at hZ ha h5 (fun n' D' K' g6 r6 h6 h7 hf6 => ?_)
          have hcv6 : Cv c g6 r6 := h6.cv hc
          refine rl_en (c := c) (fun r7 hr7 => ?_) hcv6
          have hh6 := h6.hc hh
          obtain ⟨y1, y2, y3, y4, y5⟩ := hh6.2.2.2.2.2.2 hs1' hs2'
          refine TS.mk h6 (fun k hk => upd_ne (fun e => by rw [e] at hk; exact absurd hk (by decide))) (fun k hk => hr7 k (fun e => by rw [e] at hk; exact absurd hk (by decide))) h7 ?_ (fun j hj => ?_) (h53.att (by show ((24 : Int32) ≠ 53 ∧ (24 : Int32) ≠ 41); decide))
          · rw [eB_N]
            exact hh6.bd (y := x.2) (sd := x.2.2.1) (pd := i0 + 1) ⟨hs1', hs2'⟩ hsw ha.lt hu h92 (hr7 _ (by decide)) rfl rfl (y1.att hsd ha.lt) (Or.inr ⟨by omega, Pt.new ha.lt⟩) y3 (fun _ => ⟨by omega, by omega, fun e => by have := h92 e; omega⟩)
          · rw [eB_N] at hj
            rw [eB_S hj]
            exact h12 j hj
        refine pl_if (fun e => ?_) (fun e => ?_)
        · rw [c2_ne] at e
          have hsd : x.2.2.1 ≠ 0 := fun e1 => e (z1.mp e1)
          rw [if_neg hsd]
          have o := p3 hsd
          exact fin _ _ (z2 e) (by omega) (fun e9 => by have := o.2 e9; omega) (Nat.le_refl _)
        · rw [c2_ne, Decidable.not_not] at e
          have hsd : x.2.2.1 = 0 := z1.mpr e
          rw [if_pos hsd]
          exact fin _ _ (hh5.2.2.1 (by omega) (by omega)) (Nat.le_refl _) (fun e9 => absurd hsd (h9 e9)) (by omega)
      cases hb : (!decide (oT c = 9) || !decide (g1 fC_section = -1)) with
      | true =>
        refine pl_neg (by decide) ?_
        unfold BC_sectionOrParagraph_31
        exact h36 1 (fun _ => hb)
      | false =>
        refine pl_pos (by decide) ?_
        exact h36 0 (fun e => absurd rfl e)
theorem yI_place {i : Nat} {lv : Int32} {q : Nat} {F : Tf} {dd : TD} (hd53 : (dd.1 ≠ 53 ∧ dd.1 ≠ 41)) (hc : Cv c f.2.1 f.2.2) (hs : 5 ≤ (oT c).toInt ∧ (oT c).toInt ≤ 7) (hi : i ≤ oI c) (h88 : lv = 88 → i = oI c) (hZ : Zc K D n ids x.1) (hh : Hc (oN c) (oT c).toInt (oI c) x.2 ids f.2.1 f.2.2) (h12 : ∀ i, i + 1 < oN c → oS c i = 12) (h53 : n53 x.1) (hv : Vt NP w f n D K q n (nd dd F) g r) : pl (ev L xs (m + 1) d nI_place [.ref cI, .int (Int32.ofNat n), .int lv, .int (Int32.ofNat i)] g r) (kTC (some (q, attC (x.2.1 + i) x.1 (dd, F), x.2)) (sP c lv i)) kYT := by
  cases d with
  | zero => trivial
  | succ d =>
    have hA1 : ∃ n1 D1 K1, At w f q n1 D1 K1 g r := by
      obtain ⟨n1, D1, K1, hA, -⟩ := hv
      exact ⟨n1, D1, K1, hA⟩
    obtain ⟨n1, D1, K1, hA1⟩ := hA1
    have hcv := hA1.cv hc
    have hh1 := hA1.hc hh
    obtain ⟨w1, w5, w2, w3⟩ := hh1.2.2.2.2.1 hs.1 hs.2
    have h49 := hcv.2.2.2.2.2.2.2.1
    have ek : (Int32.ofNat i).toInt = i := on_eq (by omega)
    have en : (Int32.ofNat i).toNatClampNeg = i := tn_at ek
    have hsN : oN (sP c lv i) = oN c := by
      unfold sP
      split <;> rfl
    have hsT : oT (sP c lv i) = oT c := by
      unfold sP
      split <;> rfl
    have hsS : ∀ j, oS (sP c lv i) j = oS c j := by
      intro j
      unfold sP
      split <;> rfl
    have h41 : ∀ x4 a, Pt ids (x.2.1 + i) a → pl (BI_place_41 L xs (m + 1) d m (Int32.ofNat n) lv (Int32.ofNat i) x4 a g r) (kTC (some (q, attC (x.2.1 + i) x.1 (dd, F), x.2)) (sP c lv i)) kYT := by
      intro x4 a ha
      unfold BI_place_41 BI_place_82
      refine rl_at hZ ha hv (fun n' D' K' g2 r2 h2 h3 hf2 => ?_)
      have hh2 := h2.hc hh
      obtain ⟨v1, v5, v2, v3⟩ := hh2.2.2.2.2.1 hs.1 hs.2
      have base : ∀ {g3 : a2_G} {r3 : a2_A} {io : Nat}, r3 fU_handles = r2 fU_handles → g3 fC_openDivision = g2 fC_openDivision → g3 fC_section = g2 fC_section → g3 fI_holder = g2 fI_holder → (∀ j, j < io → Pt (attI (x.2.1 + i) ids n) (x.2.1 + 1 + j) ((r3 fI_openHandles).2 j)) → Hc (oN c) (oT c).toInt io x.2 (attI (x.2.1 + i) ids n) g3 r3 := by
        intro g3 r3 io hr hg1 hg2 hg3 hio
        refine ⟨hh2.1.att (by omega) ha.lt, fun j hj => ?_, fun a1 a2 => ?_, fun a1 a2 => ?_, fun a1 a2 => ⟨v1, v5, ?_, hio⟩, fun e => by omega, fun a1 _ => by omega⟩
        · rw [hr]
          exact (hh2.2.1 j hj).att (by omega) ha.lt
        · rw [hg1]
          exact (hh2.2.2.1 a1 a2).att (by omega) ha.lt
        · rw [hg2]
          exact (hh2.2.2.2.1 a1 a2).att (by omega) ha.lt
        · rw [hg3]
          exact v2.att (by omega) ha.lt
      have same : sP c lv i = c → i = oI c → pl (some (.inl none, g2, r2)) (kTC (some (q, attC (x.2.1 + i) x.1 (dd, F), x.2)) (sP c lv i)) kYT := by
        intro e1 e2
        rw [e1]
        exact TS.mk h2 (fun _ _ => rfl) (fun _ _ => rfl) h3 (base rfl rfl rfl rfl (fun j hj => (v3 j hj).att (by omega) ha.lt)) h12 (h53.att hd53)
      refine pl_if (fun e => ?_) (fun e => ?_)
      · rw [c2_eq] at e
        exact same (by unfold sP; rw [if_pos (Or.inl e)]) (h88 e)
      · rw [c2_eq] at e
        refine pl_neg (by rw [c2_lt, ek]; show ¬ (i : Int) < 0; omega) ?_
        refine pl_if (fun e2 => ?_) (fun e2 => ?_)
        · rw [c2_ge, ek] at e2
          have e2' : (49 : Int) ≤ i := e2
          exact same (by unfold sP; rw [if_pos (Or.inr (by omega))]) (by omega)
        · rw [c2_ge, ek] at e2
          have e2' : ¬ (49 : Int) ≤ i := e2
          rw [en]
          refine pl_if (fun _ => pl_if (fun _ => ?_) (fun _ => trivial)) (fun _ => trivial)
          have e3 : sP c lv i = (oN c, oS c, oK c, oM c, oC c, i + 1, upd (oL c) i lv) := by
            unfold sP
            rw [if_neg (fun e3 => e3.elim e (fun e4 => by omega))]
          refine TS.mk h2 (fun k hk => upd_ne (fun e => by rw [e] at hk; exact absurd hk (by decide))) (fun k hk => ?_) h3 ?_ (fun j hj => ?_) (h53.att hd53)
          · have hne : ∀ j, 7 ≤ j / 100 → k ≠ j := fun j hj e => by rw [e] at hk; omega
            show a2_ua _ _ _ k = _
            simp only [a2_ua, if_neg (hne fI_openHandles (by decide)), if_neg (hne fI_openLevels (by decide))]
          · rw [hsN, hsT, show oI (sP c lv i) = i + 1 by rw [e3]; rfl]
            refine base rfl rfl rfl rfl (fun j hj => ?_)
            show Pt _ _ (upd (r2 fI_openHandles).2 i (Int32.ofNat n) j)
            by_cases ej : j = i
            · rw [ej, upd_eq, show x.2.1 + 1 + i = x.2.1 + i + 1 by omega]
              exact Pt.new ha.lt
            · rw [upd_ne ej]
              exact (v3 j (by omega)).att (by omega) ha.lt
          · rw [hsN] at hj
            rw [hsS]
            exact h12 j hj
    rw [qI_place]
    unfold BI_place_14 BI_place_15
    refine pl_if (fun e => ?_) (fun e => ?_)
    · rw [c2_le, ek] at e
      have e' : (i : Int) ≤ 0 := e
      refine pl_pos (by decide) (h41 _ _ ?_)
      rw [show x.2.1 + i = x.2.1 by omega]
      exact w2
    · rw [c2_le, ek] at e
      have e' : ¬ (i : Int) ≤ 0 := e
      refine pl_neg (by rw [c2_gt, ek]; show ¬ (49 : Int) < (i : Int); omega) ?_
      refine pl_neg (by decide) ?_
      refine pl_if (fun _ => h41 _ _ ?_) (fun _ => trivial)
      have e1 : (Int32.ofNat i - 1).toNatClampNeg = i - 1 := by
        rw [nc_eq, i32_dec (x := Int32.ofNat i) (by omega)]
        omega
      rw [e1]
      have := w3 (i - 1) (by omega)
      rw [show x.2.1 + 1 + (i - 1) = x.2.1 + i by omega] at this
      exact this
end
