/-! The class's clauses: sections, paragraphs, sentences. -/
section
variable {L : Nat} {xs : Nat → Int32} {m d k0 : Nat} {w : Ws} {f : Gh} {p : Nat} {c : CU} {x : Xs} {g : a2_G} {r : a2_A} {k : Int32 → a2_G → a2_A → Option fn_Z} {kn : a2_G → a2_A → Option fn_Z} {Q : Option Value → a2_G → a2_A → Prop} {n : Nat} {D : Nat → TD} {K : Nat → List Nat} {ids : List Nat} {ch : List Ce}
theorem Po.z {i : Nat} {a : Int32} (hZ : Zc K D n ids ch) (hn : n ≤ 5000000) (h : Po ids i a) : (i = 0 ↔ a = -1) ∧ (a ≠ -1 → Pt ids i a) := by
  rcases h with ⟨h1, h2⟩ | ⟨h1, h2⟩
  · exact ⟨⟨fun _ => h2, fun _ => h1⟩, fun e => absurd h2 e⟩
  · have hne : a ≠ -1 := by
      obtain ⟨t, h3, rfl⟩ := h2
      have := (Zc.ge hZ h3).2
      intro e
      have e2 := congrArg Int32.toInt e
      rw [on_eq (by omega), show (-1 : Int32).toInt = -1 from rfl] at e2
      omega
    exact ⟨⟨fun e => absurd e h1, fun e => absurd e hne⟩, fun _ => h2⟩
theorem rl_eB {st0 : Int} (hs : (oT c).toInt = st0) (hcv : oT c = oT c) (hst : pl (ev L xs (m + 1) d nU_state [.ref cU] g r) (kE g r (oT c)) kN) (hk : ∀ r', (∀ q, q ≠ fU_states → r' q = r q) → pl (kn g r') Q kYT) (d' : Nat) (hd : d' = d + 1) : pl (fn_n (ev L xs (m + 1) d' nC_enterBody [.ref cC] g r) kn) Q kYT := by
  subst hd
  refine pl_n (Q1 := fun o g' r' => g' = g ∧ ∀ q, q ≠ fU_states → r' q = r q) (X1 := kYT) ?_ (fun _ _ _ _ => trivial) (fun g' r' e => ?_)
  · rw [qC_enterBody]
    unfold BC_enterBody_21
    refine pl_e hst ?_
    refine pl_if (fun _ => ⟨rfl, fun _ _ => rfl⟩) (fun _ => ?_)
    exact rl_ss (fun r' hr' => ⟨rfl, hr'⟩)
  · obtain ⟨rfl, e2⟩ := e
    exact hk r' e2
theorem rl_en (hk : ∀ r', (∀ q, q ≠ fU_states → r' q = r q) → pl (kn g r') Q kYT) (hcv : Cv c g r) : pl (fn_n (ev L xs (m + 1) d nC_enterBody [.ref cC] g r) kn) Q kYT := by
  cases d with
  | zero => exact trivial
  | succ d => exact rl_eB rfl rfl (xU_state hcv) hk _ rfl
theorem eB_N : oN (eB c) = oN c := by
  unfold eB
  split
  · rfl
  · exact oN_ss
theorem eB_S {i : Nat} (h : i + 1 < oN c) : oS (eB c) i = oS c i := by
  unfold eB
  split
  · rfl
  · exact oS_ss h
theorem eB_T (hN : oN c ≠ 0) : (oT c = 9 ∧ (oT (eB c)).toInt = 9) ∨ (oT c ≠ 9 ∧ (oT (eB c)).toInt = 11) := by
  unfold eB
  by_cases e : oT c = 9
  · rw [if_pos e]
    left
    exact ⟨e, by rw [e]; rfl⟩
  · rw [if_neg e, oT_ss hN]
    exact Or.inr ⟨e, rfl⟩
theorem yC_mayHold (hcv : Cv c g r) : pl (ev L xs (m + 1) d nC_mayHoldSentences [.ref cC] g r) (kE g r (b2i (!decide (oT c = 9) || !decide (g fC_section = -1)))) kN := by
  cases d with
  | zero => trivial
  | succ d =>
    rw [qC_mayHoldSentences]
    unfold BC_mayHoldSentences_20 BC_mayHoldSentences_25
    refine pl_e (xU_state hcv) ?_
    refine pl_if (fun e => pl_pos (by decide) ⟨?_, rfl, rfl⟩) (fun e => pl_if (fun e2 => pl_pos (by decide) ⟨?_, rfl, rfl⟩) (fun e2 => pl_pos (by decide) ⟨?_, rfl, rfl⟩))
    · rw [c2_ne] at e
      rw [decide_eq_false e]
      rfl
    · rw [c2_ne, Decidable.not_not] at e
      rw [c2_eq] at e2
      rw [decide_eq_true e, decide_eq_true e2]
      rfl
    · rw [c2_ne, Decidable.not_not] at e
      rw [c2_eq] at e2
      rw [decide_eq_true e, decide_eq_false e2]
      rfl
/-- behind a node hung in the procedure division -/
theorem Hc.bd {u : Nat} {st st' : Int} {io io' : Nat} {y : Nat × Nat × Nat} {g' : a2_G} {r' : a2_A} {i0 sd pd : Nat} (hh : Hc u st io y ids g r) (hs : 8 ≤ st ∧ st ≤ 11) (hs' : st = 9 ∧ st' = 9 ∨ st ≠ 9 ∧ st' = 11) (hi : i0 < ids.length) (hu : u + 1 ≤ i0) (h9 : st = 9 → u + 2 ≤ i0) (hr : r' fU_handles = r fU_handles) (hd : g' fC_openDivision = g fC_openDivision) (he : g' fC_declaratives = g fC_declaratives) (hsd : Po (attI i0 ids n) sd (g' fC_section)) (hpd : Po (attI i0 ids n) pd (g' fC_paragraph)) (o1 : sd ≠ 0 → u + 2 ≤ sd ∧ (st = 9 → u + 3 ≤ sd)) (o2 : pd ≠ 0 → u + 2 ≤ pd ∧ sd < pd ∧ (st = 9 → u + 3 ≤ pd)) : Hc u st' io' (y.1, sd, pd) (attI i0 ids n) g' r' := by
  refine ⟨hh.1.att (by omega) hi, fun j hj => ?_, fun _ _ => ?_, fun _ _ => by omega, fun _ _ => by omega, fun e => ?_, fun _ _ => ⟨hsd, hpd, fun e => ⟨(o1 e).1, fun e2 => (o1 e).2 (by omega)⟩, fun e => ⟨(o2 e).1, (o2 e).2.1, fun e2 => (o2 e).2.2 (by omega)⟩, fun e => by omega⟩⟩
  · rw [hr]
    exact (hh.2.1 j hj).att (by omega) hi
  · rw [hd]
    exact (hh.2.2.1 (by omega) (by omega)).att hu hi
  · rw [he]
    exact (hh.2.2.2.2.2.1 (by omega)).att (h9 (by omega)) hi
theorem t9 {a : Int32} : a.toInt = 9 ↔ a = 9 := ⟨fun e => Int32.toInt_inj.mp e, fun e => by rw [e]; rfl⟩
theorem yC_sentence (h : At w f p n D K g r) (hc : Cv c f.2.1 f.2.2) (hZ : Zc K D n ids x.1) (hh : Hc (oN c) (oT c).toInt (oI c) x.2 ids f.2.1 f.2.2) (h12 : ∀ i, i + 1 < oN c → oS c i = 12) (h53 : n53 x.1) : pl (ev L xs (m + 1) d nC_sentence [.ref cC] g r) (kTC (match tv w 11 p none [] with
    | some (q, _, F) => some (q + 1, attC (if x.2.2.2 = 0 then (if x.2.2.1 = 0 then oN c + 1 else x.2.2.1) else x.2.2.2) x.1 ((25, 0, Int32.ofNat p, -1), F), x.2)
    | none => none) (eB c)) kYT := by
  cases d with
  | zero => trivial
  | succ d =>
    have hcv := h.cv hc
    have hhg := h.hc hh
    rw [qC_sentence]
    refine pl_n (xC_requireState 8 11 h.ru hcv) (fun _ _ _ _ => trivial) (fun g1 r1 e => ?_)
    obtain ⟨-, eB1, rfl, rfl⟩ := e
    obtain ⟨hN, hs1, hs2⟩ := oB_N eB1 (by decide)
    have hs1' : 8 ≤ (oT c).toInt := hs1
    have hs2' : (oT c).toInt ≤ 11 := hs2
    refine pl_e (yC_mayHold hcv) ?_
    refine rl_rT h.ru (fun hm => ?_)
    have hm' : (!decide (oT c = 9) || !decide (g1 fC_section = -1)) = true := by
      cases hb : (!decide (oT c = 9) || !decide (g1 fC_section = -1)) with
      | true => rfl
      | false => rw [hb] at hm; exact absurd rfl hm
    refine pl_v (yS_list L xs w f d p 25 0 n D K g1 r1 h) (fun _ _ _ _ => trivial) (fun v0 g2 r2 q => ?_)
    obtain ⟨q2, s2, T2, e1, e2, h2⟩ := q
    cases e1
    obtain ⟨q3, s3, F3, e3, e4⟩ := b2_some e2
    rw [e3]
    cases e4
    refine rl_rk Vt.lf h2 (fun _ g4 h4 _ => ?_)
    have hA4 : ∃ n5 D5 K5, At w f (q2 + 1) n5 D5 K5 g4 r2 := by
      obtain ⟨n5, D5, K5, hA5, -⟩ := h4
      exact ⟨n5, D5, K5, hA5⟩
    obtain ⟨n5, D5, K5, hA5⟩ := hA4
    have hh4 := hA5.hc hh
    obtain ⟨p1, p2, p3, p4, p5⟩ := hh4.2.2.2.2.2.2 hs1' hs2'
    obtain ⟨z1, z2⟩ := p1.z hZ h.2.lt
    obtain ⟨z3, z4⟩ := p2.z hZ h.2.lt
    have hsec : g4 fC_section = g1 fC_section := by
      have e1 := h.1.2.2.2.2.2.2.2.1 fC_section (by unfold cp15; decide)
      have e2 := hA5.1.2.2.2.2.2.2.2.1 fC_section (by unfold cp15; decide)
      exact e2.trans e1.symm
    have h9 : (oT c).toInt = 9 → x.2.2.1 ≠ 0 := fun e0 e1 => by
      rw [decide_eq_true (t9.mp e0), ← hsec, decide_eq_true (z1.mp e1)] at hm'
      cases hm'
    have fin : ∀ {i0 : Nat} {a : Int32} (x2 : Int32), Pt ids i0 a → oN c + 1 ≤ i0 → ((oT c).toInt = 9 → oN c + 2 ≤ i0) → x.2.2.1 ≤ i0 → x.2.2.2 ≤ i0 → pl (BC_sentence_76 L xs (m + 1) d m (Int32.ofNat n) x2 a g4 r2) (kTC (some (q2 + 1, attC i0 x.1 ((25, 0, Int32.ofNat p, -1), F3), x.2)) (eB c)) kYT := by
      intro i0 a x2 ha hu h92 hsd hpd
      unfold BC_sentence_76
      refine rl_at hZ ha h4 (fun n' D' K' g5 r5 h5 h6 hf5 => ?_)
      refine rl_en (c := c) (fun r6 hr6 => ?_) (h5.cv hc)
      have hh5 := h5.hc hh
      obtain ⟨y1, y2, y3, y4, y5⟩ := hh5.2.2.2.2.2.2 hs1' hs2'
      refine TS.mk h5 (fun _ _ => rfl) (fun k hk => hr6 k (fun e => by rw [e] at hk; exact absurd hk (by decide))) h6 ?_ (fun j hj => ?_) (h53.att (by show ((25 : Int32) ≠ 53 ∧ (25 : Int32) ≠ 41); decide))
      · rw [eB_N]
        exact hh5.bd (y := x.2) (sd := x.2.2.1) (pd := x.2.2.2) ⟨hs1', hs2'⟩ ((eB_T hN).imp (fun e => ⟨t9.mpr e.1, e.2⟩) (fun e => ⟨fun e2 => e.1 (t9.mp e2), e.2⟩)) ha.lt hu h92 (hr6 _ (by decide)) rfl rfl (y1.att hsd ha.lt) (y2.att hpd ha.lt) y3 y4
      · rw [eB_N] at hj
        rw [eB_S hj]
        exact h12 j hj
    have h55 : ∀ x2 : Int32, Pt ids (if x.2.2.1 = 0 then oN c + 1 else x.2.2.1) x2 → pl (BC_sentence_55 L xs (m + 1) d m (Int32.ofNat n) x2 g4 r2) (kTC (some (q2 + 1, attC (if x.2.2.2 = 0 then (if x.2.2.1 = 0 then oN c + 1 else x.2.2.1) else x.2.2.2) x.1 ((25, 0, Int32.ofNat p, -1), F3), x.2)) (eB c)) kYT := by
      intro x2 hx2
      unfold BC_sentence_55
      refine pl_if (fun e => ?_) (fun e => ?_)
      · rw [c2_ne] at e
        have hpd : x.2.2.2 ≠ 0 := fun e1 => e (z3.mp e1)
        rw [if_neg hpd]
        have o := p4 hpd
        exact fin _ (z4 e) (by omega) (fun e9 => by have := o.2.2 e9; omega) (by omega) (Nat.le_refl _)
      · rw [c2_ne, Decidable.not_not] at e
        have hpd : x.2.2.2 = 0 := z3.mpr e
        rw [if_pos hpd]
        by_cases hsd : x.2.2.1 = 0
        · rw [if_pos hsd] at hx2 ⊢
          exact fin _ hx2 (Nat.le_refl _) (fun e9 => absurd hsd (h9 e9)) (by omega) (by omega)
        · rw [if_neg hsd] at hx2 ⊢
          have o := p3 hsd
          exact fin _ hx2 (by omega) (fun e9 => by have := o.2 e9; omega) (Nat.le_refl _) (by omega)
    refine pl_if (fun e => ?_) (fun e => ?_)
    · rw [c2_ne] at e
      refine h55 _ ?_
      rw [if_neg (fun e1 => e (z1.mp e1))]
      exact z2 e
    · rw [c2_ne, Decidable.not_not] at e
      refine h55 _ ?_
      rw [if_pos (z1.mpr e)]
      exact hh4.2.2.1 (by omega) (by omega)
end
