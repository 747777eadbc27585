/-! The model's clauses: a unit begun, a section or paragraph, an item. -/
section
variable {L : Nat} {xs : Nat → Int32} {m d k : Nat} {w : Ws} {f : Gh} {p : Nat} {g : a2_G} {r : a2_A} {c : CU} {kn : a2_G → a2_A → Option fn_Z} {kv : Int32 → a2_G → a2_A → Option fn_Z} {Q : Option Value → a2_G → a2_A → Prop} {X : Nat → a2_G → a2_A → Prop}
theorem id_172 (x1 x2 x3 x4 : Int32) {q : Nat} {g' : a2_G} {r' : a2_A} (h : Gd w f q g r) (hm : Mc c g r) (hN : oN c < 10) (hT : oN c = 0 ∨ 1 ≤ (oT c).toInt) (hg : g' = g) (hr : oN c = 0 ∧ r' = r ∨ 0 < oN c ∧ r' = a2_ua (a2_ua r fM_state ((r fM_state).1, upd (r fM_state).2 (oN c - 1) 12)) fM_had ((r fM_had).1, upd (r fM_had).2 (oN c - 1) 1)) : pl (BM_identified_172 L xs (m + 1) d k x1 x2 x3 x4 g' r') (kZ w f (sO (sS c 12), false) (ok q)) kN := by
  subst hg
  have en : (g' fM_open).toNatClampNeg = oN c := by
    rw [nc_eq, hm.1]
    rfl
  have hop : (g' fM_open + 1).toInt = (g' fM_open).toInt + 1 := i32_inc (by have := hm.1; omega)
  have hx := MC.op0 hm hN hT hop
  unfold BM_identified_172
  refine pl_if (fun _ => pl_if (fun _ => pl_if (fun _ => pl_if (fun _ => pl_if (fun _ => pl_if (fun _ => pl_if (fun _ => pl_if (fun _ => ?_) (fun _ => trivial)) (fun _ => trivial)) (fun _ => trivial)) (fun _ => trivial)) (fun _ => trivial)) (fun _ => trivial)) (fun _ => trivial)) (fun _ => trivial)
  rw [en, show vp_nar .boolean 0 = (0 : Int32) from by decide]
  rcases hr with ⟨h0, rfl⟩ | ⟨h0, rfl⟩
  · refine kZ.k0 h (h.1.2.1.ln ((((((((Ln.rf.ua rfl).ua rfl).ua rfl).ua rfl).ua rfl).ua rfl).ua rfl).ua rfl)) ?_
    rw [if_pos h0, if_pos h0] at hx
    exact hx
  · refine kZ.k0 h (h.1.2.1.ln ((((((((((Ln.rf.ua rfl).ua rfl).ua rfl).ua rfl).ua rfl).ua rfl).ua rfl).ua rfl).ua rfl).ua rfl)) ?_
    rw [if_neg (show ¬ oN c = 0 by omega), if_neg (show ¬ oN c = 0 by omega)] at hx
    exact hx
theorem id_142 (hM : Mc c f.2.1 f.2.2) (x1 x2 x3 x4 x5 : Int32) {q : Nat} (h : Gd w f q g r) (hN : oN c < 10) (hT : oN c = 0 ∨ 1 ≤ (oT c).toInt) : pl (BM_identified_142 L xs (m + 1) d k x1 x2 x3 x4 x5 g r) (kZ w f (sO (sS c 12), false) (ok q)) kN := by
  unfold BM_identified_142
  refine pm_na h (fun g2 r2 h2 f2 => ?_)
  have hm := hM.gd h2
  have h1 := hm.1
  refine pl_il (fun e => ?_) (fun e => ?_)
  · rw [i32_0] at e
    exact id_172 _ _ _ _ h2 hm hN hT rfl (Or.inl ⟨by omega, rfl⟩)
  · rw [i32_0] at e
    have hn : 0 < oN c := by omega
    refine pm_to (N := oN c) h1 hn ?_
    have en : (g2 fM_open - 1).toNatClampNeg = oN c - 1 := by
      rw [nc_eq, i32_dec (by omega), h1]
      omega
    rw [en]
    refine pl_if (fun _ => ?_) (fun _ => trivial)
    exact id_172 _ _ _ _ h2 hm hN hT rfl (Or.inr ⟨hn, rfl⟩)
theorem xM_identified (hM : Mc c f.2.1 f.2.2) {a : Int32} (ha : a = oT c) (h : Gd w f p g r) (hp : p < w.2.2) : pl (ev L xs (m + 1) d nM_identified [.ref cM, .int a] g r) (kZ w f (sO (sS c 12), false) (if oG c then (if 10 ≤ oN c then no p else zH w p 1) else no p)) kN := by
  cases d with
  | zero => trivial
  | succ d =>
    have hm := hM.gd h
    have h1 := hm.1
    have h47 : ∀ b : Bool, b = oG c → pl (BM_identified_47 L xs (m + 1) d m a (b2i b) g r) (kZ w f (sO (sS c 12), false) (if oG c then (if 10 ≤ oN c then no p else zH w p 1) else no p)) kN := by
      intro b hb
      have h61 : ∀ x2, pl (BM_identified_61 L xs (m + 1) d m a x2 g r) (kZ w f (sO (sS c 12), false) (no p)) kN := by
        intro x2
        unfold BM_identified_61 BM_identified_71
        exact pl_if (fun _ => pm_fa h h.2.2.2.1 h.2.2.2.2 (fun g2 r2 h2 f2 => kZ.n0 h2)) (fun _ => pm_fa h h.2.2.2.1 h.2.2.2.2 (fun g2 r2 h2 f2 => kZ.n0 h2))
      unfold BM_identified_47
      rw [← hb]
      cases b with
      | false =>
        rw [if_neg (show ¬ false = true by decide)]
        exact pl_pos (by decide) (h61 _)
      | true =>
        rw [if_pos rfl]
        refine pl_neg (by decide) ?_
        refine pl_in (fun e10 => ?_) (fun e10 => ?_)
        · have hN : oN c < 10 := by
            have h2 := hm.2.1
            have n10 : (g fM_open).toInt ≠ 10 := fun e => e10 (i32e (e.trans rfl))
            omega
          have hT : oN c = 0 ∨ 1 ≤ (oT c).toInt := by
            unfold oG at hb
            by_cases c0 : oN c = 0
            · exact Or.inl c0
            · rw [decide_eq_false c0, Bool.false_or] at hb
              have hb2 := hb.symm
              rw [Bool.and_eq_true, Bool.and_eq_true, decide_eq_true_eq] at hb2
              exact Or.inr (of_decide_eq_true hb2.2.1)
          rw [if_neg (by omega)]
          unfold BM_identified_111 zH
          refine pm_mu (h.up hp) (fun e g2 r2 h2 f2 => pl_neg (by decide) ?_) (fun e g2 r2 h2 f2 => pl_pos (by decide) (kZ.n0 h2))
          refine pm_mk h2 (fun e g3 r3 h3 f3 => pl_pos (by decide) ?_) (fun e g3 r3 h3 f3 => pl_neg (by decide) (kZ.n0 h3))
          refine pm_nm h3 (fun v g4 r4 hv h4 f4 => ?_)
          refine pl_if (fun _ => pm_he (fun v5 => pl_if (fun _ => ?_) (fun _ => trivial))) (fun _ => ?_)
          · exact id_142 hM _ _ _ _ _ h4 hN hT
          · exact id_142 hM _ _ _ _ _ h4 hN hT
        · rw [Decidable.not_not] at e10
          rw [e10] at h1
          have h1' : (10 : Int) = (oN c : Int) := h1
          rw [if_pos (by omega)]
          exact h61 _
    rw [qM_identified]
    unfold BM_identified_42 BM_identified_46
    refine pl_iq (fun e0 => ?_) (fun e0 => ?_)
    · refine h47 true ?_
      rw [e0] at h1
      have h1' : (0 : Int) = (oN c : Int) := h1
      unfold oG
      rw [decide_eq_true (show oN c = 0 by omega)]
      rfl
    · have hn : 0 < oN c := by
        have n0 : (g fM_open).toInt ≠ 0 := fun e => e0 (i32e (e.trans rfl))
        omega
      have en : (g fM_open - 1).toNatClampNeg = oN c - 1 := by
        rw [nc_eq, i32_dec (by omega), h1]
        omega
      obtain ⟨u1, u2, u3, u4, u5⟩ := hm.top hn
      have eG : oG c = (decide (oK c (oN c - 1) = 1) && (decide (1 ≤ (oT c).toInt) && !decide (oT c = 9))) := by
        unfold oG
        rw [decide_eq_false (show ¬ oN c = 0 by omega), Bool.false_or]
      rw [← oT_pos hn] at u2 u3
      refine pl_if (fun _ => ?_) (fun _ => trivial)
      rw [en]
      refine pl_in (fun ef => ?_) (fun ef => ?_)
      · refine h47 false ?_
        rw [u4] at ef
        have k2 : oK c (oN c - 1) = 2 := by
          by_cases e : oK c (oN c - 1) = 2
          · exact e
          · rw [decide_eq_false e] at ef
            exact absurd rfl ef
        rw [eG, decide_eq_false (show ¬ oK c (oN c - 1) = 1 by rw [k2]; decide)]
        rfl
      · rw [Decidable.not_not, u4] at ef
        have k2 : ¬ oK c (oN c - 1) = 2 := fun e => by
          rw [decide_eq_true e] at ef
          exact absurd ef (by decide)
        have k1 : oT c ≠ 0 → oK c (oN c - 1) = 1 := fun e => ((u3 e).2).resolve_right k2
        rw [ha]
        refine pl_u xM_in (fun e1 => pl_pos (by decide) ?_) (fun e1 => pl_neg (by decide) ?_)
        · rw [Bool.and_eq_true, decide_eq_true_eq, decide_eq_true_eq] at e1
          have e1' : 1 ≤ (oT c).toInt ∧ (oT c).toInt ≤ 8 := e1
          have t0 : oT c ≠ 0 := fun e => by rw [e] at e1'; exact absurd e1'.1 (by decide)
          have t9 : ¬ oT c = 9 := fun e => by rw [e] at e1'; exact absurd e1'.2 (by decide)
          rw [← ha]
          refine h47 true ?_
          rw [eG, decide_eq_true (k1 t0), decide_eq_true e1'.1, decide_eq_false t9]
          rfl
        · rw [Bool.and_eq_false_iff, decide_eq_false_iff_not, decide_eq_false_iff_not] at e1
          have e1' : ¬ 1 ≤ (oT c).toInt ∨ ¬ (oT c).toInt ≤ 8 := e1
          refine pl_u xM_in (fun e2 => pl_neg (by decide) ?_) (fun e2 => pl_pos (by decide) ?_)
          · rw [Bool.and_eq_true, decide_eq_true_eq, decide_eq_true_eq] at e2
            have e2' : 10 ≤ (oT c).toInt ∧ (oT c).toInt ≤ 12 := e2
            have t0 : oT c ≠ 0 := fun e => by rw [e] at e2'; exact absurd e2'.1 (by decide)
            have t9 : ¬ oT c = 9 := fun e => by rw [e] at e2'; exact absurd e2'.1 (by decide)
            rw [← ha]
            refine h47 true ?_
            rw [eG, decide_eq_true (k1 t0), decide_eq_true (by omega), decide_eq_false t9]
            rfl
          · rw [Bool.and_eq_false_iff, decide_eq_false_iff_not, decide_eq_false_iff_not] at e2
            have e2' : ¬ 10 ≤ (oT c).toInt ∨ ¬ (oT c).toInt ≤ 12 := e2
            rw [← ha]
            refine h47 false ?_
            rw [eG]
            by_cases t1 : 1 ≤ (oT c).toInt
            · have t9 : oT c = 9 := i32e (show _ = (9 : Int) by omega)
              rw [decide_eq_true t9, Bool.not_true, Bool.and_false, Bool.and_false]
            · rw [decide_eq_false t1, Bool.false_and, Bool.and_false]
/-- a section, a paragraph -/
theorem na_173 (hM : Mc c f.2.1 f.2.2) {x1 x3 x4 : Int32} (x2 : Int32) {q : Nat} (hx : x1 = oT c) (b : Bool) (h3 : x3 = b2i b) (h4 : 0 < x4.toInt) (h : Gd w f q g r) (hT : 8 ≤ (oT c).toInt) (hT2 : (oT c).toInt ≤ 11) : pl (BM_named_173 L xs (m + 1) d k x1 x2 x3 x4 g r) (kZ w f (eB (if b then sC c true else c), false) (ok q)) kN := by
  have hn := oT_n (by omega : 0 ≤ (oT c).toInt)
  have hm := hM.gd h
  have hse := hm.2.2.2.1 ⟨hT, hT2⟩
  have h201 : ∀ (x5 se' : Int32) (cb : Bool) (g' : a2_G), (0 < se'.toInt ↔ cb = true) → g' = upd g fM_section se' → pl (BM_named_201 L xs (m + 1) d k x1 x2 x3 x4 x5 g' r) (kZ w f (eB (sC c cb), false) (ok q)) kN := by
    intro x5 se' cb g' hs hg
    subst hg
    unfold BM_named_201 BM_named_216
    rw [hx]
    have eT : oT (sC c cb) = oT c := rfl
    refine pl_iq (fun e9 => ?_) (fun e9 => ?_)
    · rw [eB_9 (c := sC c cb) (by rw [eT]; exact e9)]
      refine kZ.k0 h h.1.2.1 ?_
      exact ⟨hm.1, hm.2.1, hm.2.2.1, fun _ => hs, hm.2.2.2.2.1, hm.2.2.2.2.2⟩
    · rw [eB_n (c := sC c cb) (by rw [eT]; exact e9), sS_pos (c := sC c cb) hn]
      refine pm_to (N := oN c) hm.1 hn ?_
      refine kZ.k0 h (h.1.2.1.ua (by rfl)) ?_
      exact MC.to (a := 11) (b := cb) (i := oI c) (lw := oL c) (se' := se') (it' := g fM_items) (la' := g fM_latest) (lv' := (r fM_levels).2) hm (by omega) (by omega) (by decide) (by decide) (fun _ => hs) (fun _ e => absurd e (by decide))
  unfold BM_named_173 BM_named_187
  rw [h3]
  cases b with
  | true =>
    rw [if_pos rfl]
    exact pl_neg (by decide) (pl_neg (by decide) (h3 ▸ h201 0 x4 true _ ⟨fun _ => rfl, fun _ => h4⟩ rfl))
  | false =>
    rw [if_neg (show ¬ false = true by decide)]
    have ec : c = sC c (oC c) := rfl
    rw [ec]
    exact pl_pos (by decide) (pl_pos (by decide) (h3 ▸ h201 x4 (g fM_section) (oC c) _ hse rfl))
theorem na_85 (hM : Mc c f.2.1 f.2.2) {x1 x3 : Int32} (x2 : Int32) {q : Nat} (hx : x1 = oT c) (b : Bool) (h3 : x3 = b2i b) (h : Gd w f q g r) (hT : 8 ≤ (oT c).toInt) (hT2 : (oT c).toInt ≤ 11) : pl (BM_named_85 L xs (m + 1) d k x1 x2 x3 g r) (kZ w f (eB (if b then sC c true else c), false) (ok q)) kN := by
  have h97 : ∀ x4, pl (BM_named_97 L xs (m + 1) d k x1 x2 x3 x4 g r) (kZ w f (eB (if b then sC c true else c), false) (ok q)) kN := by
    intro x4
    unfold BM_named_97 BM_named_168 BM_named_136
    refine pl_if (fun _ => ?_) (fun _ => trivial)
    refine pm_nm h (fun v g2 r2 hv h2 f2 => ?_)
    refine pl_if (fun _ => pl_if (fun _ => pm_he (fun _ => pl_if (fun _ => ?_) (fun _ => trivial))) (fun _ => ?_)) (fun _ => pl_if (fun _ => pm_he (fun _ => pl_if (fun _ => ?_) (fun _ => trivial))) (fun _ => ?_))
    all_goals exact pm_na h2 (fun g3 r3 h4 f4 => na_173 hM x2 hx b h3 hv h4 hT hT2)
  unfold BM_named_85
  exact pl_if (fun _ => h97 _) (fun _ => h97 _)
theorem xM_named (hM : Mc c f.2.1 f.2.2) {a : Int32} (ha : a = oT c) (h : Gd w f p g r) (hp : wk w p 1 = true) (hT : 8 ≤ (oT c).toInt) (hT2 : (oT c).toInt ≤ 11) : pl (ev L xs (m + 1) d nM_named [.ref cM, .int a] g r) (kZ w f (eB (if ww w (p + 1) 16 then sC c true else c), false) (if ww w (p + 1) 16 || (!decide (oT c = 9) || oC c) then (if wk w (sk (ww w (p + 1) 16) (p + 1)) 4 then ok (sk (ww w (p + 1) 16) (p + 1) + 1) else no (sk (ww w (p + 1) 16) (p + 1))) else no p)) kN := by
  have hrc : rc w (p + 1) = rc w p := by
    obtain ⟨h1, h2⟩ := wk_iff.mp hp
    exact (rc_on h1 (by rw [h2]; decide)).symm
  cases d with
  | zero => trivial
  | succ d =>
    have hm := hM.gd h
    have hse := hm.2.2.2.1 ⟨hT, hT2⟩
    have hp1 := (wk_iff.mp hp).1
    have h2a : (g fM_at + 2).toInt = ((p + 2 : Nat) : Int) := by
      have := h.2.2.2.1
      have := h.le
      rw [ad_eq (by rw [i32_2]; omega) (by rw [i32_2]; omega), i32_2, h.2.2.2.1]
      rfl
    have hG2 : p + 1 < w.2.2 → Gd w f (p + 2) (upd g fM_at (g fM_at + 2)) r := fun hq => ⟨h.1.up (by decide) (by decide), h.2.1, h.2.2.1, h2a, by omega⟩
    rw [qM_named]
    refine pl_u (xM_isWord L xs 16 h.1.mrd h.add) (fun e => pl_pos (by decide) ?_) (fun e => pl_neg (by decide) ?_)
    · rw [e]
      have eA : (true || (!decide (oT c = 9) || oC c)) = true := rfl
      rw [if_pos eA]
      unfold BM_named_62
      refine pl_neg (by decide) ?_
      refine pm_mk (hG2 (ww_iff.mp e).1) (fun e2 g2 r2 h2 f2 => pl_pos (by decide) ?_) (fun e2 g2 r2 h2 f2 => pl_neg (by decide) (kZ.n0 h2))
      exact na_85 hM _ ha true rfl h2 hT hT2
    · rw [e, Bool.false_or]
      have h49 : ∀ (A : Option RR) (C : CU × Bool), (A = no p ∨ A = no (p + 1)) → pl (BM_named_49 L xs (m + 1) d m a (g fM_at) 0 g r) (kZ w f C A) kN := by
        intro A C hA
        unfold BM_named_49
        refine pm_fa h h.add (by omega) (fun g2 r2 h2 f2 => ?_)
        rcases hA with rfl | rfl
        · exact kZ.nr h2 hrc
        · exact kZ.n0 h2
      have h62 : wk w (p + 1) 4 = true → (!decide (oT c = 9) || oC c) = true → pl (BM_named_62 L xs (m + 1) d m a (g fM_at) 0 g r) (kZ w f (eB (if false = true then sC c true else c), false) (if (!decide (oT c = 9) || oC c) = true then (if wk w (sk false (p + 1)) 4 then ok (sk false (p + 1) + 1) else no (sk false (p + 1))) else no p)) kN := by
        intro e4 e5
        rw [if_pos e5, show sk false (p + 1) = p + 1 from rfl, if_pos e4]
        unfold BM_named_62
        refine pl_pos (by decide) ?_
        exact na_85 hM _ ha false rfl (hG2 (wk_iff.mp e4).1) hT hT2
      refine pl_u (xM_isKind L xs 4 h.1.mrd h.add) (fun e4 => pl_neg (by decide) ?_) (fun e4 => pl_pos (by decide) ?_)
      · refine pl_in (fun e9 => ?_) (fun e9 => ?_)
        · refine h62 e4 ?_
          rw [← ha, decide_eq_false e9]
          rfl
        · rw [Decidable.not_not] at e9
          refine pl_ig (fun es => ?_) (fun es => ?_)
          · rw [i32_0] at es
            refine h62 e4 ?_
            rw [hse.mp es, Bool.or_true]
          · rw [i32_0] at es
            refine h49 _ _ (Or.inl ?_)
            have eC : oC c = false := Bool.eq_false_iff.mpr (fun e => es (hse.mpr e))
            rw [← ha, decide_eq_true e9, eC, if_neg (by decide)]
      · refine h49 _ _ ?_
        by_cases c1 : (!decide (oT c = 9) || oC c) = true
        · right
          rw [if_pos c1, show sk false (p + 1) = p + 1 from rfl, if_neg (by rw [e4]; decide)]
        · left
          rw [if_neg c1]
end
