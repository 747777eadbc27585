/-! The model's clauses: a unit's name, its end, its beginning; sections, paragraphs, sentences. -/
theorem kZ.k1 {w : Ws} {f : Gh} {c : CU} {q : Nat} {g g' : a2_G} {r r' : a2_A} (h : Gd w f q g r) (hL : ML r') (hM : Mc c g' r') (e3 : g' fM_faults = f.1 + 1) (e1 : g' fM_n = g fM_n := by rfl) (e2 : g' fM_at = g fM_at := by rfl) (e4 : g' fM_bad = g fM_bad := by rfl) (e5 : g' fM_nodes = g fM_nodes := by rfl) (e6 : r' fM_kinds = r fM_kinds := by rfl) (e7 : r' fM_values = r fM_values := by rfl) : kZ w f (c, true) (ok q) none g' r' := by
  obtain ⟨m1, m2, m3, m4⟩ := h.1.mrd
  exact ⟨rfl, Or.inl ⟨q, rfl, by rw [e4]; exact h.2.2.1, ⟨by rw [e6]; exact m1, by rw [e7]; exact m2, by rw [e1]; exact m3, m4⟩, hL, by rw [e5]; exact h.1.2.2.2, by rw [e2]; exact h.2.2.2.1, e3, hM⟩⟩
section
variable {L : Nat} {xs : Nat → Int32} {m d k : Nat} {w : Ws} {f : Gh} {p : Nat} {g : a2_G} {r : a2_A} {c : CU} {kn : a2_G → a2_A → Option fn_Z} {kv : Int32 → a2_G → a2_A → Option fn_Z} {Q : Option Value → a2_G → a2_A → Prop} {X : Nat → a2_G → a2_A → Prop}
theorem xM_passed (h : Gd w f (p + 1) g r) : pl (ev L xs (m + 1) d nM_passed [.ref cM] g r) (kE g r (w.2.1 p)) kN := by
  cases d with
  | zero => trivial
  | succ d =>
    have ha := h.2.2.2.1
    have en : (g fM_at - 1).toNatClampNeg = p := by
      rw [nc_eq, i32_dec (by omega), ha]
      omega
    rw [qM_passed, en, h.1.mrd.2.1]
    unfold BM_passed_22
    refine pl_il (fun e => ?_) (fun e => pl_if (fun _ => ⟨rfl, rfl, rfl⟩) (fun _ => trivial))
    rw [i32_0, ha] at e
    exact absurd e (by omega)
/-- PROGRAM-ID, FUNCTION-ID -/
theorem un_45 (hM : Mc c f.2.1 f.2.2) {x1 x2 : Int32} (x3 x4 : Int32) {q : Nat} (h : Gd w f q g r) (hT : (oT c).toInt = 0) {kd : Int32} (hk : x1 = 0 ∧ kd = 1 ∨ x1 = 1 ∧ kd = 2) : pl (BM_unitNamed_45 L xs (m + 1) d k x1 x2 x3 x4 g r) (kZ w f (sS (sI c kd x2) 1, false) (ok q)) kN := by
  have hn := oT_n (by omega : 0 ≤ (oT c).toInt)
  have hm := hM.gd h
  have en : (g fM_open - 1).toNatClampNeg = oN c - 1 := by
    have := hm.1
    rw [nc_eq, i32_dec (by omega), this]
    omega
  unfold BM_unitNamed_45
  refine pl_if (fun _ => ?_) (fun _ => trivial)
  refine pm_he (fun v => ?_)
  refine pl_if (fun _ => pl_if (fun _ => pl_if (fun _ => pl_if (fun _ => ?_) (fun _ => trivial)) (fun _ => trivial)) (fun _ => trivial)) (fun _ => trivial)
  rw [en]
  refine pm_to (N := oN c) hm.1 hn ?_
  refine kZ.k0 h (h.1.2.1.ln (((((Ln.rf.ua rfl).ua rfl).ua rfl).ua rfl).ua rfl)) ?_
  have h1 := MC.nm (k := kd) (nm := x2) hm hT (by rcases hk with ⟨-, e⟩ | ⟨-, e⟩ <;> rw [e] <;> decide)
  have ev : vp_nar .boolean x1 = b2i (decide (kd = 2)) := by
    rcases hk with ⟨rfl, rfl⟩ | ⟨rfl, rfl⟩ <;> decide
  show MC _ (g fM_open) (upd (r fM_state).2 (oN c - 1) 1) (upd (r fM_unit).2 (oN c - 1) x2) (upd (r fM_function).2 (oN c - 1) (vp_nar .boolean x1)) (r fM_had).2 (g fM_section) (g fM_items) (g fM_latest) (r fM_levels).2
  rw [ev]
  exact h1
theorem xM_unitNamed (hM : Mc c f.2.1 f.2.2) {a kd : Int32} (h : Gd w f (p + 1) g r) (hT : (oT c).toInt = 0) (hk : a = 0 ∧ kd = 1 ∨ a = 1 ∧ kd = 2) : pl (ev L xs (m + 1) d nM_unitNamed [.ref cM, .int a] g r) (kZ w f (sS (sI c kd (w.2.1 (p + 1))) 1, false) (if wk w (p + 1) 1 then (if wk w (p + 2) 4 then ok (p + 3) else no (p + 2)) else no (p + 1))) kN := by
  cases d with
  | zero => trivial
  | succ d =>
    rw [qM_unitNamed]
    refine pm_mk h (fun e g1 r1 h1 f1 => pl_pos (by decide) ?_) (fun e g1 r1 h1 f1 => pl_neg (by decide) (kZ.n0 h1))
    refine pl_e (xM_passed h1) ?_
    refine pm_mk h1 (fun e3 g3 r3 h3 f3 => pl_pos (by decide) ?_) (fun e3 g3 r3 h3 f3 => pl_neg (by decide) (kZ.n0 h3))
    refine pm_he (fun v => pl_if (fun _ => ?_) (fun _ => trivial))
    exact pl_if (fun _ => un_45 hM _ _ h3 hT hk) (fun _ => un_45 hM _ _ h3 hT hk)
/-- END -/
theorem en_78a (hM : Mc c f.2.1 f.2.2) (x1 : Int32) {q : Nat} (h : Gd w f q g r) (hq : q < w.2.2) (hT : 1 ≤ (oT c).toInt) : pl (BM_ended_78 L xs (m + 1) d k x1 1 g r) (kZ w f (sX c, decide (¬ w.2.1 (q + 1) = (if oN c = 0 then -1 else oM c (oN c - 1)))) (if wk w (q + 1) 1 then (if wk w (q + 2) 4 then ok (q + 3) else no (q + 2)) else no (q + 1))) kN := by
  have hn := oT_n (by omega : 0 ≤ (oT c).toInt)
  unfold BM_ended_78
  refine pl_pos (by decide) ?_
  refine pm_mk (h.up hq) (fun e g1 r1 h1 f1 => pl_pos (by decide) ?_) (fun e g1 r1 h1 f1 => pl_neg (by decide) (kZ.n0 h1))
  refine pm_mk h1 (fun e3 g3 r3 h3 f3 => pl_pos (by decide) ?_) (fun e3 g3 r3 h3 f3 => pl_neg (by decide) (kZ.n0 h3))
  have hm := hM.gd h3
  have en : (g3 fM_open - 1).toNatClampNeg = oN c - 1 := by
    have := hm.1
    rw [nc_eq, i32_dec (by omega), this]
    omega
  have ea : (g1 fM_at - 1).toNatClampNeg = q + 1 := by
    have := h1.2.2.2.1
    rw [nc_eq, i32_dec (by omega), this]
    omega
  have hu := hm.top hn
  have s0 : oS c (oN c - 1) ≠ 0 := fun e => by
    rw [oT_pos hn, e] at hT
    exact absurd hT (by decide)
  have eu : (r3 fM_unit).2 (oN c - 1) = oM c (oN c - 1) := (hu.2.2.1 s0).1
  refine pl_if (fun _ => pl_if (fun _ => ?_) (fun _ => trivial)) (fun _ => trivial)
  rw [en, ea, h3.1.mrd.2.1, eu]
  have ho : (g3 fM_open - 1).toInt = (g3 fM_open).toInt - 1 := i32_dec (by have := hm.1; omega)
  have hX := MC.en (op' := g3 fM_open - 1) hm hn ho
  rw [if_neg (show ¬ oN c = 0 by omega)]
  unfold BM_ended_169
  refine pl_iq (fun e5 => ?_) (fun e5 => ?_)
  · rw [decide_eq_false (show ¬ ¬ w.2.1 (q + 1) = oM c (oN c - 1) from fun e => e e5)]
    exact kZ.k0 h3 h3.1.2.1 hX
  · rw [decide_eq_true e5]
    refine pl_n (xM_note 2 _ h3.1 h3.2.1) (fun _ _ _ e => e) (fun g4 r4 e4 => ?_)
    obtain ⟨-, rfl, h4, f4⟩ := e4
    refine kZ.k1 h3 h4.2.1 ?_ rfl rfl rfl rfl rfl (f4.2 fM_kinds (by decide)) (f4.2 fM_values (by decide))
    show MC (sX c) (g3 fM_open - 1) (r4 fM_state).2 (r4 fM_unit).2 (r4 fM_function).2 (r4 fM_had).2 (g3 fM_section) (g3 fM_items) (g3 fM_latest) (r4 fM_levels).2
    rw [f4.2 fM_state (by decide), f4.2 fM_unit (by decide), f4.2 fM_function (by decide), f4.2 fM_had (by decide), f4.2 fM_levels (by decide)]
    exact hX
theorem en_78b (hM : Mc c f.2.1 f.2.2) (x1 : Int32) {q : Nat} (h : Gd w f q g r) (hq : q < w.2.2) (hT : oT c = 9) : pl (BM_ended_78 L xs (m + 1) d k x1 0 g r) (kZ w f (sS (sC c false) 10, false) (if wk w (q + 1) 4 then ok (q + 2) else no (q + 1))) kN := by
  have hn : 0 < oN c := oT_n (by rw [hT]; decide)
  unfold BM_ended_78
  refine pl_neg (by decide) ?_
  refine pm_mk (h.up hq) (fun e g1 r1 h1 f1 => pl_pos (by decide) ?_) (fun e g1 r1 h1 f1 => pl_neg (by decide) (kZ.n0 h1))
  have hm := hM.gd h1
  refine pm_to (N := oN c) hm.1 hn ?_
  refine kZ.k0 h1 (h1.1.2.1.ua (by rfl)) ?_
  rw [sS_pos (c := sC c false) hn]
  exact MC.to (a := 10) (b := false) (i := oI c) (lw := oL c) (se' := 0) (it' := g1 fM_items) (la' := g1 fM_latest) (lv' := (r1 fM_levels).2) hm (by rw [hT]; decide) (by rw [hT]; decide) (by decide) (by decide) (fun _ => ⟨fun e => absurd e (by decide), fun e => nomatch e⟩) (fun _ e => absurd e (by decide))
theorem xM_ended (hM : Mc c f.2.1 f.2.2) {a : Int32} (ha : a = oT c) (h : Gd w f (p + 1) g r) (hp : wk w p 0 = true) (hT : 1 ≤ (oT c).toInt) : pl (ev L xs (m + 1) d nM_ended [.ref cM, .int a] g r) (kZ w f (zE w c p).2 (zE w c p).1) kN := by
  have hn := oT_n (by omega : 0 ≤ (oT c).toInt)
  have hrc : rc w (p + 1) = rc w p := by
    obtain ⟨h1, h2⟩ := wk_iff.mp hp
    exact (rc_on h1 (by rw [h2]; decide)).symm
  cases d with
  | zero => trivial
  | succ d =>
    rw [qM_ended, ha]
    have hm := hM.gd h
    have en : (g fM_open - 1).toNatClampNeg = oN c - 1 := by
      have := hm.1
      rw [nc_eq, i32_dec (by omega), this]
      omega
    have h67 : ∀ (x1 x2 : Int32) (C : CU × Bool) (A : Option RR), (A = no p ∨ A = no (p + 1)) → pl (BM_ended_67 L xs (m + 1) d m x1 x2 g r) (kZ w f C A) kN := by
      intro x1 x2 C A hA
      unfold BM_ended_67
      refine pm_fa h h.2.2.2.1 h.2.2.2.2 (fun g2 r2 h2 f2 => ?_)
      rcases hA with rfl | rfl
      · exact kZ.nr h2 hrc
      · exact kZ.n0 h2
    have oB9 : ¬ oT c = 9 → oB c 9 9 = false := by
      intro e
      unfold oB
      by_cases c1 : (oT c).toInt ≤ 9
      · rw [decide_eq_false (show ¬ 9 ≤ (oT c).toInt from fun e2 => e (i32e (show _ = (9 : Int) by omega)))]
        rfl
      · rw [decide_eq_false c1, Bool.and_false]
    unfold BM_ended_42
    refine pl_iq (fun e9 => ?_) (fun e9 => ?_)
    · unfold BM_ended_43
      refine pl_neg (by decide) (pl_neg (by rw [c2_ne, e9]; decide) ?_)
      have hB : oB c 9 9 = true := by
        unfold oB
        rw [e9]
        decide
      have hY : oY c = false := by
        unfold oY
        rw [e9]
        decide
      unfold zE
      refine pl_u (xM_isWord L xs 32 h.1.mrd h.2.2.2.1) (fun e => pl_pos (by decide) ?_) (fun e => pl_neg (by decide) ?_)
      · rw [if_pos e, if_pos hB, if_pos e]
        exact en_78b hM _ h (ww_iff.mp e).1 e9
      · rw [if_neg (show ¬ ww w (p + 1) 32 = true by rw [e]; decide)]
        by_cases c3 : (ww w (p + 1) 34 || ww w (p + 1) 35) = true
        · rw [if_pos c3]
          exact h67 _ _ _ _ (Or.inl (by rw [if_neg (by rw [hY]; decide)]))
        · rw [if_neg c3]
          exact h67 _ _ _ _ (Or.inr (by rw [decide_eq_true hT, if_pos rfl]))
    · have hY : oY c = true := by
        unfold oY
        rw [decide_eq_true hT, decide_eq_false e9]
        rfl
      have h32 : ∀ x2 : Int32, x2 = oW c → (x2 = 34 ∨ x2 = 35) → pl (BM_ended_32 L xs (m + 1) d m (oT c) x2 (g fM_at) g r) (kZ w f (zE w c p).2 (zE w c p).1) kN := by
        intro x2 hx h3
        unfold BM_ended_32 BM_ended_42 BM_ended_43
        refine pl_u (xM_isWord L xs x2 h.1.mrd h.2.2.2.1) (fun e => pl_neg (by decide) (pl_pos (by decide) ?_)) (fun e => pl_pos (by decide) (pl_neg (by decide) (pl_pos (by rw [c2_ne]; exact e9) ?_)))
        · have n32 : ¬ ww w (p + 1) 32 = true := by
            rw [ww_x e (by rcases h3 with rfl | rfl <;> decide)]
            decide
          have y35 : (ww w (p + 1) 34 || ww w (p + 1) 35) = true := by
            rw [Bool.or_eq_true]
            rcases h3 with rfl | rfl
            · exact Or.inl e
            · exact Or.inr e
          unfold zE
          rw [if_neg n32, if_pos y35, if_pos hY, ← hx, if_pos e]
          exact en_78a hM _ h (ww_iff.mp e).1 hT
        · unfold zE
          by_cases c2 : ww w (p + 1) 32 = true
          · rw [if_pos c2]
            exact h67 _ _ _ _ (Or.inl (by rw [oB9 e9, if_neg (show ¬ false = true by decide)]))
          · rw [if_neg c2]
            by_cases c3 : (ww w (p + 1) 34 || ww w (p + 1) 35) = true
            · rw [if_pos c3]
              exact h67 _ _ _ _ (Or.inr (by rw [if_pos hY, ← hx, if_neg (by rw [e]; decide)]))
            · rw [if_neg c3]
              exact h67 _ _ _ _ (Or.inr (by rw [decide_eq_true hT, if_pos rfl]))
      refine pl_if (fun _ => ?_) (fun _ => trivial)
      rw [en]
      have hu := (hm.top hn).2.2.2.1
      have eW : oW c = if oK c (oN c - 1) = 2 then 35 else 34 := by
        unfold oW
        rw [if_neg (show ¬ oN c = 0 by omega)]
      refine pl_iq (fun e => h32 _ ?_ (Or.inl rfl)) (fun e => h32 _ ?_ (Or.inr rfl))
      · rw [hu] at e
        rw [eW, if_neg (fun e2 => by rw [decide_eq_true e2] at e; exact absurd e (by decide))]
      · rw [hu] at e
        by_cases c2 : oK c (oN c - 1) = 2
        · rw [eW, if_pos c2]
        · rw [decide_eq_false c2] at e
          exact absurd rfl e
/-- a sentence -/
theorem eB_9 (h : oT c = 9) : eB c = c := by
  unfold eB
  rw [if_pos h]
theorem eB_n (h : ¬ oT c = 9) : eB c = sS c 11 := by
  unfold eB
  rw [if_neg h]
theorem sn_64 (hM : Mc c f.2.1 f.2.2) {x1 : Int32} (x2 x3 : Int32) {q : Nat} (hx : x1 = oT c) (h : Gd w f q g r) (hT : 8 ≤ (oT c).toInt) (hT2 : (oT c).toInt ≤ 11) : pl (BM_sentence_64 L xs (m + 1) d k x1 x2 x3 g r) (kZ w f (eB c, false) (ok q)) kN := by
  have hn := oT_n (by omega : 0 ≤ (oT c).toInt)
  unfold BM_sentence_64 BM_sentence_80
  refine pm_na h (fun g2 r2 h2 f2 => ?_)
  have hm := hM.gd h2
  rw [hx]
  refine pl_iq (fun e9 => ?_) (fun e9 => ?_)
  · rw [eB_9 e9]
    exact kZ.k0 h2 h2.1.2.1 hm
  · rw [eB_n e9, sS_pos hn]
    refine pm_to (N := oN c) hm.1 hn ?_
    refine kZ.k0 h2 (h2.1.2.1.ua (by rfl)) ?_
    exact MC.to (a := 11) (b := oC c) (i := oI c) (lw := oL c) (se' := g2 fM_section) (it' := g2 fM_items) (la' := g2 fM_latest) (lv' := (r2 fM_levels).2) hm (by omega) (by omega) (by decide) (by decide) (fun _ => hm.2.2.2.1 ⟨hT, hT2⟩) (fun _ e => absurd e (by decide))
theorem xM_sentence (hM : Mc c f.2.1 f.2.2) {a : Int32} (ha : a = oT c) (h : Gd w f p g r) (hT : 8 ≤ (oT c).toInt) (hT2 : (oT c).toInt ≤ 11) : pl (ev L xs (m + 1) d nM_sentence [.ref cM, .int a] g r) (kZ w f (eB c, false) (bd (rv w 10 p 0 false) fun q _ => if wk w q 4 then ok (q + 1) else no q)) kN := by
  cases d with
  | zero => trivial
  | succ d =>
    rw [qM_sentence]
    refine pm_nm h (fun v g1 r1 hv h1 f1 => ?_)
    refine pl_n (xM_statements v h1) (fun _ _ _ e => e) (fun g2 r2 e2 => ?_)
    have h2 := e2.2
    match hA : rv w 10 p 0 false, h2 with
    | some (.inl (q, s)), h2 =>
      rw [bd_so]
      have h2' : Gd w f q g2 r2 := h2
      refine pm_mk h2' (fun e3 g3 r3 h3 f3 => pl_pos (by decide) ?_) (fun e3 g3 r3 h3 f3 => pl_neg (by decide) (kZ.n0 h3))
      refine pl_if (fun _ => pl_if (fun _ => pm_he (fun v => pl_if (fun _ => ?_) (fun _ => trivial))) (fun _ => ?_)) (fun _ => ?_)
      · exact sn_64 hM _ _ ha h3 hT hT2
      · exact sn_64 hM _ _ ha h3 hT hT2
      · exact sn_64 hM _ _ ha h3 hT hT2
    | some (.inr b), h2 =>
      have h2' : Bd w f b g2 r2 := h2
      exact pb_mk h2' (fun g3 r3 h3 f3 => pl_neg (by decide) (kZ.n0 h3))
    | none, h2 =>
      exact h2.elim
end
