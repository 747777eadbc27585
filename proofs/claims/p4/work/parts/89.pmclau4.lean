/-! The model's reserved words, and its one clause. -/
section
variable {L : Nat} {xs : Nat → Int32} {m d k : Nat} {x1 x2 x3 x4 x5 : Int32} {g : a2_G} {r : a2_A}
theorem rs_60 (h : x2 ≠ 3) : BM_reserved_60 L xs m d k x1 x2 x3 x4 g r = BM_reserved_77 L xs m d k x1 x2 x3 x4 g r := if_pos (by rw [c2_ne]; exact h)
theorem rs_77 (h : x2 ≠ 4) : BM_reserved_77 L xs m d k x1 x2 x3 x4 g r = BM_reserved_87 L xs m d k x1 x2 x3 x4 g r := if_pos (by rw [c2_ne]; exact h)
theorem rs_87 (h : x2 ≠ 5) : BM_reserved_87 L xs m d k x1 x2 x3 x4 g r = BM_reserved_97 L xs m d k x1 x2 x3 x4 g r := if_pos (by rw [c2_ne]; exact h)
theorem rs_97 (h : x2 ≠ 12) : BM_reserved_97 L xs m d k x1 x2 x3 x4 g r = BM_reserved_112 L xs m d k x1 x2 x3 x4 g r := if_pos (by rw [c2_ne]; exact h)
theorem rs_112 (h : x2 ≠ 13) : BM_reserved_112 L xs m d k x1 x2 x3 x4 g r = BM_reserved_127 L xs m d k x1 x2 x3 x4 g r := if_pos (by rw [c2_ne]; exact h)
theorem rs_127 (h : x2 ≠ 17) : BM_reserved_127 L xs m d k x1 x2 x3 x4 g r = BM_reserved_150 L xs m d k x1 x2 x3 x4 0 g r := by
  unfold BM_reserved_127 BM_reserved_128
  rw [if_neg (show ¬ am_c2 .ne (0 : Int32) 0 = true by decide), if_pos (show am_c2 .ne x2 17 = true by rw [c2_ne]; exact h)]
theorem rs_150 (h : x2 ≠ 14) : BM_reserved_150 L xs m d k x1 x2 x3 x4 x5 g r = BM_reserved_165 L xs m d k x1 x2 x3 x4 x5 g r := if_pos (by rw [c2_ne]; exact h)
theorem rs_165 (h : x2 ≠ 15) : BM_reserved_165 L xs m d k x1 x2 x3 x4 x5 g r = BM_reserved_181 L xs m d k x1 x2 x3 x4 x5 g r := if_pos (by rw [c2_ne]; exact h)
theorem rs_181 (h : x2 ≠ 30) : BM_reserved_181 L xs m d k x1 x2 x3 x4 x5 g r = BM_reserved_197 L xs m d k x1 x2 x3 x4 x5 g r := if_pos (by rw [c2_ne]; exact h)
theorem rs_197 (h : x2 ≠ 32) : BM_reserved_197 L xs m d k x1 x2 x3 x4 x5 g r = BM_reserved_209 L xs m d k x1 x2 x3 x4 x5 g r := if_pos (by rw [c2_ne]; exact h)
theorem rs_209 (h : x2 ≠ 33) : BM_reserved_209 L xs m d k x1 x2 x3 x4 x5 g r = BM_reserved_223 L xs m d k x1 x2 x3 x4 x5 g r := if_pos (by rw [c2_ne]; exact h)
theorem rs_45 (h : x2 ≠ 0) (h2 : x2 ≠ 2) : BM_reserved_45 L xs m d k x1 x2 x3 x4 g r = BM_reserved_60 L xs m d k x1 x2 x3 x4 g r := (if_neg (by rw [c2_eq]; exact h)).trans (if_pos (by rw [c2_ne]; exact h2))
theorem rs_123 : BM_reserved_123 L xs m d k x1 x2 x3 x4 g r = BM_reserved_247 L xs m d k x1 x2 x3 x4 1 g r := by
  unfold BM_reserved_123 BM_reserved_128 BM_reserved_219 BM_reserved_224
  rw [if_pos (show am_c2 .ne (1 : Int32) 0 = true by decide), if_pos (show am_c2 .ne (1 : Int32) 0 = true by decide)]
theorem rs_219 : BM_reserved_219 L xs m d k x1 x2 x3 x4 x5 g r = BM_reserved_247 L xs m d k x1 x2 x3 x4 1 g r := by
  unfold BM_reserved_219 BM_reserved_224
  rw [if_pos (show am_c2 .ne (1 : Int32) 0 = true by decide)]
end
section
variable {L : Nat} {xs : Nat → Int32} {m d k : Nat} {w : Ws} {f : Gh} {p : Nat} {g : a2_G} {r : a2_A} {c : CU}
theorem rs_bad {x1 x2 x3 x5 : Int32} {C : CU × Bool} (h : Gd w f p g r) : pl (BM_reserved_223 L xs (m + 1) d k x1 x2 x3 0 x5 g r) (kZ w f C (no p)) kN := by
  unfold BM_reserved_223 BM_reserved_224
  refine pl_neg (by decide) (pl_neg (by decide) ?_)
  exact pm_fa h h.2.2.2.1 h.2.2.2.2 (fun g2 r2 h2 f2 => kZ.n0 h2)
/-- one of the words that no clause begins with comes to nothing -/
theorem rs_no {x1 x2 x3 x4 : Int32} (h : x2 ≠ 0 ∧ x2 ≠ 2 ∧ x2 ≠ 3 ∧ x2 ≠ 4 ∧ x2 ≠ 5 ∧ x2 ≠ 12 ∧ x2 ≠ 13 ∧ x2 ≠ 17 ∧ x2 ≠ 14 ∧ x2 ≠ 15 ∧ x2 ≠ 30 ∧ x2 ≠ 32 ∧ x2 ≠ 33) : BM_reserved_45 L xs m d k x1 x2 x3 x4 g r = BM_reserved_223 L xs m d k x1 x2 x3 x4 0 g r := by
  obtain ⟨h0, h2, h3, h4, h5, h12, h13, h17, h14, h15, h30, h32, h33⟩ := h
  rw [rs_45 h0 h2, rs_60 h3, rs_77 h4, rs_87 h5, rs_97 h12, rs_112 h13, rs_127 h17, rs_150 h14, rs_165 h15, rs_181 h30, rs_197 h32, rs_209 h33]
theorem oB_t {lo hi : Int} : oB c lo hi = true ↔ lo ≤ (oT c).toInt ∧ (oT c).toInt ≤ hi := by
  unfold oB
  rw [Bool.and_eq_true, decide_eq_true_eq, decide_eq_true_eq]
theorem oB_eq {a : Int32} (h : oB c a.toInt a.toInt = true) : oT c = a := i32e (by have := oB_t.mp h; omega)
theorem oB_is {a : Int32} (h : oT c = a) : oB c a.toInt a.toInt = true := oB_t.mpr (by rw [h]; omega)
/-- a reserved word that begins no statement -/
theorem xM_res (hM : Mc c f.2.1 f.2.2) (x3 : Int32) {x1 x2 : Int32} (h1 : x1 = oT c) (h2 : w.2.1 p = x2) (h : Gd w f p g r) (hp : wk w p 0 = true) : pl (BM_reserved_45 L xs (m + 1) d k x1 x2 x3 0 g r) (kZ w f (zR w c p).2 (zR w c p).1) kN := by
  have hpn := (wk_iff.mp hp).1
  have hu := h.up hpn
  have hm := hM.gd h
  unfold zR zD
  rw [h2]
  have oB_f : ∀ {lo hi : Int}, ¬ (lo ≤ (oT c).toInt ∧ (oT c).toInt ≤ hi) → ¬ oB c lo hi = true := fun hn e => hn (oB_t.mp e)
  by_cases e0 : x2 = 0
  · subst e0
    rw [if_pos (show (0 : Int32).toInt = 0 from rfl)]
    unfold BM_reserved_45
    refine pl_pos (by decide) ?_
    rw [rs_123]
    unfold BM_reserved_247
    refine pl_pos (by decide) (pl_neg (by decide) ?_)
    exact pl_n (xM_identified hM h1 h hpn) (fun _ _ _ e => e) (fun g2 r2 e2 => e2)
  rw [if_neg (show ¬ x2.toInt = 0 from i32n e0)]
  by_cases e2 : x2 = 2
  · subst e2
    rw [if_pos (show (2 : Int32).toInt = 2 from rfl)]
    unfold BM_reserved_45
    refine pl_neg (by decide) (pl_neg (by decide) ?_)
    rw [h1]
    refine pl_iq (fun e => ?_) (fun e => ?_)
    · rw [if_pos (show oB c 0 0 = true from oB_is e), rs_123]
      unfold BM_reserved_247 BM_reserved_344 BM_reserved_355
      refine pl_pos (by decide) (pl_pos (by decide) (pl_pos (by decide) (pl_pos (by decide) ?_)))
      exact pl_n (xM_unitNamed hM hu (by rw [e]; rfl) (Or.inl ⟨rfl, rfl⟩)) (fun _ _ _ e => e) (fun g2 r2 e2 => e2)
    · rw [if_neg (oB_f (fun q => e (i32e (show _ = (0 : Int) by omega)))), rs_60 (by decide), rs_77 (by decide), rs_87 (by decide), rs_97 (by decide), rs_112 (by decide), rs_127 (by decide), rs_150 (by decide), rs_165 (by decide), rs_181 (by decide), rs_197 (by decide), rs_209 (by decide)]
      exact rs_bad h
  rw [if_neg (show ¬ x2.toInt = 2 from i32n e2), rs_45 e0 e2]
  by_cases e3 : x2 = 3
  · subst e3
    rw [if_pos (show (3 : Int32).toInt = 3 from rfl)]
    unfold BM_reserved_60
    refine pl_neg (by decide) ?_
    have hbad : pl (BM_reserved_77 L xs (m + 1) d k x1 3 x3 0 g r) (kZ w f (sS (sI c 2 (w.2.1 (p + 1))) 1, false) (no p)) kN := by
      rw [rs_77 (by decide), rs_87 (by decide), rs_97 (by decide), rs_112 (by decide), rs_127 (by decide), rs_150 (by decide), rs_165 (by decide), rs_181 (by decide), rs_197 (by decide), rs_209 (by decide)]
      exact rs_bad h
    refine pl_in (fun e => ?_) (fun e => ?_)
    · rw [h1] at e
      rw [if_neg (oB_f (fun q => e (i32e (show _ = (0 : Int) by omega))))]
      exact hbad
    · rw [Decidable.not_not, h1] at e
      rw [if_pos (show oB c 0 0 = true from oB_is e)]
      refine pl_iq (fun eo => ?_) (fun eo => ?_)
      · have hN : oN c = 1 := by
          have := hm.1
          rw [eo] at this
          have : (1 : Int) = oN c := this
          omega
        rw [decide_eq_true hN, if_pos rfl, rs_123]
        unfold BM_reserved_247 BM_reserved_344 BM_reserved_355
        refine pl_pos (by decide) (pl_pos (by decide) (pl_neg (by decide) (pl_pos (by decide) (pl_neg (by decide) ?_))))
        exact pl_n (xM_unitNamed hM hu (by rw [e]; rfl) (Or.inr ⟨rfl, rfl⟩)) (fun _ _ _ e => e) (fun g2 r2 e2 => e2)
      · have hN : ¬ oN c = 1 := fun e => eo (i32e (by rw [hm.1, e]; rfl))
        rw [decide_eq_false hN, if_neg (show ¬ false = true by decide)]
        exact hbad
  rw [if_neg (show ¬ x2.toInt = 3 from i32n e3), rs_60 e3]
  by_cases e4 : x2 = 4
  · subst e4
    rw [if_pos (show (4 : Int32).toInt = 4 from rfl)]
    unfold BM_reserved_77
    refine pl_neg (by decide) ?_
    rw [h1]
    refine pl_iq (fun e => ?_) (fun e => ?_)
    · rw [if_pos (show oB c 1 1 = true from oB_is e), rs_123]
      unfold BM_reserved_247
      refine pl_pos (by decide) (pl_pos (by decide) (pl_neg (by decide) (pl_neg (by decide) (pl_neg (by decide) (pl_neg (by decide) (pl_neg (by decide) (pl_neg (by decide) (pl_neg (by decide) ?_))))))))
      have hT : 1 ≤ (oT c).toInt ∧ (oT c).toInt ≤ 11 := by rw [e]; decide
      exact pl_n (xM_division2 (b := oC c) (i := oI c) hM x3 (Or.inl rfl) hu hT.1 hT.2 (sS_pos (oT_n (by omega)) _) (fun q => absurd q (by decide))) (fun _ _ _ e => e) (fun g2 r2 e2 => e2)
    · rw [if_neg (oB_f (fun q => e (i32e (show _ = (1 : Int) by omega)))), rs_87 (by decide), rs_97 (by decide), rs_112 (by decide), rs_127 (by decide), rs_150 (by decide), rs_165 (by decide), rs_181 (by decide), rs_197 (by decide), rs_209 (by decide)]
      exact rs_bad h
  rw [if_neg (show ¬ x2.toInt = 4 from i32n e4), rs_77 e4]
  by_cases e5 : x2 = 5
  · subst e5
    rw [if_pos (show (5 : Int32).toInt = 5 from rfl)]
    unfold BM_reserved_87
    refine pl_neg (by decide) ?_
    rw [h1]
    refine pl_iq (fun e => ?_) (fun e => ?_)
    · rw [if_pos (show oB c 2 2 = true from oB_is e), rs_123]
      unfold BM_reserved_247
      refine pl_pos (by decide) (pl_pos (by decide) (pl_neg (by decide) (pl_neg (by decide) (pl_pos (by decide) ?_))))
      exact pl_n (xM_select hM x3 hu) (fun _ _ _ e => e) (fun g2 r2 e2 => e2)
    · rw [if_neg (oB_f (fun q => e (i32e (show _ = (2 : Int) by omega)))), rs_97 (by decide), rs_112 (by decide), rs_127 (by decide), rs_150 (by decide), rs_165 (by decide), rs_181 (by decide), rs_197 (by decide), rs_209 (by decide)]
      exact rs_bad h
  rw [if_neg (show ¬ x2.toInt = 5 from i32n e5), rs_87 e5]
  by_cases e30 : x2 = 30
  · subst e30
    rw [if_pos (show (30 : Int32).toInt = 30 from rfl), rs_97 (by decide), rs_112 (by decide), rs_127 (by decide), rs_150 (by decide), rs_165 (by decide)]
    unfold BM_reserved_181
    refine pl_neg (by decide) ?_
    rw [h1]
    refine pm_t (xM_in) (fun e => pl_pos (by decide) ?_) (fun e => pl_neg (by decide) ?_)
    · have e' := oB_t.mp (show oB c 1 7 = true from e)
      rw [rs_219]
      unfold BM_reserved_247
      refine pl_pos (by decide) (pl_pos (by decide) (pl_neg (by decide) (pl_neg (by decide) (pl_neg (by decide) (pl_neg (by decide) (pl_pos (by decide) ?_))))))
      exact pl_n (xM_begun hM x3 hu e'.1 e'.2) (fun _ _ _ e => e) (fun g2 r2 e2 => e2)
    · rw [rs_197 (by decide), rs_209 (by decide)]
      exact rs_bad h
  rw [if_neg (show ¬ x2.toInt = 30 from i32n e30)]
  by_cases e32 : x2 = 32
  · subst e32
    rw [if_pos (show (32 : Int32).toInt = 32 from rfl), rs_97 (by decide), rs_112 (by decide), rs_127 (by decide), rs_150 (by decide), rs_165 (by decide), rs_181 (by decide)]
    unfold BM_reserved_197
    refine pl_neg (by decide) ?_
    rw [h1]
    refine pl_iq (fun e => ?_) (fun e => ?_)
    · rw [if_pos (show oB c 8 8 = true from oB_is e), rs_219]
      unfold BM_reserved_247 BM_reserved_446
      refine pl_pos (by decide) (pl_pos (by decide) (pl_neg (by decide) (pl_neg (by decide) (pl_neg (by decide) (pl_neg (by decide) (pl_neg (by decide) (pl_pos (by decide) ?_)))))))
      have hn : 0 < oN c := oT_n (by rw [e]; decide)
      refine pm_mk hu (fun e2 g2 r2 h2 f2 => pl_pos (by decide) ?_) (fun e2 g2 r2 h2 f2 => pl_neg (by decide) (kZ.n0 h2))
      refine pm_nm h2 (fun v g3 r3 hv h3 f3 => ?_)
      refine pm_he (fun v4 => pl_if (fun _ => ?_) (fun _ => trivial))
      refine pl_n (Q1 := fun o g' r' => o = none ∧ Fm [fM_nodes] WEa (upd g3 fM_declaratives v) r3 g' r' ∧ ML r' ∧ 1 ≤ (g' fM_nodes).toInt) (X1 := kN) ?_ (fun _ _ _ e => e) (fun g4 r4 e4 => ?_)
      · cases d with
        | zero => trivial
        | succ d =>
          rw [qM_attach]
          simp only [BM_attach_45]
          repeat' refine pl_if (fun _ => ?_) (fun _ => ?_)
          all_goals first
            | trivial
            | exact ⟨rfl, (((Fm.rf.ua (by decide)).ua (by decide)).ua (by decide)).ua (by decide), h3.1.2.1.ln ((((Ln.rf.ua rfl).ua rfl).ua rfl).ua rfl), h3.1.2.2.2⟩
      · obtain ⟨-, F, hL, hno⟩ := e4
        have hm3 := hM.gd h3
        have eo : g4 fM_open = g3 fM_open := F.1 fM_open (by decide)
        refine pm_to (N := oN c) (by rw [eo]; exact hm3.1) hn ?_
        obtain ⟨m1, m2, m3, m4⟩ := h3.1.mrd
        refine ⟨rfl, Or.inl ⟨p + 2, rfl, ?_, ⟨?_, ?_, ?_, m4⟩, hL.ua (by rfl), hno, ?_, ?_, ?_⟩⟩
        · rw [F.1 fM_bad (by decide)]
          exact h3.2.2.1
        · show (r4 fM_kinds).2 = w.1
          rw [F.2 fM_kinds (by decide)]
          exact m1
        · show (r4 fM_values).2 = w.2.1
          rw [F.2 fM_values (by decide)]
          exact m2
        · rw [F.1 fM_n (by decide)]
          exact m3
        · rw [F.1 fM_at (by decide)]
          exact h3.2.2.2.1
        · rw [F.1 fM_faults (by decide)]
          exact h3.2.1
        · rw [sS_pos hn]
          show MC _ (g4 fM_open) (upd (r4 fM_state).2 (oN c - 1) 9) (r4 fM_unit).2 (r4 fM_function).2 (r4 fM_had).2 (g4 fM_section) (g4 fM_items) (g4 fM_latest) (r4 fM_levels).2
          rw [eo, F.2 fM_state (by decide), F.2 fM_unit (by decide), F.2 fM_function (by decide), F.2 fM_had (by decide), F.1 fM_section (by decide), F.1 fM_items (by decide), F.1 fM_latest (by decide), F.2 fM_levels (by decide)]
          exact MC.to (a := 9) (b := oC c) (i := oI c) (lw := oL c) (se' := g3 fM_section) (it' := g3 fM_items) (la' := g3 fM_latest) (lv' := (r3 fM_levels).2) hm3 (by rw [e]; decide) (by rw [e]; decide) (by decide) (by decide) (fun _ => hm3.2.2.2.1 (by rw [e]; decide)) (fun _ e => absurd e (by decide))
    · rw [if_neg (oB_f (fun q => e (i32e (show _ = (8 : Int) by omega)))), rs_209 (by decide)]
      exact rs_bad h
  rw [if_neg (show ¬ x2.toInt = 32 from i32n e32)]
  by_cases e33 : x2 = 33
  · subst e33
    rw [if_pos (show (33 : Int32).toInt = 33 from rfl), rs_97 (by decide), rs_112 (by decide), rs_127 (by decide), rs_150 (by decide), rs_165 (by decide), rs_181 (by decide), rs_197 (by decide)]
    unfold BM_reserved_209
    refine pl_neg (by decide) ?_
    rw [h1]
    refine pl_il (fun e => ?_) (fun e => ?_)
    · rw [i32_0] at e
      have eA : (zE w c p).1 = no p := by
        have hB : ¬ oB c 9 9 = true := oB_f (by omega)
        have hY : ¬ oY c = true := by
          unfold oY
          rw [decide_eq_false (by omega), Bool.false_and]
          decide
        unfold zE
        by_cases q1 : ww w (p + 1) 32 = true
        · rw [if_pos q1, if_neg hB]
        · rw [if_neg q1]
          by_cases q2 : (ww w (p + 1) 34 || ww w (p + 1) 35) = true
          · rw [if_pos q2, if_neg hY]
          · rw [if_neg q2, decide_eq_false (by omega), if_neg (show ¬ false = true by decide)]
      rw [eA]
      exact rs_bad h
    · rw [i32_0] at e
      rw [rs_219]
      unfold BM_reserved_247
      refine pl_pos (by decide) (pl_pos (by decide) (pl_neg (by decide) (pl_neg (by decide) (pl_neg (by decide) (pl_neg (by decide) (pl_neg (by decide) (pl_neg (by decide) (pl_pos (by decide) ?_))))))))
      exact pl_n (xM_ended hM rfl hu hp (by omega)) (fun _ _ _ e => e) (fun g2 r2 e2 => e2)
  rw [if_neg (show ¬ x2.toInt = 33 from i32n e33)]
  by_cases e12 : x2 = 12
  · subst e12
    rw [if_pos (show (12 : Int32).toInt = 12 from rfl)]
    unfold BM_reserved_97
    refine pl_neg (by decide) ?_
    rw [h1]
    refine pm_t (xM_in) (fun e => pl_pos (by decide) ?_) (fun e => pl_neg (by decide) ?_)
    · have e' := oB_t.mp (show oB c 1 2 = true from e)
      rw [rs_123]
      unfold BM_reserved_247
      refine pl_pos (by decide) (pl_pos (by decide) (pl_neg (by decide) (pl_neg (by decide) (pl_neg (by decide) (pl_neg (by decide) (pl_neg (by decide) (pl_neg (by decide) (pl_neg (by decide) ?_))))))))
      exact pl_n (xM_division2 (b := oC c) (i := oI c) hM x3 (Or.inr (Or.inl rfl)) hu (by omega) (by omega) (sS_pos (oT_n (by omega)) _) (fun q => absurd q (by decide))) (fun _ _ _ e => e) (fun g2 r2 e2 => e2)
    · rw [rs_112 (by decide), rs_127 (by decide), rs_150 (by decide), rs_165 (by decide), rs_181 (by decide), rs_197 (by decide), rs_209 (by decide)]
      exact rs_bad h
  rw [if_neg (show ¬ x2.toInt = 12 from i32n e12), rs_97 e12]
  by_cases e13 : x2 = 13
  · subst e13
    rw [if_pos (show (13 : Int32).toInt = 13 from rfl)]
    unfold BM_reserved_112
    refine pl_neg (by decide) ?_
    rw [h1]
    refine pl_in (fun e => ?_) (fun e => ?_)
    · rw [if_neg (oB_f (fun q => e (i32e (show _ = (3 : Int) by omega)))), rs_127 (by decide), rs_150 (by decide), rs_165 (by decide), rs_181 (by decide), rs_197 (by decide), rs_209 (by decide)]
      exact rs_bad h
    · rw [Decidable.not_not] at e
      rw [if_pos (show oB c 3 3 = true from oB_is e), rs_123]
      unfold BM_reserved_247
      refine pl_pos (by decide) (pl_pos (by decide) (pl_neg (by decide) (pl_neg (by decide) (pl_neg (by decide) (pl_neg (by decide) (pl_neg (by decide) (pl_neg (by decide) (pl_neg (by decide) ?_))))))))
      have hT : 1 ≤ (oT c).toInt ∧ (oT c).toInt ≤ 11 := by rw [e]; decide
      have hn : 0 < oN c := oT_n (by omega)
      exact pl_n (xM_division2 (b := true) (i := 0) (c' := sZ (sS (sC c true) 4)) hM x3 (Or.inr (Or.inr (Or.inl rfl))) hu hT.1 hT.2 (by rw [sS_pos (c := sC c true) hn]; rfl) (fun _ => rfl)) (fun _ _ _ e => e) (fun g2 r2 e2 => e2)
  rw [if_neg (show ¬ x2.toInt = 13 from i32n e13), rs_112 e13]
  by_cases e14 : x2 = 14
  · subst e14
    rw [if_pos (show (14 : Int32).toInt = 14 from rfl), rs_127 (by decide)]
    unfold BM_reserved_150
    refine pl_neg (by decide) ?_
    rw [h1]
    refine pm_t (xM_in) (fun e => pl_pos (by decide) ?_) (fun e => pl_neg (by decide) ?_)
    · have e' := oB_t.mp (show oB c 3 5 = true from e)
      have hn : 0 < oN c := oT_n (by omega)
      rw [rs_219]
      unfold BM_reserved_247
      refine pl_pos (by decide) (pl_pos (by decide) (pl_neg (by decide) (pl_neg (by decide) (pl_neg (by decide) (pl_neg (by decide) (pl_neg (by decide) (pl_neg (by decide) (pl_neg (by decide) ?_))))))))
      exact pl_n (xM_division2 (b := true) (i := 0) (c' := sZ (sS (sC c true) 6)) hM x3 (Or.inr (Or.inr (Or.inr (Or.inl rfl)))) hu (by omega) (by omega) (by rw [sS_pos (c := sC c true) hn]; rfl) (fun _ => rfl)) (fun _ _ _ e => e) (fun g2 r2 e2 => e2)
    · rw [rs_165 (by decide), rs_181 (by decide), rs_197 (by decide), rs_209 (by decide)]
      exact rs_bad h
  rw [if_neg (show ¬ x2.toInt = 14 from i32n e14)]
  by_cases e15 : x2 = 15
  · subst e15
    rw [if_pos (show (15 : Int32).toInt = 15 from rfl), rs_127 (by decide), rs_150 (by decide)]
    unfold BM_reserved_165
    refine pl_neg (by decide) ?_
    rw [h1]
    refine pm_t (xM_in) (fun e => pl_pos (by decide) ?_) (fun e => pl_neg (by decide) ?_)
    · have e' := oB_t.mp (show oB c 3 6 = true from e)
      have hn : 0 < oN c := oT_n (by omega)
      rw [rs_219]
      unfold BM_reserved_247
      refine pl_pos (by decide) (pl_pos (by decide) (pl_neg (by decide) (pl_neg (by decide) (pl_neg (by decide) (pl_neg (by decide) (pl_neg (by decide) (pl_neg (by decide) (pl_neg (by decide) ?_))))))))
      exact pl_n (xM_division2 (b := true) (i := 0) (c' := sZ (sS (sC c true) 7)) hM x3 (Or.inr (Or.inr (Or.inr (Or.inr rfl)))) hu (by omega) (by omega) (by rw [sS_pos (c := sC c true) hn]; rfl) (fun _ => rfl)) (fun _ _ _ e => e) (fun g2 r2 e2 => e2)
    · rw [rs_181 (by decide), rs_197 (by decide), rs_209 (by decide)]
      exact rs_bad h
  rw [if_neg (show ¬ x2.toInt = 15 from i32n e15)]
  by_cases e17 : x2 = 17
  · subst e17
    rw [if_pos (show (17 : Int32).toInt = 17 from rfl)]
    unfold BM_reserved_127 BM_reserved_128
    refine pl_neg (by decide) (pl_neg (by decide) ?_)
    rw [h1]
    refine pm_t (xM_in) (fun e => pl_pos (by decide) ?_) (fun e => pl_neg (by decide) ?_)
    · have e' := oB_t.mp (show oB c 4 5 = true from e)
      rw [rs_219]
      unfold BM_reserved_247
      refine pl_pos (by decide) (pl_pos (by decide) (pl_neg (by decide) (pl_neg (by decide) (pl_neg (by decide) (pl_pos (by decide) ?_)))))
      exact pl_n (xM_described hM x3 hu e'.1 e'.2) (fun _ _ _ e => e) (fun g2 r2 e2 => e2)
    · rw [rs_150 (by decide), rs_165 (by decide), rs_181 (by decide), rs_197 (by decide), rs_209 (by decide)]
      exact rs_bad h
  rw [if_neg (show ¬ x2.toInt = 17 from i32n e17), rs_127 e17, rs_150 e14, rs_165 e15, rs_181 e30, rs_197 e32, rs_209 e33]
  exact rs_bad h
/-- ONE CLAUSE of the model is the reader's -/
theorem xM_clause (hM : Mc c f.2.1 f.2.2) (hw : Wv w) (h : Gd w f p g r) (hp : p < w.2.2) : pl (ev L xs (m + 1) d nM_clause [.ref cM] g r) (kZ w f (zC w c p).2 (zC w c p).1) kN := by
  cases d with
  | zero => trivial
  | succ d =>
    have hm := hM.gd h
    have hk : ∀ v, wk w p v = decide (w.1 p = v) := fun v => by
      unfold wk
      rw [decide_eq_true hp]
      rfl
    have h85 : ¬ w.1 p = 1 ∧ ¬ w.1 p = 2 ∨ w.1 p = 1 ∧ ¬ oB c 8 11 = true ∨ w.1 p = 2 ∧ ¬ oB c 5 7 = true → pl (BM_clause_85 L xs (m + 1) d m (oT c) g r) (kZ w f (zC w c p).2 (zC w c p).1) kN := by
      intro hc
      unfold BM_clause_85 BM_clause_124
      rw [h.nat, h.1.mrd.1]
      refine pl_if (fun _ => ?_) (fun _ => trivial)
      refine pl_iq (fun e => ?_) (fun e => ?_)
      · have e1 : ¬ wk w p 1 = true := by rw [hk, e]; decide
        have e2 : ¬ wk w p 2 = true := by rw [hk, e]; decide
        have e0 : wk w p 0 = true := by rw [hk, e]; decide
        rw [h.1.mrd.2.1]
        refine pl_if (fun _ => ?_) (fun _ => trivial)
        refine pl_n (X1 := kN) (Q1 := kZ w f (zC w c p).2 (zC w c p).1) ?_ (fun _ _ _ e => e) (fun g2 r2 e2 => e2)
        unfold zC
        rw [if_neg e1, if_neg e2]
        cases d with
        | zero => trivial
        | succ d =>
          rw [qM_reserved]
          have hst : wb w p = true → ∀ x4 : Int32, BM_reserved_45 L xs (m + 1) d m (oT c) (w.2.1 p) (g fM_at) x4 g r = BM_reserved_223 L xs (m + 1) d m (oT c) (w.2.1 p) (g fM_at) x4 0 g r := by
            intro eb x4
            have hv := (wb_iff.mp eb).2.2
            have hv' : 36 ≤ (w.2.1 p).toInt ∨ (w.2.1 p).toInt = 29 := hv.imp (fun e => e.1) (fun e => by rw [e]; rfl)
            have nv : ∀ y : Int32, y.toInt < 36 → y.toInt ≠ 29 → w.2.1 p ≠ y := fun y h1 h2 e => by rw [e] at hv'; omega
            exact rs_no ⟨nv 0 (by decide) (by decide), nv 2 (by decide) (by decide), nv 3 (by decide) (by decide), nv 4 (by decide) (by decide), nv 5 (by decide) (by decide), nv 12 (by decide) (by decide), nv 13 (by decide) (by decide), nv 17 (by decide) (by decide), nv 14 (by decide) (by decide), nv 15 (by decide) (by decide), nv 30 (by decide) (by decide), nv 32 (by decide) (by decide), nv 33 (by decide) (by decide)⟩
          unfold BM_reserved_44 BM_reserved_40
          refine pl_u (xM_begins L xs h.1.mrd h.2.2.2.1) (fun eb => pl_neg (by decide) ?_) (fun eb => pl_pos (by decide) ?_)
          · rw [if_pos eb]
            have hbad : ∀ C, pl (BM_reserved_45 L xs (m + 1) d m (oT c) (w.2.1 p) (g fM_at) 0 g r) (kZ w f C (no p)) kN := fun C => by
              rw [hst eb]
              exact rs_bad h
            have hgo : 8 ≤ (oT c).toInt → (oT c).toInt ≤ 11 → pl (BM_reserved_45 L xs (m + 1) d m (oT c) (w.2.1 p) (g fM_at) 1 g r) (kZ w f (eB c, false) (bd (rv w 10 p 0 false) (fun q _ => if wk w q 4 then ok (q + 1) else no q))) kN := by
              intro t1 t2
              rw [hst eb]
              unfold BM_reserved_223 BM_reserved_224 BM_reserved_247
              refine pl_neg (by decide) (pl_pos (by decide) (pl_neg (by decide) ?_))
              exact pl_n (xM_sentence hM rfl h t1 t2) (fun _ _ _ e => e) (fun g2 r2 e2 => e2)
            show pl _ (kZ w f (eB c, false) (if oB c 8 11 then (if !decide (oT c = 9) || oC c then bd (rv w 10 p 0 false) (fun q _ => if wk w q 4 then ok (q + 1) else no q) else no p) else no p)) kN
            refine pm_t (xM_in) (fun ei => pl_neg (by decide) ?_) (fun ei => pl_pos (by decide) (hbad _))
            obtain ⟨t1, t2⟩ := oB_t.mp (show oB c 8 11 = true from ei)
            have hse := hm.2.2.2.1 ⟨t1, t2⟩
            refine pl_in (fun e9 => ?_) (fun e9 => ?_)
            · rw [if_pos (show (!decide (oT c = 9) || oC c) = true by rw [decide_eq_false e9]; rfl)]
              exact hgo t1 t2
            · rw [Decidable.not_not] at e9
              refine pl_il (fun es => ?_) (fun es => ?_)
              · rw [i32_0] at es
                have eC : oC c = false := Bool.eq_false_iff.mpr (fun e => absurd (hse.mpr e) (by omega))
                rw [if_neg (show ¬ (!decide (oT c = 9) || oC c) = true by rw [decide_eq_true e9, eC]; decide)]
                exact hbad _
              · rw [i32_0] at es
                rw [if_pos (show (!decide (oT c = 9) || oC c) = true by rw [hse.mp (by omega), Bool.or_true])]
                exact hgo t1 t2
          · rw [if_neg (show ¬ wb w p = true by rw [eb]; decide), if_pos e0]
            exact xM_res hM _ rfl rfl h e0
      · have e0 : ¬ wk w p 0 = true := by
          rw [hk, decide_eq_false e]
          decide
        have hA : (zC w c p).1 = no p := by
          unfold zC
          rcases hc with ⟨c1, c2⟩ | ⟨c1, c2⟩ | ⟨c1, c2⟩
          · have eb : ¬ wb w p = true := fun q => e (wb_iff.mp q).2.1
            rw [if_neg (by rw [hk, decide_eq_false c1]; decide), if_neg (by rw [hk, decide_eq_false c2]; decide), if_neg eb, if_neg e0]
          · rw [if_pos (by rw [hk, decide_eq_true c1]), if_neg c2]
          · rw [if_neg (by rw [hk, c1]; decide), if_pos (by rw [hk, decide_eq_true c1]), if_neg c2]
        rw [hA]
        exact pm_fa h h.2.2.2.1 h.2.2.2.2 (fun g2 r2 h2 f2 => kZ.n0 h2)
    have h22 : pl (BM_clause_22 L xs (m + 1) d m (oT c) g r) (kZ w f (zC w c p).2 (zC w c p).1) kN := by
      unfold BM_clause_22 BM_clause_53 BM_clause_124
      rw [h.nat, h.1.mrd.1]
      refine pl_if (fun _ => ?_) (fun _ => trivial)
      refine pl_in (fun e2 => ?_) (fun e2 => ?_)
      · refine pl_if (fun _ => ?_) (fun _ => trivial)
        refine pl_in (fun e1 => ?_) (fun e1 => ?_)
        · exact h85 (Or.inl ⟨e1, e2⟩)
        · rw [Decidable.not_not] at e1
          have ek : wk w p 1 = true := by rw [hk, decide_eq_true e1]
          refine pl_u (xM_in) (fun ei => pl_neg (by decide) ?_) (fun ei => pl_pos (by decide) ?_)
          · have ei' : oB c 8 11 = true := ei
            obtain ⟨t1, t2⟩ := oB_t.mp ei'
            unfold zC
            rw [if_pos ek, if_pos ei']
            exact pl_n (xM_named hM rfl h ek t1 t2) (fun _ _ _ e => e) (fun g2 r2 e2 => e2)
          · exact h85 (Or.inr (Or.inl ⟨e1, by rw [show oB c 8 11 = false from ei]; decide⟩))
      · rw [Decidable.not_not] at e2
        have ek : wk w p 2 = true := by rw [hk, decide_eq_true e2]
        have ek1 : ¬ wk w p 1 = true := by rw [hk, e2]; decide
        refine pl_u (xM_in) (fun ei => pl_neg (by decide) ?_) (fun ei => pl_pos (by decide) ?_)
        · have ei' : oB c 5 7 = true := ei
          obtain ⟨t1, t2⟩ := oB_t.mp ei'
          unfold zC
          rw [if_neg ek1, if_pos ek, if_pos ei']
          exact pl_n (xM_item hM hw t1 t2 h hp) (fun _ _ _ e => e) (fun g2 r2 e2 => e2)
        · refine pl_if (fun _ => ?_) (fun _ => trivial)
          refine pl_pos (by rw [c2_ne, h.nat, h.1.mrd.1, e2]; decide) ?_
          exact h85 (Or.inr (Or.inr ⟨e2, by rw [show oB c 5 7 = false from ei]; decide⟩))
    rw [qM_clause]
    refine pl_in (fun eo => ?_) (fun eo => ?_)
    · have hn : 0 < oN c := by
        have h1 := hm.1
        have n0 : (g fM_open).toInt ≠ 0 := fun e => eo (i32e (e.trans rfl))
        omega
      have en : (g fM_open - 1).toNatClampNeg = oN c - 1 := by
        have h1 := hm.1
        rw [nc_eq, i32_dec (by omega), h1]
        omega
      refine pl_if (fun _ => ?_) (fun _ => trivial)
      rw [en, (hm.top hn).1, ← oT_pos hn]
      exact h22
    · rw [Decidable.not_not] at eo
      have h0 : oN c = 0 := by
        have h1 := hm.1
        rw [eo] at h1
        have : (0 : Int) = oN c := h1
        omega
      have e := h22
      rw [oT_0 h0] at e
      exact e
end
