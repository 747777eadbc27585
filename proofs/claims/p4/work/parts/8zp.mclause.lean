/-! ONE CLAUSE of the model, with its tree. -/
section
variable {L : Nat} {xs : Nat → Int32} {m d k : Nat} {w : Ws} {f : Gh} {p q : Nat} {c : CU} {x : Xs} {un : Nat} {g : a2_G} {r : a2_A} {n : Nat} {D : Nat → TD} {K : Nat → List Nat} {ids : List Nat}
theorem rst_bad {x1 x2 x3 x5 : Int32} {z : Option (Nat × Xs)} {c' : CU} (h : Gd w f p g r) : pl (BM_reserved_223 L xs (m + 1) d k x1 x2 x3 0 x5 g r) (kMT f z c' un) kN := by
  unfold BM_reserved_223 BM_reserved_224
  refine pl_neg (by decide) (pl_neg (by decide) ?_)
  exact pm_fa h h.2.2.2.1 h.2.2.2.2 (fun g2 r2 h2 f2 => kMT.b h2)
/-- DECLARATIVES -/
theorem zM_decl (hM : Mc c f.2.1 f.2.2) (hH : HM (oN c) (oT c).toInt (oI c) x.2 ids f.2.1 f.2.2) (hZ : Zc K D n ids (rz x.1)) (hU : (f.2.1 fM_units).toInt = (un : Int)) (hX : UMz c ids n D K un f.2.2) (hs : oT c = 8) (x1 x2 x4 x5 : Int32) (h : Am w f (p + 1) n D K g r) : pl (fn_v (ev L xs (m + 1) d nM_mustBe [.ref cM, .int 4] g r) fun v3 g1 r2 => (if am_c2 .ne v3 0 = true then (fn_v (ev L xs (m + 1) d nM_make [.ref cM, .int 22, .int 0, .int (Int32.ofNat p)] g1 r2) fun v6 g4 r5 => (fn_v (ev L xs (m + 1) d nM_here [.ref cM] (upd g4 fM_declaratives v6) r5) fun v9 g7 r8 => (if am_inr v9 (r8 fM_procedure).1 = true then (fn_n (ev L xs (m + 1) d nM_attach [.ref cM, .int ((r8 fM_procedure).2 (v9 : Int32).toNatClampNeg), .int (g7 fM_declaratives)] g7 r8) fun g10 r11 => (fn_n (ev L xs (m + 1) d nM_to [.ref cM, .int 9] g10 r11) fun g12 r13 => (BM_reserved_446 L xs (m + 1) d k x1 x2 (Int32.ofNat p) x4 x5 g12 r13))) else none))) else (some (.inl none, g1, r2)))) (kMT f (some (p + 2, attC (oN c + 1) x.1 ((22, 0, Int32.ofNat p, -1), []), x.2)) (sS c 9) un) kN := by
  have hx := rz_ne hZ hH.1
  have hn : 0 < oN c := oT_n (by rw [hs]; decide)
  have hn1 := h.2.2.1
  refine ml_mk Am.lf h (fun e g1 h1 => pl_pos (by decide) ?_) (fun e g1 r1 h1 => pl_neg (by decide) (kMT.b h1))
  refine ml_nm (-1) (fun q => absurd q.1 (by decide)) h1 (fun g2 r2 h2 => ?_)
  have hG2 := h2.gd
  have hm2 := hM.gd hG2
  have hh2 := hH.gd hG2
  refine ml_he (g := upd g2 fM_declaratives (Int32.ofNat n)) hm2.1 hn (pl_if (fun _ => ?_) (fun _ => trivial))
  have ha := hh2.2.2.1 (by rw [hs]; decide) (by rw [hs]; decide)
  rw [dvM_p (by rw [hs]; decide)] at ha
  obtain ⟨n1, D1, K1, hA, hq, hN⟩ := h2
  have hR : Rm n1 D1 K1 (upd g2 fM_declaratives (Int32.ofNat n)) r2 := hA.2.cg
  refine pl_n (at_core hZ ha hn1 hq hR hA.ml) (fun _ _ _ e => e) (fun g3 r3 e => ?_)
  obtain ⟨K', e1, e2, rfl, e4, e5, e6⟩ := e
  rw [← rz_att hx] at e2
  unfold BM_reserved_446
  refine pm_to (N := oN c) hm2.1 hn ?_
  have eT : oT (sS c 9) = 9 := oT_ss (by omega)
  obtain ⟨p1, p2, p3, p4, p5⟩ := hh2.2.2.2.2.2.2 (by rw [hs]; decide) (by rw [hs]; decide)
  obtain ⟨z1, z2⟩ := p5 (by rw [hs]; rfl)
  refine kMT.mk e1.cg (by rw [eT]; decide) e2 ?_ (hA.uns hU) hG2.2.2.2.1 (hX.atp hZ hH.1 e6 rfl ⟨show (22 : Int32) ≠ 3 by decide, show (22 : Int32) ≠ 7 by decide, show (22 : Int32) ≠ 20 by decide⟩ ⟨(e5 fM_unitNode (by decide)).trans hG2.rows.1, (e5 fM_environment (by decide)).trans hG2.rows.2.1, (e5 fM_data (by decide)).trans hG2.rows.2.2.1, (e5 fM_procedure (by decide)).trans hG2.rows.2.2.2⟩ (by omega) (by rw [hs]; decide) (by rw [eT]; decide))
  rw [eT, oN_ss]
  refine ⟨hh2.1.att (by omega) ha.lt, hh2.2.1.att (by omega) ha.lt rfl (e5 fM_its (by decide)) (e5 fM_unitNode (by decide)), fun _ _ => ?_, fun _ e => absurd e (by decide), fun _ e => absurd e (by decide), fun _ => Pt.new ha.lt, fun _ _ => ⟨p1.att (by omega) ha.lt, p2.att (by omega) ha.lt, fun e => absurd z1 e, fun e => absurd z2 e, fun e => absurd e (by decide)⟩⟩
  rw [dvM_p (by decide)]
  show Pt _ _ ((r3 fM_procedure).2 ((r3 fM_its).2 (oN c - 1)).toNatClampNeg)
  rw [e5 fM_procedure (by decide), e5 fM_its (by decide)]
  exact ha.att (Nat.le_refl _) ha.lt
/-- a reserved word that begins no statement -/
theorem zM_res (hM : Mc c f.2.1 f.2.2) (hH : HM (oN c) (oT c).toInt (oI c) x.2 ids f.2.1 f.2.2) (hZ : Zc K D n ids (rz (uz c x.1))) (hU : (f.2.1 fM_units).toInt = (un : Int)) (hX : UMz c ids n D K un f.2.2) {x2 : Int32} (h2 : w.2.1 p = x2) (h : Am w f p n D K g r) (hp : wk w p 0 = true) (n1 : ¬ wk w p 1 = true) (n2 : ¬ wk w p 2 = true) (n3 : ¬ wb w p = true) : pl (BM_reserved_45 L xs (m + 1) d k (oT c) x2 (Int32.ofNat p) 0 g r) (kMT f (yC w c x p) (zR w c p).2.1 (if x2 = 0 then un + 1 else un)) kN := by
  have hpn := (wk_iff.mp hp).1
  have hu := h.up hpn
  have hG := h.1
  have hm := hM.gd hG
  have hZn : oT c ≠ 0 → Zc K D n ids (rz x.1) := fun hT => by
    rw [uz_n hT] at hZ
    exact hZ
  have nz : ∀ {a : Int32}, oT c = a → a ≠ 0 → oT c ≠ 0 := fun e e2 => by rw [e]; exact e2
  unfold yC zR zD
  rw [if_neg n1, if_neg n2, if_neg n3, h2]
  by_cases e0 : x2 = 0
  · subst e0
    rw [if_pos (show (0 : Int32).toInt = 0 from rfl), if_pos (show (0 : Int32).toInt = 0 from rfl), if_pos rfl]
    unfold BM_reserved_45
    refine pl_pos (by decide) ?_
    rw [rs_123]
    unfold BM_reserved_247
    refine pl_pos (by decide) (pl_neg (by decide) ?_)
    exact pl_n (zM_identified hM hH hZ hU hX h hpn) (fun _ _ _ e => e) (fun g2 r2 e2 => e2)
  rw [if_neg (show ¬ x2.toInt = 0 from i32n e0), if_neg (show ¬ x2.toInt = 0 from i32n e0), if_neg e0]
  by_cases e2 : x2 = 2
  · subst e2
    rw [if_pos (show (2 : Int32).toInt = 2 from rfl), if_pos (show (2 : Int32).toInt = 2 from rfl)]
    unfold BM_reserved_45
    refine pl_neg (by decide) (pl_neg (by decide) ?_)
    refine pl_iq (fun e => ?_) (fun e => ?_)
    · rw [rs_123]
      unfold BM_reserved_247 BM_reserved_344 BM_reserved_355
      refine pl_pos (by decide) (pl_pos (by decide) (pl_pos (by decide) (pl_pos (by decide) ?_)))
      exact pl_n (zM_unitNamed hM hH e hZ hU hX hu (Or.inl ⟨rfl, rfl⟩)) (fun _ _ _ e => e) (fun g2 r2 e2 => e2)
    · rw [rs_60 (by decide), rs_77 (by decide), rs_87 (by decide), rs_97 (by decide), rs_112 (by decide), rs_127 (by decide), rs_150 (by decide), rs_165 (by decide), rs_181 (by decide), rs_197 (by decide), rs_209 (by decide)]
      exact rst_bad hG
  rw [if_neg (show ¬ x2.toInt = 2 from i32n e2), if_neg (show ¬ x2.toInt = 2 from i32n e2), rs_45 e0 e2]
  by_cases e3 : x2 = 3
  · subst e3
    rw [if_pos (show (3 : Int32).toInt = 3 from rfl), if_pos (show (3 : Int32).toInt = 3 from rfl)]
    unfold BM_reserved_60
    refine pl_neg (by decide) ?_
    have hbad : ∀ z c', pl (BM_reserved_77 L xs (m + 1) d k (oT c) 3 (Int32.ofNat p) 0 g r) (kMT f z c' un) kN := by
      intro z c'
      rw [rs_77 (by decide), rs_87 (by decide), rs_97 (by decide), rs_112 (by decide), rs_127 (by decide), rs_150 (by decide), rs_165 (by decide), rs_181 (by decide), rs_197 (by decide), rs_209 (by decide)]
      exact rst_bad hG
    refine pl_in (fun e => hbad _ _) (fun e => ?_)
    rw [Decidable.not_not] at e
    refine pl_iq (fun eo => ?_) (fun eo => hbad _ _)
    rw [rs_123]
    unfold BM_reserved_247 BM_reserved_344 BM_reserved_355
    refine pl_pos (by decide) (pl_pos (by decide) (pl_neg (by decide) (pl_pos (by decide) (pl_neg (by decide) ?_))))
    exact pl_n (zM_unitNamed hM hH e hZ hU hX hu (Or.inr ⟨rfl, rfl⟩)) (fun _ _ _ e => e) (fun g2 r2 e2 => e2)
  rw [if_neg (show ¬ x2.toInt = 3 from i32n e3), if_neg (show ¬ x2.toInt = 3 from i32n e3), rs_60 e3]
  by_cases e4 : x2 = 4
  · subst e4
    rw [if_pos (show (4 : Int32).toInt = 4 from rfl), if_pos (show (4 : Int32).toInt = 4 from rfl)]
    unfold BM_reserved_77
    refine pl_neg (by decide) ?_
    refine pl_iq (fun e => ?_) (fun e => ?_)
    · rw [rs_123]
      unfold BM_reserved_247
      refine pl_pos (by decide) (pl_pos (by decide) (pl_neg (by decide) (pl_neg (by decide) (pl_neg (by decide) (pl_neg (by decide) (pl_neg (by decide) (pl_neg (by decide) (pl_neg (by decide) ?_))))))))
      have hn : 0 < oN c := oT_n (by rw [e]; decide)
      exact pl_n (zdv_e hM hH (hZn (nz e (by decide))) hU hX (Or.inl rfl) (Or.inl ⟨rfl, by rw [e]; rfl⟩) hu hn oN_ss (oT_ss (by omega))) (fun _ _ _ e => e) (fun g2 r2 e2 => e2)
    · rw [rs_87 (by decide), rs_97 (by decide), rs_112 (by decide), rs_127 (by decide), rs_150 (by decide), rs_165 (by decide), rs_181 (by decide), rs_197 (by decide), rs_209 (by decide)]
      exact rst_bad hG
  rw [if_neg (show ¬ x2.toInt = 4 from i32n e4), if_neg (show ¬ x2.toInt = 4 from i32n e4), rs_77 e4]
  by_cases e5 : x2 = 5
  · subst e5
    rw [if_pos (show (5 : Int32).toInt = 5 from rfl), if_pos (show (5 : Int32).toInt = 5 from rfl)]
    unfold BM_reserved_87
    refine pl_neg (by decide) ?_
    refine pl_iq (fun e => ?_) (fun e => ?_)
    · rw [rs_123]
      unfold BM_reserved_247
      refine pl_pos (by decide) (pl_pos (by decide) (pl_neg (by decide) (pl_neg (by decide) (pl_pos (by decide) ?_))))
      exact pl_n (zM_select hM hH (hZn (nz e (by decide))) hU hX (by rw [e]; rfl) hu) (fun _ _ _ e => e) (fun g2 r2 e2 => e2)
    · rw [rs_97 (by decide), rs_112 (by decide), rs_127 (by decide), rs_150 (by decide), rs_165 (by decide), rs_181 (by decide), rs_197 (by decide), rs_209 (by decide)]
      exact rst_bad hG
  rw [if_neg (show ¬ x2.toInt = 5 from i32n e5), if_neg (show ¬ x2.toInt = 5 from i32n e5), rs_87 e5]
  by_cases e30 : x2 = 30
  · subst e30
    rw [if_neg (show ¬ (30 : Int32).toInt = 12 by decide), if_neg (show ¬ (30 : Int32).toInt = 13 by decide), if_neg (show ¬ (30 : Int32).toInt = 14 by decide), if_neg (show ¬ (30 : Int32).toInt = 15 by decide), if_neg (show ¬ (30 : Int32).toInt = 17 by decide), if_pos (show (30 : Int32).toInt = 30 from rfl), if_pos (show (30 : Int32).toInt = 30 from rfl), rs_97 (by decide), rs_112 (by decide), rs_127 (by decide), rs_150 (by decide), rs_165 (by decide)]
    unfold BM_reserved_181
    refine pl_neg (by decide) ?_
    refine pl_u xM_in (fun e => pl_pos (by decide) ?_) (fun e => pl_neg (by decide) ?_)
    · have e' := oB_t.mp (show oB c 1 7 = true from e)
      have hn : 0 < oN c := oT_n (by omega)
      have hT0 : oT c ≠ 0 := fun e => by rw [e] at e'; exact absurd e'.1 (by decide)
      rw [rs_219]
      unfold BM_reserved_247
      refine pl_pos (by decide) (pl_pos (by decide) (pl_neg (by decide) (pl_neg (by decide) (pl_neg (by decide) (pl_neg (by decide) (pl_pos (by decide) ?_))))))
      exact pl_n (zM_begun hM hH (hZn hT0) hU hX e' hu hn (oN_ss (c := sC c false)) (oT_ss (c := sC c false) (by show oN c ≠ 0; omega))) (fun _ _ _ e => e) (fun g2 r2 e2 => e2)
    · rw [rs_197 (by decide), rs_209 (by decide)]
      exact rst_bad hG
  rw [if_neg (show ¬ x2.toInt = 30 from i32n e30)]
  by_cases e32 : x2 = 32
  · subst e32
    rw [if_neg (show ¬ (32 : Int32).toInt = 12 by decide), if_neg (show ¬ (32 : Int32).toInt = 13 by decide), if_neg (show ¬ (32 : Int32).toInt = 14 by decide), if_neg (show ¬ (32 : Int32).toInt = 15 by decide), if_neg (show ¬ (32 : Int32).toInt = 17 by decide), if_neg (show ¬ (32 : Int32).toInt = 30 by decide), if_pos (show (32 : Int32).toInt = 32 from rfl), if_pos (show (32 : Int32).toInt = 32 from rfl), rs_97 (by decide), rs_112 (by decide), rs_127 (by decide), rs_150 (by decide), rs_165 (by decide), rs_181 (by decide)]
    unfold BM_reserved_197
    refine pl_neg (by decide) ?_
    refine pl_iq (fun e => ?_) (fun e => ?_)
    · rw [rs_219]
      unfold BM_reserved_247
      refine pl_pos (by decide) (pl_pos (by decide) (pl_neg (by decide) (pl_neg (by decide) (pl_neg (by decide) (pl_neg (by decide) (pl_neg (by decide) (pl_pos (by decide) ?_)))))))
      exact zM_decl hM hH (hZn (nz e (by decide))) hU hX e _ _ _ _ hu
    · rw [rs_209 (by decide)]
      exact rst_bad hG
  rw [if_neg (show ¬ x2.toInt = 32 from i32n e32)]
  by_cases e33 : x2 = 33
  · subst e33
    rw [if_neg (show ¬ (33 : Int32).toInt = 12 by decide), if_neg (show ¬ (33 : Int32).toInt = 13 by decide), if_neg (show ¬ (33 : Int32).toInt = 14 by decide), if_neg (show ¬ (33 : Int32).toInt = 15 by decide), if_neg (show ¬ (33 : Int32).toInt = 17 by decide), if_neg (show ¬ (33 : Int32).toInt = 30 by decide), if_neg (show ¬ (33 : Int32).toInt = 32 by decide), if_pos (show (33 : Int32).toInt = 33 from rfl), if_pos (show (33 : Int32).toInt = 33 from rfl), rs_97 (by decide), rs_112 (by decide), rs_127 (by decide), rs_150 (by decide), rs_165 (by decide), rs_181 (by decide), rs_197 (by decide)]
    unfold BM_reserved_209
    refine pl_neg (by decide) ?_
    refine pl_il (fun e => rst_bad hG) (fun e => ?_)
    rw [i32_0] at e
    have hT0 : oT c ≠ 0 := fun e2 => by rw [e2] at e; exact absurd (by decide) e
    rw [rs_219]
    unfold BM_reserved_247
    refine pl_pos (by decide) (pl_pos (by decide) (pl_neg (by decide) (pl_neg (by decide) (pl_neg (by decide) (pl_neg (by decide) (pl_neg (by decide) (pl_neg (by decide) (pl_pos (by decide) ?_))))))))
    exact pl_n (zM_ended hM hH (hZn hT0) hU hX hu (by omega)) (fun _ _ _ e => e) (fun g2 r2 e2 => e2)
  rw [if_neg (show ¬ x2.toInt = 33 from i32n e33)]
  by_cases e12 : x2 = 12
  · subst e12
    rw [if_pos (show (12 : Int32).toInt = 12 from rfl), if_pos (show (12 : Int32).toInt = 12 from rfl)]
    unfold BM_reserved_97
    refine pl_neg (by decide) ?_
    refine pl_u xM_in (fun e => pl_pos (by decide) ?_) (fun e => pl_neg (by decide) ?_)
    · have e' := oB_t.mp (show oB c 1 2 = true from e)
      have hn : 0 < oN c := oT_n (by omega)
      have hT0 : oT c ≠ 0 := fun e => by rw [e] at e'; exact absurd e'.1 (by decide)
      rw [rs_123]
      unfold BM_reserved_247
      refine pl_pos (by decide) (pl_pos (by decide) (pl_neg (by decide) (pl_neg (by decide) (pl_neg (by decide) (pl_neg (by decide) (pl_neg (by decide) (pl_neg (by decide) (pl_neg (by decide) ?_))))))))
      exact pl_n (zdv_e hM hH (hZn hT0) hU hX (Or.inr rfl) (Or.inr ⟨rfl, e'⟩) hu hn oN_ss (oT_ss (by omega))) (fun _ _ _ e => e) (fun g2 r2 e2 => e2)
    · rw [rs_112 (by decide), rs_127 (by decide), rs_150 (by decide), rs_165 (by decide), rs_181 (by decide), rs_197 (by decide), rs_209 (by decide)]
      exact rst_bad hG
  rw [if_neg (show ¬ x2.toInt = 12 from i32n e12), if_neg (show ¬ x2.toInt = 12 from i32n e12), rs_97 e12]
  by_cases e13 : x2 = 13
  · subst e13
    rw [if_pos (show (13 : Int32).toInt = 13 from rfl), if_pos (show (13 : Int32).toInt = 13 from rfl)]
    unfold BM_reserved_112
    refine pl_neg (by decide) ?_
    refine pl_in (fun e => ?_) (fun e => ?_)
    · rw [rs_127 (by decide), rs_150 (by decide), rs_165 (by decide), rs_181 (by decide), rs_197 (by decide), rs_209 (by decide)]
      exact rst_bad hG
    · rw [Decidable.not_not] at e
      rw [rs_123]
      unfold BM_reserved_247
      refine pl_pos (by decide) (pl_pos (by decide) (pl_neg (by decide) (pl_neg (by decide) (pl_neg (by decide) (pl_neg (by decide) (pl_neg (by decide) (pl_neg (by decide) (pl_neg (by decide) ?_))))))))
      have hn : 0 < oN c := oT_n (by rw [e]; decide)
      exact pl_n (zdv_s (c' := sZ (sS (sC c true) 4)) hM hH (hZn (nz e (by decide))) hU hX (Or.inl rfl) hu hn (by rw [e]; decide) (oN_ss (c := sC c true)) (oT_ss (c := sC c true) (by show oN c ≠ 0; omega)) rfl) (fun _ _ _ e => e) (fun g2 r2 e2 => e2)
  rw [if_neg (show ¬ x2.toInt = 13 from i32n e13), if_neg (show ¬ x2.toInt = 13 from i32n e13), rs_112 e13]
  by_cases e14 : x2 = 14
  · subst e14
    rw [if_pos (show (14 : Int32).toInt = 14 from rfl), if_pos (show (14 : Int32).toInt = 14 from rfl), rs_127 (by decide)]
    unfold BM_reserved_150
    refine pl_neg (by decide) ?_
    refine pl_u xM_in (fun e => pl_pos (by decide) ?_) (fun e => pl_neg (by decide) ?_)
    · have e' := oB_t.mp (show oB c 3 5 = true from e)
      have hn : 0 < oN c := oT_n (by omega)
      have hT0 : oT c ≠ 0 := fun e => by rw [e] at e'; exact absurd e'.1 (by decide)
      rw [rs_219]
      unfold BM_reserved_247
      refine pl_pos (by decide) (pl_pos (by decide) (pl_neg (by decide) (pl_neg (by decide) (pl_neg (by decide) (pl_neg (by decide) (pl_neg (by decide) (pl_neg (by decide) (pl_neg (by decide) ?_))))))))
      exact pl_n (zdv_s (c' := sZ (sS (sC c true) 6)) hM hH (hZn hT0) hU hX (Or.inr (Or.inl rfl)) hu hn (by omega) (oN_ss (c := sC c true)) (oT_ss (c := sC c true) (by show oN c ≠ 0; omega)) rfl) (fun _ _ _ e => e) (fun g2 r2 e2 => e2)
    · rw [rs_165 (by decide), rs_181 (by decide), rs_197 (by decide), rs_209 (by decide)]
      exact rst_bad hG
  rw [if_neg (show ¬ x2.toInt = 14 from i32n e14), if_neg (show ¬ x2.toInt = 14 from i32n e14)]
  by_cases e15 : x2 = 15
  · subst e15
    rw [if_pos (show (15 : Int32).toInt = 15 from rfl), if_pos (show (15 : Int32).toInt = 15 from rfl), rs_127 (by decide), rs_150 (by decide)]
    unfold BM_reserved_165
    refine pl_neg (by decide) ?_
    refine pl_u xM_in (fun e => pl_pos (by decide) ?_) (fun e => pl_neg (by decide) ?_)
    · have e' := oB_t.mp (show oB c 3 6 = true from e)
      have hn : 0 < oN c := oT_n (by omega)
      have hT0 : oT c ≠ 0 := fun e => by rw [e] at e'; exact absurd e'.1 (by decide)
      rw [rs_219]
      unfold BM_reserved_247
      refine pl_pos (by decide) (pl_pos (by decide) (pl_neg (by decide) (pl_neg (by decide) (pl_neg (by decide) (pl_neg (by decide) (pl_neg (by decide) (pl_neg (by decide) (pl_neg (by decide) ?_))))))))
      exact pl_n (zdv_s (c' := sZ (sS (sC c true) 7)) hM hH (hZn hT0) hU hX (Or.inr (Or.inr rfl)) hu hn (by omega) (oN_ss (c := sC c true)) (oT_ss (c := sC c true) (by show oN c ≠ 0; omega)) rfl) (fun _ _ _ e => e) (fun g2 r2 e2 => e2)
    · rw [rs_181 (by decide), rs_197 (by decide), rs_209 (by decide)]
      exact rst_bad hG
  rw [if_neg (show ¬ x2.toInt = 15 from i32n e15), if_neg (show ¬ x2.toInt = 15 from i32n e15)]
  by_cases e17 : x2 = 17
  · subst e17
    rw [if_pos (show (17 : Int32).toInt = 17 from rfl), if_pos (show (17 : Int32).toInt = 17 from rfl)]
    unfold BM_reserved_127 BM_reserved_128
    refine pl_neg (by decide) (pl_neg (by decide) ?_)
    refine pl_u xM_in (fun e => pl_pos (by decide) ?_) (fun e => pl_neg (by decide) ?_)
    · have e' := oB_t.mp (show oB c 4 5 = true from e)
      have hn : 0 < oN c := oT_n (by omega)
      have hT0 : oT c ≠ 0 := fun e => by rw [e] at e'; exact absurd e'.1 (by decide)
      rw [rs_219]
      unfold BM_reserved_247
      refine pl_pos (by decide) (pl_pos (by decide) (pl_neg (by decide) (pl_neg (by decide) (pl_neg (by decide) (pl_pos (by decide) ?_)))))
      exact pl_n (zM_described (c' := sZ (sS c 5)) hM hH (hZn hT0) hU hX hu hn e' (oN_ss (c := c)) (oT_ss (c := c) (by omega)) rfl) (fun _ _ _ e => e) (fun g2 r2 e2 => e2)
    · rw [rs_150 (by decide), rs_165 (by decide), rs_181 (by decide), rs_197 (by decide), rs_209 (by decide)]
      exact rst_bad hG
  rw [rs_127 e17, rs_150 e14, rs_165 e15, rs_181 e30, rs_197 e32, rs_209 e33]
  exact rst_bad hG
def uN (w : Ws) (p : Nat) : Nat := if w.1 p = 0 ∧ w.2.1 p = 0 then 1 else 0
/-- ONE CLAUSE of the model -/
theorem zM_clause (hM : Mc c f.2.1 f.2.2) (hw : Wv w) (hH : HM (oN c) (oT c).toInt (oI c) x.2 ids f.2.1 f.2.2) (hZ : Zc K D n ids (rz (uz c x.1))) (hU : (f.2.1 fM_units).toInt = (un : Int)) (hX : UMz c ids n D K un f.2.2) (h : Am w f p n D K g r) (hp : p < w.2.2) : pl (ev L xs (m + 1) d nM_clause [.ref cM] g r) (kMT f (yC w c x p) (zC w c p).2.1 (un + uN w p)) kN := by
  cases d with
  | zero => trivial
  | succ d =>
    have hG := h.1
    have hm := hM.gd hG
    have hk : ∀ v, wk w p v = decide (w.1 p = v) := fun v => by
      unfold wk
      rw [decide_eq_true hp]
      rfl
    have hZn : oT c ≠ 0 → Zc K D n ids (rz x.1) := fun hT => by
      rw [uz_n hT] at hZ
      exact hZ
    have h85 : ¬ w.1 p = 1 ∧ ¬ w.1 p = 2 ∨ w.1 p = 1 ∧ ¬ oB c 8 11 = true ∨ w.1 p = 2 ∧ ¬ oB c 5 7 = true → pl (BM_clause_85 L xs (m + 1) d m (oT c) g r) (kMT f (yC w c x p) (zC w c p).2.1 (un + uN w p)) kN := by
      intro hc
      unfold BM_clause_85 BM_clause_124
      rw [hG.nat, hG.1.mrd.1]
      refine pl_if (fun _ => ?_) (fun _ => trivial)
      refine pl_iq (fun e => ?_) (fun e => ?_)
      · have e1 : ¬ wk w p 1 = true := by rw [hk, e]; decide
        have e2 : ¬ wk w p 2 = true := by rw [hk, e]; decide
        have e0 : wk w p 0 = true := by rw [hk, e]; decide
        rw [hG.1.mrd.2.1]
        refine pl_if (fun _ => ?_) (fun _ => trivial)
        refine pl_n (X1 := kN) (Q1 := kMT f (yC w c x p) (zC w c p).2.1 (un + uN w p)) ?_ (fun _ _ _ e => e) (fun g2 r2 e2 => e2)
        cases d with
        | zero => trivial
        | succ d =>
          rw [qM_reserved, hG.pla]
          have hst : wb w p = true → ∀ x4 : Int32, BM_reserved_45 L xs (m + 1) d m (oT c) (w.2.1 p) (Int32.ofNat p) x4 g r = BM_reserved_223 L xs (m + 1) d m (oT c) (w.2.1 p) (Int32.ofNat p) x4 0 g r := by
            intro eb x4
            have hv := (wb_iff.mp eb).2.2
            have hv' : 36 ≤ (w.2.1 p).toInt ∨ (w.2.1 p).toInt = 29 := hv.imp (fun e => e.1) (fun e => by rw [e]; rfl)
            have nv : ∀ y : Int32, y.toInt < 36 → y.toInt ≠ 29 → w.2.1 p ≠ y := fun y h1 h2 e => by rw [e] at hv'; omega
            exact rs_no ⟨nv 0 (by decide) (by decide), nv 2 (by decide) (by decide), nv 3 (by decide) (by decide), nv 4 (by decide) (by decide), nv 5 (by decide) (by decide), nv 12 (by decide) (by decide), nv 13 (by decide) (by decide), nv 17 (by decide) (by decide), nv 14 (by decide) (by decide), nv 15 (by decide) (by decide), nv 30 (by decide) (by decide), nv 32 (by decide) (by decide), nv 33 (by decide) (by decide)⟩
          unfold BM_reserved_44 BM_reserved_40
          refine pl_u (by rw [← hG.pla]; exact xM_begins L xs hG.1.mrd hG.2.2.2.1) (fun eb => pl_neg (by decide) ?_) (fun eb => pl_pos (by decide) ?_)
          · have hun : uN w p = 0 := by
              unfold uN
              rw [if_neg (fun e => ?_)]
              have hv := (wb_iff.mp eb).2.2
              rw [e.2] at hv
              exact absurd hv (by decide)
            rw [hun]
            have hbad : pl (BM_reserved_45 L xs (m + 1) d m (oT c) (w.2.1 p) (Int32.ofNat p) 0 g r) (kMT f (yC w c x p) (zC w c p).2.1 (un + 0)) kN := by
              rw [hst eb]
              exact rst_bad hG
            have hgo : 8 ≤ (oT c).toInt → (oT c).toInt ≤ 11 → (oT c = 9 → oC c = true) → pl (BM_reserved_45 L xs (m + 1) d m (oT c) (w.2.1 p) (Int32.ofNat p) 1 g r) (kMT f (yC w c x p) (zC w c p).2.1 (un + 0)) kN := by
              intro t1 t2 t3
              rw [hst eb]
              unfold BM_reserved_223 BM_reserved_224 BM_reserved_247 yC zC
              rw [if_neg e1, if_neg e2, if_pos eb, if_neg e1, if_neg e2, if_pos eb]
              refine pl_neg (by decide) (pl_pos (by decide) (pl_neg (by decide) ?_))
              exact pl_n (zM_sentence hM hH (hZn (fun e => by rw [e] at t1; exact absurd t1 (by decide))) hU hX h ⟨t1, t2⟩ t3) (fun _ _ _ e => e) (fun g2 r2 e2 => e2)
            refine pl_u xM_in (fun ei => pl_neg (by decide) ?_) (fun ei => pl_pos (by decide) hbad)
            obtain ⟨t1, t2⟩ := oB_t.mp (show oB c 8 11 = true from ei)
            have hse := hm.2.2.2.1 ⟨t1, t2⟩
            refine pl_in (fun e9 => hgo t1 t2 (fun e => absurd e e9)) (fun e9 => ?_)
            refine pl_il (fun es => hbad) (fun es => ?_)
            rw [i32_0] at es
            exact hgo t1 t2 (fun _ => hse.mp (by omega))
          · have e3 : ¬ wb w p = true := by rw [eb]; decide
            have hz : (zC w c p).2.1 = (zR w c p).2.1 := by
              unfold zC
              rw [if_neg e1, if_neg e2, if_neg e3, if_pos e0]
            have hun : un + uN w p = if w.2.1 p = 0 then un + 1 else un := by
              unfold uN
              by_cases e5 : w.2.1 p = 0
              · rw [if_pos e5, if_pos ⟨e, e5⟩]
              · rw [if_neg e5, if_neg (fun e6 => e5 e6.2)]
                rfl
            rw [hz, hun]
            exact zM_res hM hH hZ hU hX rfl h e0 e1 e2 e3
      · exact pm_fa hG hG.2.2.2.1 hG.2.2.2.2 (fun g2 r2 h2 f2 => kMT.b h2)
    have h22 : pl (BM_clause_22 L xs (m + 1) d m (oT c) g r) (kMT f (yC w c x p) (zC w c p).2.1 (un + uN w p)) kN := by
      unfold BM_clause_22 BM_clause_53 BM_clause_124
      rw [hG.nat, hG.1.mrd.1]
      refine pl_if (fun _ => ?_) (fun _ => trivial)
      refine pl_in (fun e2 => ?_) (fun e2 => ?_)
      · refine pl_if (fun _ => ?_) (fun _ => trivial)
        refine pl_in (fun e1 => ?_) (fun e1 => ?_)
        · exact h85 (Or.inl ⟨e1, e2⟩)
        · rw [Decidable.not_not] at e1
          have ek : wk w p 1 = true := by rw [hk, decide_eq_true e1]
          have hun : uN w p = 0 := by
            unfold uN
            rw [if_neg (fun e => by rw [e1] at e; exact absurd e.1 (by decide))]
          refine pl_u (xM_in) (fun ei => pl_neg (by decide) ?_) (fun ei => pl_pos (by decide) ?_)
          · have ei' : oB c 8 11 = true := ei
            obtain ⟨t1, t2⟩ := oB_t.mp ei'
            unfold zC yC
            rw [if_pos ek, if_pos ek, hun]
            exact pl_n (zM_named hM hH (hZn (fun e => by rw [e] at t1; exact absurd t1 (by decide))) hU hX h hp ⟨t1, t2⟩) (fun _ _ _ e => e) (fun g2 r2 e2 => e2)
          · exact h85 (Or.inr (Or.inl ⟨e1, by rw [show oB c 8 11 = false from ei]; decide⟩))
      · rw [Decidable.not_not] at e2
        have ek : wk w p 2 = true := by rw [hk, decide_eq_true e2]
        have ek1 : ¬ wk w p 1 = true := by rw [hk, e2]; decide
        have hun : uN w p = 0 := by
          unfold uN
          rw [if_neg (fun e => by rw [e2] at e; exact absurd e.1 (by decide))]
        refine pl_u (xM_in) (fun ei => pl_neg (by decide) ?_) (fun ei => pl_pos (by decide) ?_)
        · have ei' : oB c 5 7 = true := ei
          obtain ⟨t1, t2⟩ := oB_t.mp ei'
          refine pl_n (zM_item hM hw hH (hZn (fun e => by rw [e] at t1; exact absurd t1 (by decide))) hU hX ⟨t1, t2⟩ h hp) (fun _ _ _ e => e) (fun g2 r2 q2 => ?_)
          obtain ⟨-, q3 | ⟨i, q1, q2⟩⟩ := q2
          · exact ⟨rfl, Or.inl q3⟩
          · unfold zC yC zIt
            rw [if_neg ek1, if_pos ek, if_neg ek1, if_pos ek, q1, hun]
            unfold pI at q2
            obtain ⟨-, q2 | ⟨q4, x4, q5, q6⟩⟩ := q2
            · exact ⟨rfl, Or.inl q2⟩
            · cases ht : tv w 24 (itn w (p + 1)).2 none [] with
              | none =>
                rw [ht] at q5
                cases q5
              | some y =>
                rw [ht] at q5
                exact ⟨rfl, Or.inr ⟨q4, x4, q5, q6⟩⟩
        · refine pl_if (fun _ => ?_) (fun _ => trivial)
          refine pl_pos (by rw [c2_ne, hG.nat, hG.1.mrd.1, e2]; decide) ?_
          exact h85 (Or.inr (Or.inr ⟨e2, by rw [show oB c 5 7 = false from ei]; decide⟩))
    rw [qM_clause]
    refine pl_in (fun eo => ?_) (fun eo => ?_)
    · have hn : 0 < oN c := by
        have h1 := hm.1
        have n0 : (g fM_open).toInt ≠ 0 := fun e => eo (i32e (e.trans rfl))
        omega
      have en : (g fM_open - 1).toNatClampNeg = oN c - 1 := by
        have h1 := hm.1
        rw [nc_eq, i32_dec (by omega), h1]
        omega
      refine pl_if (fun _ => ?_) (fun _ => trivial)
      rw [en, (hm.top hn).1, ← oT_pos hn]
      exact h22
    · rw [Decidable.not_not] at eo
      have h0 : oN c = 0 := by
        have h1 := hm.1
        rw [eo] at h1
        have : (0 : Int) = oN c := h1
        omega
      have e := h22
      rw [oT_0 h0] at e
      exact e
end
