/-! The model's clauses with their trees: SELECT, units, sections, paragraphs, sentences. -/
section
variable {L : Nat} {xs : Nat → Int32} {m d k : Nat} {w : Ws} {f : Gh} {p q : Nat} {c : CU} {x : Xs} {un : Nat} {g : a2_G} {r : a2_A} {kv : Int32 → a2_G → a2_A → Option fn_Z} {kn : a2_G → a2_A → Option fn_Z} {Q : Option Value → a2_G → a2_A → Prop} {X : Nat → a2_G → a2_A → Prop} {n : Nat} {D : Nat → TD} {K : Nat → List Nat} {N : Nat → Int32} {ids : List Nat} {ch : List Ce} {dd : TD} {F : Tf}
/-- SELECT -/
theorem zse_233 (hM : Mc c f.2.1 f.2.2) (hH : HM (oN c) (oT c).toInt (oI c) x.2 ids f.2.1 f.2.2) (hZ : Zc K D n ids (rz x.1)) (hU : (f.2.1 fM_units).toInt = (un : Int)) (hX : UMz c ids n D K un f.2.2) (hn1 : 1 ≤ n) (hs : (oT c).toInt = 2) (hdd : dd.1 = 4) (hF0 : cQ F = 0) (x1 x3 x4 : Int32) (h : Wn NP w f n D K N q n (nd dd F) g r) : pl (BM_select_233 L xs (m + 1) d k x1 (Int32.ofNat n) x3 x4 g r) (kMT f (some (q + 1, attC (oN c + 1) x.1 (dd, F), x.2)) c un) kN := by
  have hx := rz_ne hZ hH.1
  have hn := oT_n (by omega : 0 ≤ (oT c).toInt)
  unfold BM_select_233 BM_select_255
  refine ml_mk Wn.lf h (fun e g3 h3 => pl_neg (by decide) ?_) (fun e g3 r3 h3 => pl_pos (by decide) (kMT.b h3))
  have hm3 := hM.gd h3.gd
  have hh3 := hH.gd h3.gd
  refine ml_he hm3.1 hn (pl_if (fun _ => ?_) (fun _ => trivial))
  have ha := hh3.2.2.1 (by omega) (by omega)
  rw [dvM_e hs] at ha
  refine ml_at hZ ha hn1 h3 (fun n' D' K' r4 h4 hZ4 hr4 hat => ?_)
  have hG4 := h4.1
  have hh4 := hH.gd hG4
  rw [← rz_att hx] at hZ4
  refine kMT.mk h4.2 (fun e => by rw [e] at hs; exact absurd hs (by decide)) hZ4 ?_ (h4.uns hU) hG4.2.2.2.1 (hX.att hZ hH.1 hat (by rw [cQ_nd, hF0, hdd]; rfl) (by rw [hdd]; decide) hG4.rows rfl ⟨id, id, id⟩ (by omega) (by omega))
  have hdv := hh4.2.2.1 (by omega) (by omega)
  refine ⟨hh4.1.att (by omega) ha.lt, hh4.2.1.att (by omega) ha.lt, fun _ _ => hdv.att (Nat.le_refl _) ha.lt, fun e => absurd e (by omega), fun e => absurd e (by omega), fun e => absurd e (by omega), fun e => absurd e (by omega)⟩
theorem zse_190 (hM : Mc c f.2.1 f.2.2) (hH : HM (oN c) (oT c).toInt (oI c) x.2 ids f.2.1 f.2.2) (hZ : Zc K D n ids (rz x.1)) (hU : (f.2.1 fM_units).toInt = (un : Int)) (hX : UMz c ids n D K un f.2.2) (hn1 : 1 ≤ n) (hs : (oT c).toInt = 2) (hdd : dd.1 = 4) (hF0 : cQ F = 0) (x1 x3 x4 : Int32) (h : Wn NP w f n D K N q n (nd dd F) g r) : pl (BM_select_190 L xs (m + 1) d k x1 (Int32.ofNat n) x3 x4 g r) (kMT f (some ((sl2 w q F).1 + 1, attC (oN c + 1) x.1 (dd, (sl2 w q F).2), x.2)) c un) kN := by
  have hG := h.gd
  unfold BM_select_190 sl2
  rw [hG.pla]
  refine ml_ms Wn.lf h (fun e g2 h2 => pl_neg (by decide) ?_) (fun e => pl_pos (by decide) ?_)
  · rw [if_pos e]
    refine ml_mb Wn.lf h2 (fun v g3 h3 => ?_)
    generalize sk (ww w (q + 1) 67) (q + 1) = q3 at h3
    refine ml_mk Wn.lf h3 (fun e4 g4 h4 => pl_neg (by decide) ?_) (fun e4 g4 r4 h4 => pl_pos (by decide) ?_)
    · refine ml_pa h4.gd ?_
      exact ml_ch (-1) (fun q => absurd q.1 (by decide)) hn1 h4 (fun g5 r5 h5 => zse_233 hM hH hZ hU hX hn1 hs hdd (by rw [cQ_app, hF0, cQ_l1]; rfl) _ _ _ h5)
    · unfold BM_select_233 BM_select_255
      exact pb_mk h4 (fun g5 r5 h5 f5 => pl_pos (by decide) (kMT.b h5))
  · rw [if_neg (by rw [e]; exact Bool.false_ne_true)]
    exact zse_233 hM hH hZ hU hX hn1 hs hdd hF0 _ _ _ h
theorem zse_190b {z : Option (Nat × Xs)} (x1 x2 x3 x4 : Int32) {b : Nat} (h : Bd w f b g r) : pl (BM_select_190 L xs (m + 1) d k x1 x2 x3 x4 g r) (kMT f z c un) kN := by
  unfold BM_select_190 BM_select_233 BM_select_255
  refine pl_e (xB_meets 11 h) (pl_pos (by decide) ?_)
  exact pb_mk h (fun g5 r5 h5 f5 => pl_pos (by decide) (kMT.b h5))
theorem zse_72 (hM : Mc c f.2.1 f.2.2) (hH : HM (oN c) (oT c).toInt (oI c) x.2 ids f.2.1 f.2.2) (hZ : Zc K D n ids (rz x.1)) (hU : (f.2.1 fM_units).toInt = (un : Int)) (hX : UMz c ids n D K un f.2.2) (hn1 : 1 ≤ n) (hs : (oT c).toInt = 2) (hdd : dd.1 = 4) (x1 x3 : Int32) (h : Wn NP w f n D K N q n (nd dd []) g r) : pl (BM_select_72 L xs (m + 1) d k x1 (Int32.ofNat n) x3 g r) (kMT f (some ((sl1 w (q + 1) (l1 (od w q))).1 + 1, attC (oN c + 1) x.1 (dd, (sl1 w (q + 1) (l1 (od w q))).2), x.2)) c un) kN := by
  unfold BM_select_72 sl1
  refine ml_oi hn1 h (fun e g2 r2 h2 => ?_) (fun e g2 r2 h2 => pl_e (xB_meets 7 h2) (pl_pos (by decide) (zse_190b _ _ _ _ h2)))
  have hG2 := h2.gd
  rw [hG2.pla]
  refine ml_ms Wn.lf h2 (fun e g3 h3 => pl_neg (by decide) ?_) (fun e => pl_pos (by decide) ?_)
  · rw [if_pos e]
    refine ml_mb Wn.lf h3 (fun v g4 h4 => ?_)
    generalize sk (ww w (q + 1 + 1) 67) (q + 1 + 1) = q4 at h4
    have hG4 := h4.gd
    have h0 : pl (BM_select_134 L xs (m + 1) d k x1 (Int32.ofNat n) v (Int32.ofNat (q + 1)) g4 r2) (kMT f (some ((sl2 w (q4 + 1) (l1 (od w q) ++ l1 (5, w.2.1 q4 - 8, Int32.ofNat (q + 1), -1))).1 + 1, attC (oN c + 1) x.1 (dd, (sl2 w (q4 + 1) (l1 (od w q) ++ l1 (5, w.2.1 q4 - 8, Int32.ofNat (q + 1), -1))).2), x.2)) c un) kN := by
      unfold BM_select_134 BM_select_135 BM_select_162
      refine pl_pos (by decide) (pl_pos (by decide) ?_)
      exact pm_fa hG4 hG4.2.2.2.1 hG4.2.2.2.2 (fun g5 r5 h5 f5 => zse_190b (k := k) x1 (Int32.ofNat n) v (Int32.ofNat (q + 1)) h5)
    refine pl_u (xM_isKind L xs 0 hG4.1.mrd hG4.2.2.2.1) (fun e => pl_neg (by decide) ?_) (fun e => pl_pos (by decide) h0)
    refine pl_if (fun _ => ?_) (fun _ => trivial)
    refine pl_u xM_in (fun e2 => pl_neg (by decide) ?_) (fun e2 => pl_pos (by decide) h0)
    unfold BM_select_135 BM_select_162
    refine pl_neg (by decide) (pl_if (fun _ => ?_) (fun _ => trivial))
    rw [hG4.nat, hG4.1.mrd.2.1]
    refine ml_ch (-1) (fun q => absurd q.1 (by decide)) hn1 h4 (fun g5 r5 h5 => pl_neg (by decide) ?_)
    exact zse_190 (k := k) hM hH hZ hU hX hn1 hs hdd (by rw [cQ_app, cQ_l1, cQ_l1, kd_od]; rfl) x1 v (Int32.ofNat (q + 1)) (Wn.lf.2 _ _ _ h5 (wk_iff.mp e).1)
  · rw [if_neg (by rw [e]; exact Bool.false_ne_true)]
    exact zse_190 hM hH hZ hU hX hn1 hs hdd (by rw [cQ_l1, kd_od]) _ _ _ h2
theorem zM_select (hM : Mc c f.2.1 f.2.2) (hH : HM (oN c) (oT c).toInt (oI c) x.2 ids f.2.1 f.2.2) (hZ : Zc K D n ids (rz x.1)) (hU : (f.2.1 fM_units).toInt = (un : Int)) (hX : UMz c ids n D K un f.2.2) (hs : (oT c).toInt = 2) (h : Am w f (p + 1) n D K g r) : pl (ev L xs (m + 1) d nM_select [.ref cM, .int (Int32.ofNat p)] g r) (kMT f (some ((slc w p).1 + 1, attC (oN c + 1) x.1 ((4, w.2.1 (p + 1), Int32.ofNat p, -1), (slc w p).2), x.2)) c un) kN := by
  cases d with
  | zero => trivial
  | succ d =>
    have hn1 := h.2.2.1
    rw [qM_select]
    refine ml_mk Am.lf h (fun e g1 h1 => pl_pos (by decide) ?_) (fun e g1 r1 h1 => pl_neg (by decide) (kMT.b h1))
    refine ml_pa h1.1 ?_
    refine ml_nm (-1) (fun q => absurd q.1 (by decide)) h1 (fun g2 r2 h2 => ?_)
    refine ml_mu Wn.lf h2 (fun e3 g3 h3 => pl_pos (by decide) ?_) (fun e3 g3 r3 h3 => pl_neg (by decide) (kMT.b h3))
    refine ml_mb Wn.lf h3 (fun v4 g4 h4 => ?_)
    have hG4 := h4.gd
    refine pl_u (xM_isKind L xs 1 hG4.1.mrd hG4.2.2.2.1) (fun e => pl_pos (by decide) (zse_72 hM hH hZ hU hX hn1 hs rfl _ _ h4)) (fun e => pl_neg (by decide) ?_)
    refine pl_u (xM_isKind L xs 3 hG4.1.mrd hG4.2.2.2.1) (fun e2 => pl_pos (by decide) (zse_72 hM hH hZ hU hX hn1 hs rfl _ _ h4)) (fun e2 => pl_neg (by decide) ?_)
    exact pm_fa hG4 hG4.2.2.2.1 hG4.2.2.2.2 (fun g5 r5 h5 f5 => kMT.b h5)
/-- a state that says nothing of where nodes are kept -/
theorem HM.no {u u' : Nat} {st st' : Int} {io io' : Nat} {y y' : Nat × Nat × Nat} {g' : a2_G} {r' : a2_A} (hh : HM u st io y ids g r) (hu : u' ≤ u) (hs : st' < 2 ∨ 11 < st') (e1 : g' fM_units = g fM_units := by rfl) (e2 : r' fM_its = r fM_its := by rfl) (e3 : r' fM_unitNode = r fM_unitNode := by rfl) : HM u' st' io' y' ids g' r' := ⟨hh.1, hh.2.1.sm hu e1 e2 e3, fun _ _ => by omega, fun _ _ => by omega, fun _ _ => by omega, fun _ => by omega, fun _ _ => by omega⟩
theorem oT_sX0 (h12 : ∀ i, i + 1 < oN c → oS c i = 12) : oT (sX c) ≠ 0 := by
  unfold oT
  by_cases e : oN (sX c) = 0
  · rw [if_pos e]
    decide
  · rw [if_neg e]
    have e1 : oN (sX c) = oN c - 1 := rfl
    have := h12 (oN (sX c) - 1) (by omega)
    rw [show oS (sX c) (oN (sX c) - 1) = 12 from this]
    decide
theorem oT_sXv (h12 : ∀ i, i + 1 < oN c → oS c i = 12) : (oT (sX c)).toInt < 0 ∨ 7 < (oT (sX c)).toInt := by
  unfold oT
  by_cases e : oN (sX c) = 0
  · rw [if_pos e]
    exact Or.inl (by decide)
  · rw [if_neg e]
    have e1 : oN (sX c) = oN c - 1 := rfl
    have := h12 (oN (sX c) - 1) (by omega)
    rw [show oS (sX c) (oN (sX c) - 1) = 12 from this]
    exact Or.inr (by decide)
/-- END -/
theorem zen_a (hM : Mc c f.2.1 f.2.2) (hH : HM (oN c) (oT c).toInt (oI c) x.2 ids f.2.1 f.2.2) (hZ : Zc K D n ids (rz x.1)) (hU : (f.2.1 fM_units).toInt = (un : Int)) (hX : UMz c ids n D K un f.2.2) (hn : 0 < oN c) (x1 : Int32) (h : Am w f q n D K g r) (hq : q < w.2.2) : pl (BM_ended_78 L xs (m + 1) d k x1 1 g r) (kMT f (some (q + 3, x)) (sX c) un) kN := by
  unfold BM_ended_78 BM_ended_169
  refine pl_pos (by decide) ?_
  refine ml_mk Am.lf (h.up hq) (fun e g1 h1 => pl_pos (by decide) ?_) (fun e g1 r1 h1 => pl_neg (by decide) (kMT.b h1))
  refine ml_mk Am.lf h1 (fun e3 g3 h3 => pl_pos (by decide) ?_) (fun e3 g3 r3 h3 => pl_neg (by decide) (kMT.b h3))
  have hG3 := h3.1
  have hm3 := hM.gd hG3
  have hh3 := hH.gd hG3
  have h12 := oT_sX (c := c) hm3.2.2.2.2.2
  refine pl_if (fun _ => pl_if (fun _ => ?_) (fun _ => trivial)) (fun _ => trivial)
  refine pl_iq (fun e5 => ?_) (fun e5 => ?_)
  · refine kMT.mk h3.2.cg (oT_sX0 hm3.2.2.2.2.2) hZ ?_ (h3.uns hU) hG3.2.2.2.1 (hX.1.no hG3.rows (oT_sXv hm3.2.2.2.2.2))
    exact hh3.no (by show oN c - 1 ≤ oN c; omega) h12
  · refine pl_n (xM_note 2 _ hG3.1 hG3.2.1) (fun _ _ _ e => e) (fun g4 r4 e4 => ?_)
    obtain ⟨-, rfl, -, -⟩ := e4
    exact ⟨rfl, Or.inl rfl⟩
theorem zen_b (hM : Mc c f.2.1 f.2.2) (hH : HM (oN c) (oT c).toInt (oI c) x.2 ids f.2.1 f.2.2) (hZ : Zc K D n ids (rz x.1)) (hU : (f.2.1 fM_units).toInt = (un : Int)) (hX : UMz c ids n D K un f.2.2) (hs : oT c = 9) (x1 : Int32) (h : Am w f q n D K g r) (hq : q < w.2.2) : pl (BM_ended_78 L xs (m + 1) d k x1 0 g r) (kMT f (some (q + 2, x.1, x.2.1, 0, 0)) (sS (sC c false) 10) un) kN := by
  have hn : 0 < oN c := oT_n (by rw [hs]; decide)
  unfold BM_ended_78
  refine pl_neg (by decide) ?_
  refine ml_mk Am.lf (h.up hq) (fun e g1 h1 => pl_pos (by decide) ?_) (fun e g1 r1 h1 => pl_neg (by decide) (kMT.b h1))
  have hG1 := h1.1
  have hm1 := hM.gd hG1
  have hh1 := hH.gd hG1
  have hdv := hh1.2.2.1 (by rw [hs]; decide) (by rw [hs]; decide)
  rw [dvM_p (by rw [hs]; decide)] at hdv
  have eT : oT (sS (sC c false) 10) = 10 := oT_ss (c := sC c false) (by show oN c ≠ 0; omega)
  have eN : oN (sS (sC c false) 10) = oN c := oN_ss (c := sC c false)
  refine pm_to (N := oN c) hm1.1 hn ?_
  refine kMT.mk h1.2.cg (by rw [eT]; decide) hZ ?_ (h1.uns hU) hG1.2.2.2.1 (hX.1.no hG1.rows (Or.inr (by rw [eT]; decide)))
  rw [eT, eN]
  refine ⟨hh1.1, hh1.2.1.sm (Nat.le_refl _), fun _ _ => ?_, fun _ e => absurd e (by decide), fun _ e => absurd e (by decide), fun e => absurd e (by decide), fun _ _ => ⟨Or.inl ⟨rfl, rfl⟩, Or.inl ⟨rfl, rfl⟩, fun e => absurd rfl e, fun e => absurd rfl e, fun _ => ⟨rfl, rfl⟩⟩⟩
  rw [dvM_p (by decide)]
  exact hdv
theorem zM_ended (hM : Mc c f.2.1 f.2.2) (hH : HM (oN c) (oT c).toInt (oI c) x.2 ids f.2.1 f.2.2) (hZ : Zc K D n ids (rz x.1)) (hU : (f.2.1 fM_units).toInt = (un : Int)) (hX : UMz c ids n D K un f.2.2) (h : Am w f (p + 1) n D K g r) (hT : 1 ≤ (oT c).toInt) : pl (ev L xs (m + 1) d nM_ended [.ref cM, .int (oT c)] g r) (kMT f (if ww w (p + 1) 32 then some (p + 3, x.1, x.2.1, 0, 0) else some (p + 4, x)) (zE w c p).2.1 un) kN := by
  have hn := oT_n (by omega : 0 ≤ (oT c).toInt)
  cases d with
  | zero => trivial
  | succ d =>
    have hG := h.1
    rw [qM_ended]
    have h67 : ∀ (x1 x2 : Int32) z c', pl (BM_ended_67 L xs (m + 1) d m x1 x2 g r) (kMT f z c' un) kN := by
      intro x1 x2 z c'
      unfold BM_ended_67
      exact pm_fa hG hG.2.2.2.1 hG.2.2.2.2 (fun g2 r2 h2 f2 => kMT.b h2)
    unfold BM_ended_42
    refine pl_iq (fun e9 => ?_) (fun e9 => ?_)
    · unfold BM_ended_43
      refine pl_neg (by decide) (pl_neg (by rw [c2_ne, e9]; decide) ?_)
      refine pl_u (xM_isWord L xs 32 hG.1.mrd hG.2.2.2.1) (fun e => pl_pos (by decide) ?_) (fun e => pl_neg (by decide) (h67 _ _ _ _))
      unfold zE
      rw [if_pos e, if_pos e]
      exact zen_b hM hH hZ hU hX e9 _ h (ww_iff.mp e).1
    · have h32 : ∀ x2 : Int32, (x2 = 34 ∨ x2 = 35) → pl (BM_ended_32 L xs (m + 1) d m (oT c) x2 (g fM_at) g r) (kMT f (if ww w (p + 1) 32 then some (p + 3, x.1, x.2.1, 0, 0) else some (p + 4, x)) (zE w c p).2.1 un) kN := by
        intro x2 h3
        unfold BM_ended_32 BM_ended_42 BM_ended_43
        refine pl_u (xM_isWord L xs x2 hG.1.mrd hG.2.2.2.1) (fun e => pl_neg (by decide) (pl_pos (by decide) ?_)) (fun e => pl_pos (by decide) (pl_neg (by decide) (pl_pos (by rw [c2_ne]; exact e9) (h67 _ _ _ _))))
        have n32 : ¬ ww w (p + 1) 32 = true := by
          rw [ww_x e (by rcases h3 with rfl | rfl <;> decide)]
          exact Bool.false_ne_true
        have y35 : (ww w (p + 1) 34 || ww w (p + 1) 35) = true := by
          rw [Bool.or_eq_true]
          rcases h3 with rfl | rfl
          · exact Or.inl e
          · exact Or.inr e
        unfold zE
        rw [if_neg n32, if_neg n32, if_pos y35]
        exact zen_a hM hH hZ hU hX hn _ h (ww_iff.mp e).1
      refine pl_if (fun _ => ?_) (fun _ => trivial)
      exact pl_iq (fun e => h32 _ (Or.inl rfl)) (fun e => h32 _ (Or.inr rfl))
/-- where sections and paragraphs stand -/
theorem Pz.z {i : Nat} {a : Int32} (hZ : Zc K D n ids ch) (hn : n ≤ 8000) (h : Pz ids i a) : (i = 0 ↔ a.toInt ≤ 0) ∧ (i ≠ 0 → Pt ids i a) := by
  rcases h with ⟨h1, h2⟩ | ⟨h1, h2⟩
  · exact ⟨⟨fun _ => by rw [h2]; decide, fun _ => h1⟩, fun e => absurd h1 e⟩
  · have hpos : ¬ a.toInt ≤ 0 := by
      obtain ⟨t, h3, rfl⟩ := h2
      cases ids with
      | nil => simp at h3
      | cons v l =>
        cases ch with
        | nil => exact (hZ : False).elim
        | cons e0 c0 =>
          cases i with
          | zero => exact absurd rfl h1
          | succ i =>
            have h4 := Zc.ge hZ.2.2.2 (i := i) (t := t) (by simpa using h3)
            have h5 := hZ.2.1
            rw [on_eq (by omega)]
            omega
    exact ⟨⟨fun e => absurd e h1, fun e => absurd e hpos⟩, fun _ => h2⟩
theorem HM.bd {u : Nat} {st st' : Int} {io io' : Nat} {y : Nat × Nat × Nat} {g' : a2_G} {r' : a2_A} {i0 sd pd : Nat} (hh : HM u st io y ids g r) (hs : 8 ≤ st ∧ st ≤ 11) (hs' : st = 9 ∧ st' = 9 ∨ st ≠ 9 ∧ st' = 11) (hi : i0 < ids.length) (hu : u + 1 ≤ i0) (h9 : st = 9 → u + 2 ≤ i0) (hsd : Pz (attI i0 ids n) sd (g' fM_section)) (hpd : Pz (attI i0 ids n) pd (g' fM_paragraph)) (o1 : sd ≠ 0 → u + 2 ≤ sd ∧ (st = 9 → u + 3 ≤ sd)) (o2 : pd ≠ 0 → u + 2 ≤ pd ∧ sd < pd ∧ (st = 9 → u + 3 ≤ pd)) (e1 : g' fM_units = g fM_units := by rfl) (e2 : r' fM_its = r fM_its := by rfl) (e3 : r' fM_unitNode = r fM_unitNode := by rfl) (hd : r' fM_procedure = r fM_procedure := by rfl) (he : g' fM_declaratives = g fM_declaratives := by rfl) : HM u st' io' (y.1, sd, pd) (attI i0 ids n) g' r' := by
  refine ⟨hh.1.att (by omega) hi, hh.2.1.att (by omega) hi e1 e2 e3, fun _ _ => ?_, fun _ _ => by omega, fun _ _ => by omega, fun e => ?_, fun _ _ => ⟨hsd, hpd, fun e => ⟨(o1 e).1, fun e2 => (o1 e).2 (by omega)⟩, fun e => ⟨(o2 e).1, (o2 e).2.1, fun e2 => (o2 e).2.2 (by omega)⟩, fun e => by omega⟩⟩
  · have := hh.2.2.1 (by omega) (by omega)
    rw [dvM_p (by omega)] at this
    rw [dvM_p (by omega), hd, e2]
    exact this.att hu hi
  · rw [he]
    exact (hh.2.2.2.2.2.1 (by omega)).att (h9 (by omega)) hi
theorem eB_c (b : Bool) : oT (sC c b) = oT c := rfl
/-- behind a section or paragraph -/
theorem zna_201 (hM : Mc c f.2.1 f.2.2) (hU : (f.2.1 fM_units).toInt = (un : Int)) {DB : Nat → TD} {KB : Nat → List Nat} (hH : HM (oN c) (oT c).toInt (oI c) x.2 ids f.2.1 f.2.2) (hx : x.1 ≠ []) {n0 i0 sd pd : Nat} {cb : Bool} (hX : UMz c ids n0 DB KB un f.2.2) (hZB : Zc KB DB n0 ids (rz x.1)) (hat : Atd n0 DB KB i0 ids dd F n D K) (hq0 : cQ (nd dd F) = 0) (hd3 : dd.1 ≠ 3 ∧ dd.1 ≠ 7 ∧ dd.1 ≠ 20) (hs : 8 ≤ (oT c).toInt ∧ (oT c).toInt ≤ 11) (h : Am w f q n D K g r) (hZ : Zc K D n (attI i0 ids n0) (attC i0 (rz x.1) (dd, F))) (hi : i0 < ids.length) (hu : oN c + 1 ≤ i0) (h9 : (oT c).toInt = 9 → oN c + 2 ≤ i0) (se pa : Int32) (x2 x3 x4 : Int32) (hsd : Pz (attI i0 ids n0) sd se) (hpd : Pz (attI i0 ids n0) pd pa) (o1 : sd ≠ 0 → oN c + 2 ≤ sd ∧ ((oT c).toInt = 9 → oN c + 3 ≤ sd)) (o2 : pd ≠ 0 → oN c + 2 ≤ pd ∧ sd < pd ∧ ((oT c).toInt = 9 → oN c + 3 ≤ pd)) : pl (BM_named_201 L xs (m + 1) d k (oT c) x2 x3 x4 pa (upd g fM_section se) r) (kMT f (some (q, attC i0 x.1 (dd, F), x.2.1, sd, pd)) (eB (sC c cb)) un) kN := by
  have hn := oT_n (by omega : 0 ≤ (oT c).toInt)
  have hG := h.1
  have hm := hM.gd hG
  have hh := hH.gd hG
  rw [← rz_att hx] at hZ
  have hne : oN (sC c cb) ≠ 0 := by show oN c ≠ 0; omega
  have hsw := (eB_T (c := sC c cb) hne).imp (fun (e : oT c = 9 ∧ (oT (eB (sC c cb))).toInt = 9) => (⟨t9.mpr e.1, e.2⟩ : (oT c).toInt = 9 ∧ (oT (eB (sC c cb))).toInt = 9)) (fun (e : oT c ≠ 9 ∧ (oT (eB (sC c cb))).toInt = 11) => (⟨fun e2 => e.1 (t9.mp e2), e.2⟩ : (oT c).toInt ≠ 9 ∧ (oT (eB (sC c cb))).toInt = 11))
  have hT0 : oT (eB (sC c cb)) ≠ 0 := fun e => by
    rw [e] at hsw
    rcases hsw with e2 | e2
    · exact absurd e2.2 (by decide)
    · exact absurd e2.2 (by decide)
  have h7 : 7 < (oT (eB (sC c cb))).toInt := by
    rcases hsw with e | e
    · rw [e.2]; decide
    · rw [e.2]; decide
  unfold BM_named_201 BM_named_216
  refine pl_iq (fun e9 => ?_) (fun e9 => ?_)
  · refine kMT.mk h.2.cg hT0 hZ ?_ (h.uns hU) hG.2.2.2.1 (hX.atp hZB hH.1 hat hq0 hd3 hG.rows (by omega) (by omega) h7)
    rw [eB_N]
    exact hh.bd (y := x.2) hs hsw hi hu h9 hsd hpd o1 o2
  · refine pm_to (N := oN c) hm.1 hn ?_
    refine kMT.mk h.2.cg hT0 hZ ?_ (h.uns hU) hG.2.2.2.1 (hX.atp hZB hH.1 hat hq0 hd3 hG.rows (by omega) (by omega) h7)
    rw [eB_N]
    exact hh.bd (y := x.2) hs hsw hi hu h9 hsd hpd o1 o2
theorem zM_named (hM : Mc c f.2.1 f.2.2) (hH : HM (oN c) (oT c).toInt (oI c) x.2 ids f.2.1 f.2.2) (hZ : Zc K D n ids (rz x.1)) (hU : (f.2.1 fM_units).toInt = (un : Int)) (hX : UMz c ids n D K un f.2.2) (h : Am w f p n D K g r) (hp : p < w.2.2) (hs : 8 ≤ (oT c).toInt ∧ (oT c).toInt ≤ 11) : pl (ev L xs (m + 1) d nM_named [.ref cM, .int (oT c)] g r) (kMT f (if ww w (p + 1) 16 then some (p + 3, attC (if oT c = 9 then oN c + 2 else oN c + 1) x.1 ((23, w.2.1 p, Int32.ofNat p, -1), []), x.2.1, (if oT c = 9 then oN c + 2 else oN c + 1) + 1, 0)
    else some (p + 2, attC (if x.2.2.1 = 0 then oN c + 1 else x.2.2.1) x.1 ((24, w.2.1 p, Int32.ofNat p, -1), []), x.2.1, x.2.2.1, (if x.2.2.1 = 0 then oN c + 1 else x.2.2.1) + 1)) (eB (if ww w (p + 1) 16 then sC c true else c)) un) kN := by
  cases d with
  | zero => trivial
  | succ d =>
    have hx := rz_ne hZ hH.1
    have hn := oT_n (by omega : 0 ≤ (oT c).toInt)
    have hn1 := h.2.2.1
    have hG := h.1
    have hle := hG.le
    have h2a : (g fM_at + 2).toInt = ((p + 2 : Nat) : Int) := by
      have := hG.2.2.2.1
      rw [ad_eq (by rw [i32_2]; omega) (by rw [i32_2]; omega), i32_2, hG.2.2.2.1]
      rfl
    have hA2 : p + 1 < w.2.2 → Am w f (p + 2) n D K (upd g fM_at (g fM_at + 2)) r := fun hq => ⟨⟨hG.1.up (by decide) (by decide), hG.2.1, hG.2.2.1, h2a, by omega⟩, h.2⟩
    have ep : (Int32.ofNat p).toNatClampNeg = p := tn_at (on_eq (by omega))
    rw [qM_named, hG.pla]
    refine pl_u (by rw [← hG.pla]; exact xM_isWord L xs 16 hG.1.mrd hG.add) (fun e => pl_pos (by decide) ?_) (fun e => pl_neg (by decide) ?_)
    · rw [e, if_pos rfl, if_pos rfl]
      unfold BM_named_62
      refine pl_neg (by decide) ?_
      refine ml_mk Am.lf (hA2 (ww_iff.mp e).1) (fun e2 g2 h2 => pl_pos (by decide) ?_) (fun e2 g2 r2 h2 => pl_neg (by decide) (kMT.b h2))
      unfold BM_named_85 BM_named_97 BM_named_136
      refine pl_neg (by decide) (pl_if (fun _ => ?_) (fun _ => trivial))
      rw [ep, h2.1.1.mrd.2.1]
      refine ml_nm (-1) (fun q => absurd q.1 (by decide)) h2 (fun g3 r3 h3 => pl_neg (by decide) ?_)
      have hG3 := h3.gd
      have hm3 := hM.gd hG3
      have hh3 := hH.gd hG3
      have fin : ∀ {i0 : Nat} {a : Int32}, Pt ids i0 a → oN c + 1 ≤ i0 → ((oT c).toInt = 9 → oN c + 2 ≤ i0) → pl (fn_n (ev L xs (m + 1) d nM_attach [.ref cM, .int a, .int (Int32.ofNat n)] g3 r3) fun g17 r18 => (BM_named_173 L xs (m + 1) d m (oT c) (Int32.ofNat p) 1 (Int32.ofNat n) g17 r18)) (kMT f (some (p + 3, attC i0 x.1 ((23, w.2.1 p, Int32.ofNat p, -1), []), x.2.1, i0 + 1, 0)) (eB (sC c true)) un) kN := by
        intro i0 a ha hu h9
        refine ml_at hZ ha hn1 h3 (fun n' D' K' r4 h4 hZ4 hr4 hat => ?_)
        unfold BM_named_173 BM_named_187
        refine pl_neg (by decide) (pl_neg (by decide) ?_)
        exact zna_201 hM hU hH hx hX hZ hat rfl ⟨show (23 : Int32) ≠ 3 by decide, show (23 : Int32) ≠ 7 by decide, show (23 : Int32) ≠ 20 by decide⟩ hs h4 hZ4 ha.lt hu h9 _ 0 _ _ _ (Or.inr ⟨by omega, Pt.new ha.lt⟩) (Or.inl ⟨rfl, rfl⟩) (fun _ => ⟨by omega, fun e => by have := h9 e; omega⟩) (fun e => absurd rfl e)
      refine pl_in (fun e9 => ?_) (fun e9 => ?_)
      · rw [if_neg e9]
        refine ml_he hm3.1 hn (pl_if (fun _ => ?_) (fun _ => trivial))
        have ha := hh3.2.2.1 (by omega) (by omega)
        rw [dvM_p hs.1] at ha
        exact fin ha (Nat.le_refl _) (fun e => absurd (t9.mp e) e9)
      · rw [Decidable.not_not] at e9
        rw [if_pos e9]
        exact fin (hh3.2.2.2.2.2.1 (t9.mpr e9)) (by omega) (fun _ => Nat.le_refl _)
    · rw [e, if_neg Bool.false_ne_true, if_neg Bool.false_ne_true]
      have h49 : ∀ z c', pl (BM_named_49 L xs (m + 1) d m (oT c) (Int32.ofNat p) 0 g r) (kMT f z c' un) kN := by
        intro z c'
        unfold BM_named_49
        exact pm_fa hG hG.add (by omega) (fun g2 r2 h2 f2 => kMT.b h2)
      have hsg : ∀ {q g' r'}, Gd w f q g' r' → g' fM_section = g fM_section := fun h' => (h'.1.2.2.1.1 fM_section (by decide)).trans (hG.1.2.2.1.1 fM_section (by decide)).symm
      have h62 : wk w (p + 1) 4 = true → (oT c = 9 → 0 < (g fM_section).toInt) → pl (BM_named_62 L xs (m + 1) d m (oT c) (Int32.ofNat p) 0 g r) (kMT f (some (p + 2, attC (if x.2.2.1 = 0 then oN c + 1 else x.2.2.1) x.1 ((24, w.2.1 p, Int32.ofNat p, -1), []), x.2.1, x.2.2.1, (if x.2.2.1 = 0 then oN c + 1 else x.2.2.1) + 1)) (eB c) un) kN := by
        intro e4 e5
        have h2 := hA2 (wk_iff.mp e4).1
        unfold BM_named_62 BM_named_85 BM_named_97 BM_named_168
        refine pl_pos (by decide) (pl_pos (by decide) (pl_if (fun _ => ?_) (fun _ => trivial)))
        rw [ep, hG.1.mrd.2.1]
        refine ml_nm (-1) (fun q => absurd q.1 (by decide)) h2 (fun g3 r3 h3 => pl_pos (by decide) ?_)
        have hG3 := h3.gd
        have hm3 := hM.gd hG3
        have hh3 := hH.gd hG3
        obtain ⟨p1, p2, p3, p4, p5⟩ := hh3.2.2.2.2.2.2 hs.1 hs.2
        obtain ⟨z1, z2⟩ := p1.z hZ h.2.2.2.1
        have h9 : (oT c).toInt = 9 → x.2.2.1 ≠ 0 := fun e0 e1 => by
          have := e5 (t9.mp e0)
          have h8 := z1.mp e1
          rw [hsg hG3] at h8
          omega
        have fin : ∀ {i0 : Nat} {a : Int32}, Pt ids i0 a → oN c + 1 ≤ i0 → ((oT c).toInt = 9 → oN c + 2 ≤ i0) → x.2.2.1 ≤ i0 → pl (fn_n (ev L xs (m + 1) d nM_attach [.ref cM, .int a, .int (Int32.ofNat n)] g3 r3) fun g17 r18 => (BM_named_173 L xs (m + 1) d m (oT c) (Int32.ofNat p) 0 (Int32.ofNat n) g17 r18)) (kMT f (some (p + 2, attC i0 x.1 ((24, w.2.1 p, Int32.ofNat p, -1), []), x.2.1, x.2.2.1, i0 + 1)) (eB c) un) kN := by
          intro i0 a ha hu h92 hsd
          refine ml_at hZ ha hn1 h3 (fun n' D' K' r4 h4 hZ4 hr4 hat => ?_)
          unfold BM_named_173 BM_named_187
          refine pl_pos (by decide) (pl_pos (by decide) ?_)
          exact zna_201 (cb := oC c) hM hU hH hx hX hZ hat rfl ⟨show (24 : Int32) ≠ 3 by decide, show (24 : Int32) ≠ 7 by decide, show (24 : Int32) ≠ 20 by decide⟩ hs h4 hZ4 ha.lt hu h92 _ _ _ _ _ (p1.att hsd ha.lt) (Or.inr ⟨by omega, Pt.new ha.lt⟩) p3 (fun _ => ⟨by omega, by omega, fun e => by have := h92 e; omega⟩)
        refine pl_il (fun es => ?_) (fun es => ?_)
        · rw [i32_0] at es
          have hsd : x.2.2.1 = 0 := z1.mpr es
          rw [if_pos hsd]
          refine ml_he hm3.1 hn (pl_if (fun _ => ?_) (fun _ => trivial))
          have ha := hh3.2.2.1 (by omega) (by omega)
          rw [dvM_p hs.1] at ha
          exact fin ha (Nat.le_refl _) (fun e => absurd hsd (h9 e)) (by omega)
        · rw [i32_0] at es
          have hsd : x.2.2.1 ≠ 0 := fun e1 => es (z1.mp e1)
          rw [if_neg hsd]
          have o := p3 hsd
          exact fin (z2 hsd) (by omega) (fun e9 => by have := o.2 e9; omega) (Nat.le_refl _)
      refine pl_u (xM_isKind L xs 4 hG.1.mrd hG.add) (fun e4 => pl_neg (by decide) ?_) (fun e4 => pl_pos (by decide) (h49 _ _))
      refine pl_in (fun e9 => h62 e4 (fun e => absurd e e9)) (fun e9 => ?_)
      exact pl_ig (fun es => h62 e4 (fun _ => es)) (fun es => h49 _ _)
/-- a sentence -/
theorem zsn_64 (hM : Mc c f.2.1 f.2.2) (hU : (f.2.1 fM_units).toInt = (un : Int)) (hX : UMz c ids n D K un f.2.2) (hH : HM (oN c) (oT c).toInt (oI c) x.2 ids f.2.1 f.2.2) (hZ : Zc K D n ids (rz x.1)) (hn1 : 1 ≤ n) (hF0 : cQ F = 0) (hdd : dd.1 = 25) {i0 : Nat} {a : Int32} (hs : 8 ≤ (oT c).toInt ∧ (oT c).toInt ≤ 11) (h : Wn NP w f n D K N q n (nd dd F) g r) (ha : Pt ids i0 a) (hu : oN c + 1 ≤ i0) (h9 : (oT c).toInt = 9 → oN c + 2 ≤ i0) (hsd : x.2.2.1 ≤ i0) (hpd : x.2.2.2 ≤ i0) : pl (BM_sentence_64 L xs (m + 1) d k (oT c) (Int32.ofNat n) a g r) (kMT f (some (q, attC i0 x.1 (dd, F), x.2)) (eB c) un) kN := by
  have hx := rz_ne hZ hH.1
  have hn := oT_n (by omega : 0 ≤ (oT c).toInt)
  have hne : oN c ≠ 0 := by omega
  have hsw := (eB_T (c := c) hne).imp (fun (e : oT c = 9 ∧ (oT (eB c)).toInt = 9) => (⟨t9.mpr e.1, e.2⟩ : (oT c).toInt = 9 ∧ (oT (eB c)).toInt = 9)) (fun (e : oT c ≠ 9 ∧ (oT (eB c)).toInt = 11) => (⟨fun e2 => e.1 (t9.mp e2), e.2⟩ : (oT c).toInt ≠ 9 ∧ (oT (eB c)).toInt = 11))
  have hT0 : oT (eB c) ≠ 0 := fun e => by
    rw [e] at hsw
    rcases hsw with e2 | e2
    · exact absurd e2.2 (by decide)
    · exact absurd e2.2 (by decide)
  have h7 : 7 < (oT (eB c)).toInt := by
    rcases hsw with e | e
    · rw [e.2]; decide
    · rw [e.2]; decide
  unfold BM_sentence_64 BM_sentence_80
  refine ml_at hZ ha hn1 h (fun n' D' K' r4 h4 hZ4 hr4 hat => ?_)
  rw [← rz_att hx] at hZ4
  have hG4 := h4.1
  have hm4 := hM.gd hG4
  have hh4 := hH.gd hG4
  obtain ⟨p1, p2, p3, p4, p5⟩ := hh4.2.2.2.2.2.2 hs.1 hs.2
  refine pl_iq (fun e9 => ?_) (fun e9 => ?_)
  · refine kMT.mk h4.2.cg hT0 hZ4 ?_ (h4.uns hU) hG4.2.2.2.1 (hX.atp hZ hH.1 hat (by rw [cQ_nd, hF0, hdd]; rfl) (by rw [hdd]; decide) hG4.rows (by omega) (by omega) h7)
    rw [eB_N]
    exact hh4.bd (y := x.2) hs hsw ha.lt hu h9 (p1.att hsd ha.lt) (p2.att hpd ha.lt) p3 p4
  · refine pm_to (N := oN c) hm4.1 hn ?_
    refine kMT.mk h4.2.cg hT0 hZ4 ?_ (h4.uns hU) hG4.2.2.2.1 (hX.atp hZ hH.1 hat (by rw [cQ_nd, hF0, hdd]; rfl) (by rw [hdd]; decide) hG4.rows (by omega) (by omega) h7)
    rw [eB_N]
    exact hh4.bd (y := x.2) hs hsw ha.lt hu h9 (p1.att hsd ha.lt) (p2.att hpd ha.lt) p3 p4
theorem zM_sentence (hM : Mc c f.2.1 f.2.2) (hH : HM (oN c) (oT c).toInt (oI c) x.2 ids f.2.1 f.2.2) (hZ : Zc K D n ids (rz x.1)) (hU : (f.2.1 fM_units).toInt = (un : Int)) (hX : UMz c ids n D K un f.2.2) (h : Am w f p n D K g r) (hs : 8 ≤ (oT c).toInt ∧ (oT c).toInt ≤ 11) (hc9 : oT c = 9 → oC c = true) : pl (ev L xs (m + 1) d nM_sentence [.ref cM, .int (oT c)] g r) (kMT f (match tv w 11 p none [] with
    | some (q, _, F) => some (q + 1, attC (if x.2.2.2 = 0 then (if x.2.2.1 = 0 then oN c + 1 else x.2.2.1) else x.2.2.2) x.1 ((25, 0, Int32.ofNat p, -1), F), x.2)
    | none => none) (eB c) un) kN := by
  cases d with
  | zero => trivial
  | succ d =>
    have hn1 := h.2.2.1
    have hn := oT_n (by omega : 0 ≤ (oT c).toInt)
    rw [qM_sentence, h.1.pla]
    refine ml_nm (-1) (fun q => absurd q.1 (by decide)) h (fun g1 r1 h1 => ?_)
    refine pl_n (zM_statements hn1 h1) (fun _ _ _ e => e) (fun g2 r2 e2 => ?_)
    obtain ⟨-, ⟨b, h2⟩ | ⟨q2, s2, T2, ez, h2⟩⟩ := e2
    · exact pb_mk h2 (fun g3 r3 h3 f3 => pl_neg (by decide) (kMT.b h3))
    · obtain ⟨q3, s3, F3, e3, e4⟩ := b2_some ez
      rw [e3]
      cases e4
      refine ml_mk Wn.lf h2 (fun e5 g3 h3 => pl_pos (by decide) ?_) (fun e5 g3 r3 h3 => pl_neg (by decide) (kMT.b h3))
      have hG3 := h3.gd
      have hm3 := hM.gd hG3
      have hh3 := hH.gd hG3
      obtain ⟨p1, p2, p3, p4, p5⟩ := hh3.2.2.2.2.2.2 hs.1 hs.2
      obtain ⟨z1, z2⟩ := p1.z hZ h.2.2.2.1
      obtain ⟨z3, z4⟩ := p2.z hZ h.2.2.2.1
      have h9 : (oT c).toInt = 9 → x.2.2.1 ≠ 0 := fun e0 e1 => by
        have h8 := (hm3.2.2.2.1 hs).mpr (hc9 (t9.mp e0))
        have := z1.mp e1
        omega
      refine pl_il (fun ep => ?_) (fun ep => ?_)
      · rw [i32_0] at ep
        have hpd : x.2.2.2 = 0 := z3.mpr ep
        rw [if_pos hpd]
        refine pl_il (fun es => ?_) (fun es => ?_)
        · rw [i32_0] at es
          have hsd : x.2.2.1 = 0 := z1.mpr es
          rw [if_pos hsd]
          refine ml_he hm3.1 hn (pl_if (fun _ => ?_) (fun _ => trivial))
          have ha := hh3.2.2.1 (by omega) (by omega)
          rw [dvM_p hs.1] at ha
          exact zsn_64 hM hU hX hH hZ hn1 (tv_nk rfl e3) rfl hs h3 ha (Nat.le_refl _) (fun e => absurd hsd (h9 e)) (by omega) (by omega)
        · rw [i32_0] at es
          have hsd : x.2.2.1 ≠ 0 := fun e1 => es (z1.mp e1)
          rw [if_neg hsd]
          have o := p3 hsd
          exact zsn_64 hM hU hX hH hZ hn1 (tv_nk rfl e3) rfl hs h3 (z2 hsd) (by omega) (fun e9 => by have := o.2 e9; omega) (Nat.le_refl _) (by omega)
      · rw [i32_0] at ep
        have hpd : x.2.2.2 ≠ 0 := fun e1 => ep (z3.mp e1)
        rw [if_neg hpd]
        have o := p4 hpd
        exact zsn_64 hM hU hX hH hZ hn1 (tv_nk rfl e3) rfl hs h3 (z4 hpd) (by omega) (fun e9 => by have := o.2.2 e9; omega) (by omega) (Nat.le_refl _)
end
