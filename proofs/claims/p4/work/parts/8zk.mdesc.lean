/-! The model: what stands in an item, with its trees. -/
def kMF (P : Nat → Prop) (w : Ws) (f : Gh) (n : Nat) (D : Nat → TD) (K : Nat → List Nat) (N : Nat → Int32) (v : Nat) (dd : TD) (F : Tf) (z : Option R2) : Option Value → a2_G → a2_A → Prop := fun o g r => o = none ∧ ((∃ b, Bd w f b g r) ∨ ∃ q s T, z = some (q, s, T) ∧ Wn P w f n D K N q v (nd dd (F ++ T)) g r)
noncomputable def dqT (w : Ws) (x3 : Int32) (p q : Nat) : Option R2 := if x3.toInt = 19 then o2 (q + 1) (l1 (13, w.2.1 q, Int32.ofNat p, -1)) else if x3.toInt = 20 then (if ww w (q + 1) 21 then o2 (q + 3) (nd (14, 0, Int32.ofNat p, -1) (l1 (od w q) ++ l1 (od w (q + 2)))) else o2 (q + 1) (nd (14, 0, Int32.ofNat p, -1) (l1 (od w q)))) else if x3.toInt = 22 then b2 (tv w 26 (sk (ww w (q + 1) 23) (q + 1)) none []) (fun q' _ b => o2 q' (nd (15, w.2.1 q, Int32.ofNat p, -1) b)) else if x3.toInt = 26 then o2 (q + 1) (l1 (18, w.2.1 q, Int32.ofNat p, -1)) else o2 (q + 1) (l1 (19, sc (ww w q 29), Int32.ofNat p, -1))
section
variable {L : Nat} {xs : Nat → Int32} {m d k : Nat} {w : Ws} {f : Gh} {p q : Nat} {g : a2_G} {r : a2_A} {kn : a2_G → a2_A → Option fn_Z} {kw : Int32 → a2_G → a2_A → Option fn_Z} {Q : Option Value → a2_G → a2_A → Prop} {X : Nat → a2_G → a2_A → Prop} {n : Nat} {D : Nat → TD} {K : Nat → List Nat} {N : Nat → Int32} {P : Nat → Prop} {v : Nat} {dd : TD} {F T : Tf}
theorem kMF.b {z : Option R2} {b : Nat} (h : Bd w f b g r) : kMF P w f n D K N v dd F z none g r := ⟨rfl, Or.inl ⟨b, h⟩⟩
theorem ml_li (hn : 1 ≤ n) (h : Wn P w f n D K N q v (nd dd F) g r) (h1 : ∀ g' r', Wn P w f n D K N (q + 1) v (nd dd (F ++ l1 (od w q))) g' r' → pl (kn g' r') Q X) (h0 : ∀ b g' r', Bd w f b g' r' → pl (kn g' r') Q X) : pl (fn_n (ev L xs (m + 1) d nM_literal [.ref cM, .int (Int32.ofNat v)] g r) kn) Q X := by
  refine pl_n (Q1 := fun o g' r' => (∃ b, Bd w f b g' r') ∨ Wn P w f n D K N (q + 1) v (nd dd (F ++ l1 (od w q))) g' r') (X1 := kN) ?_ (fun _ _ _ e => e.elim) (fun g' r' e => ?_)
  · cases d with
    | zero => trivial
    | succ d =>
      have hG := h.gd
      rw [qM_literal]
      have h37 : pl (BM_literal_37 L xs (m + 1) d m (Int32.ofNat v) g r) (fun o g' r' => (∃ b, Bd w f b g' r') ∨ Wn P w f n D K N (q + 1) v (nd dd (F ++ l1 (od w q))) g' r') kN := by
        unfold BM_literal_37 BM_literal_42
        exact ml_oi hn h (fun _ g2 r2 h2 => Or.inr h2) (fun _ g2 r2 h2 => Or.inl ⟨_, h2⟩)
      refine pl_u (xM_isKind L xs 2 hG.1.mrd hG.2.2.2.1) (fun e => pl_pos (by decide) h37) (fun e => pl_neg (by decide) ?_)
      refine pl_u (xM_isKind L xs 3 hG.1.mrd hG.2.2.2.1) (fun e2 => pl_pos (by decide) h37) (fun e2 => pl_neg (by decide) ?_)
      unfold BM_literal_42
      exact pm_fa hG hG.2.2.2.1 hG.2.2.2.2 (fun g2 r2 h2 f2 => Or.inl ⟨_, h2⟩)
  · rcases e with ⟨b, e⟩ | e
    · exact h0 b g' r' e
    · exact h1 g' r' e
/-- a child made and hung at once: built on, it comes back -/
theorem ml_kid {a1 a2 a3 : Int32} (e0 : Int32) (he : st38 a1 → e0 = 0) (hn : 1 ≤ n) (h : Wn P w f n D K N q v (nd dd F) g r) (hk : ∀ u P1 n1 D1 K1 N1 g' r', 1 ≤ n1 → Wn P1 w f n1 D1 K1 N1 q u (nd (a1, a2, a3, e0) []) g' r' → (∀ q2 T2 g2 r2, Wn P1 w f n1 D1 K1 N1 q2 u T2 g2 r2 → Wn P w f n D K N q2 v (nd dd (F ++ T2)) g2 r2) → pl (kw (Int32.ofNat u) g' r') Q X) (he53 : a1 = 53 → e0 = -1 := by intro h; first | rfl | exact absurd h (by decide)) : pl (fn_v (ev L xs (m + 1) d nM_make [.ref cM, .int a1, .int a2, .int a3] g r) fun v1 g1 r1 => fn_n (ev L xs (m + 1) d nM_attach [.ref cM, .int (Int32.ofNat v), .int v1] g1 r1) fun g2 r2 => kw v1 g2 r2) Q X := by
  obtain ⟨n1, D1, K1, hA, hq, hN⟩ := h
  have h1 := hA.2.2.1
  refine ml_nm e0 he hA (fun g1 r1 hu => ?_) he53
  refine ml_h2 hn hq hN hu (fun N2 g2 r2 hN2 h2 => ?_)
  exact hk n1 _ n1 D1 _ N2 g2 r2 h1 h2 (fun q2 T2 g2 r2 h3 => Wn.bk hq hN2 h3)
theorem tv39_ok (w : Ws) : ∀ p a, tv w 39 p none a = if wk w p 1 then tv w 39 (p + 1) none (a ++ l1 (nm w 17 p)) else o2 p a := fun p a => tv_39 w p none a
theorem zoc_69 {z : Option R2} (x1 x2 x4 : Int32) (hn : 1 ≤ n) (h : Wn P w f n D K N q v (nd dd F) g r) (hz : ∀ o g' r', kMI P w f n D K N v dd (tv w 27 q none F) o g' r' → Q o g' r') : pl (BM_occurs_69 L xs (m + 1) d k x1 x2 (Int32.ofNat v) x4 g r) Q kN := by
  unfold BM_occurs_69 BM_occurs_93
  refine ml_ms Wn.lf h (fun e g1 h1 => pl_neg (by decide) ?_) (fun e => pl_pos (by decide) ?_)
  · refine ml_mb Wn.lf h1 (fun v2 g2 h2 => ?_)
    refine pl_n (zM_names L xs (fun q => absurd q.1 (by decide)) hn (tv39_ok w) h2) (fun _ _ _ e => e) (fun g3 r3 e3 => hz _ _ _ ?_)
    rw [tv_27, if_pos e]
    exact e3
  · refine hz _ _ _ ⟨rfl, Or.inr ⟨q, none, F, ?_, h⟩⟩
    rw [tv_27, if_neg (by rw [e]; exact Bool.false_ne_true)]
    rfl
theorem zoc_69b (x1 x2 x3 x4 : Int32) {b : Nat} (h : Bd w f b g r) (hz : ∀ g' r', Bd w f b g' r' → Q none g' r') : pl (BM_occurs_69 L xs (m + 1) d k x1 x2 x3 x4 g r) Q kN := by
  unfold BM_occurs_69 BM_occurs_93
  exact pl_e (xB_meets 10 h) (pl_pos (by decide) (hz _ _ h))
theorem zM_occurs (hn : 1 ≤ n) (h : Wn P w f n D K N q v (nd dd F) g r) : pl (ev L xs (m + 1) d nM_occurs [.ref cM, .int (Int32.ofNat v), .int (Int32.ofNat p)] g r) (kMF P w f n D K N v dd F (b2 (tv w 26 (sk (ww w (q + 1) 23) (q + 1)) none []) (fun q' _ b => o2 q' (nd (15, w.2.1 q, Int32.ofNat p, -1) b)))) kN := by
  cases d with
  | zero => trivial
  | succ d =>
    rw [qM_occurs]
    refine ml_mk Wn.lf h (fun e g1 h1 => pl_pos (by decide) ?_) (fun e g1 r1 h1 => pl_neg (by decide) (kMF.b h1))
    refine ml_pa h1.gd ?_
    refine ml_kid (-1) (fun q => absurd q.1 (by decide)) hn h1 (fun u P1 n1 D1 K1 N1 g2 r2 hn1 h2 hb => ?_)
    refine ml_mb Wn.lf h2 (fun v3 g3 h3 => ?_)
    generalize sk (ww w (q + 1) 23) (q + 1) = q3 at h3
    have fin : ∀ {q4 : Nat} {F4 : Tf}, tv w 26 q3 none [] = tv w 27 q4 none F4 → ∀ o g' r', kMI P1 w f n1 D1 K1 N1 u (15, w.2.1 q, Int32.ofNat p, -1) (tv w 27 q4 none F4) o g' r' → kMF P w f n D K N v dd F (b2 (tv w 26 q3 none []) (fun q' _ b => o2 q' (nd (15, w.2.1 q, Int32.ofNat p, -1) b))) o g' r' := by
      intro q4 F4 e4 o g' r' e
      obtain ⟨e1, ⟨b, e2⟩ | ⟨q5, s5, T5, ez, e2⟩⟩ := e
      · exact ⟨e1, Or.inl ⟨b, e2⟩⟩
      · refine ⟨e1, Or.inr ⟨q5, none, _, ?_, hb _ _ _ _ e2⟩⟩
        rw [e4, ez]
        rfl
    refine ml_ms Wn.lf h3 (fun e4 g4 h4 => pl_neg (by decide) ?_) (fun e4 => pl_pos (by decide) ?_)
    · refine ml_mk Wn.lf h4 (fun e5 g5 h5 => pl_neg (by decide) ?_) (fun e5 g5 r5 h5 => pl_pos (by decide) (zoc_69b _ _ _ _ h5 (fun g' r' e => kMF.b e)))
      refine ml_pa h5.gd ?_
      have hG5 := h5.gd
      have ea : g5 fM_at - 1 = Int32.ofNat (q3 + 1) := by
        refine Int32.toInt_inj.mp ?_
        have := hG5.2.2.2.1
        have := hG5.le
        rw [i32_dec (x := g5 fM_at) (by omega), on_eq (by omega)]
        omega
      rw [ea]
      refine ml_ch (-1) (fun q => absurd q.1 (by decide)) hn1 h5 (fun g6 r6 h6 => ?_)
      refine zoc_69 (z := none) _ _ _ hn1 h6 (fin ?_)
      rw [tv_26, if_pos e4]
      rfl
    · refine zoc_69 (z := none) _ _ _ hn1 h3 (fin ?_)
      rw [tv_26, if_neg (by rw [e4]; exact Bool.false_ne_true)]
theorem zd_313 {z : Option R2} (x1 x3 x4 : Int32) (hpn : p ≤ w.2.2) (hp2 : w.2.2 ≤ 1500) (h : Ge w f g r) : pl (BM_described2_313 L xs (m + 1) d k x1 (Int32.ofNat p) x3 x4 g r) (kMF P w f n D K N v dd F z) kN := by
  unfold BM_described2_313 BM_described2_320
  exact pm_fe h (on_eq (by omega)) hpn (fun g2 r2 h2 f2 => kMF.b h2)
theorem zd_73 (hn : 1 ≤ n) (x4 : Int32) {x3 : Int32} (hpn : p ≤ w.2.2) (h : Wn P w f n D K N q v (nd dd F) g r) : pl (BM_described2_73 L xs (m + 1) d k (Int32.ofNat v) (Int32.ofNat p) x3 x4 g r) (kMF P w f n D K N v dd F (dqT w x3 p q)) kN := by
  have hG := h.gd
  have hg := hG.ge
  have hle := hG.le
  unfold BM_described2_73 dqT BM_described2_320 BM_described2_320_1
  refine pl_if (fun e => ?_) (fun n19 => ?_)
  · rw [if_pos e]
    refine ml_mk Wn.lf h (fun e2 g2 h2 => pl_neg (by decide) ?_) (fun e2 g2 r2 h2 => pl_pos (by decide) (kMF.b h2))
    refine ml_pa h2.gd ?_
    exact ml_ch (-1) (fun q => absurd q.1 (by decide)) hn h2 (fun g3 r3 h3 => ⟨rfl, Or.inr ⟨_, _, _, rfl, h3⟩⟩)
  rw [if_neg n19]
  refine pl_if (fun e => ?_) (fun n20 => ?_)
  · rw [if_pos e]
    refine ml_kid (-1) (fun q => absurd q.1 (by decide)) hn h (fun u P1 n1 D1 K1 N1 g2 r2 hn1 h2 hb => ?_)
    refine ml_li hn1 h2 (fun g3 r3 h3 => ?_) (fun b g3 r3 h3 => pl_e (xB_meets 21 h3) (pl_pos (by decide) (kMF.b h3)))
    refine ml_ms Wn.lf h3 (fun e4 g4 h4 => pl_neg (by decide) ?_) (fun e4 => pl_pos (by decide) ?_)
    · rw [if_pos e4]
      exact ml_li hn1 h4 (fun g5 r5 h5 => ⟨rfl, Or.inr ⟨_, _, _, rfl, hb _ _ _ _ h5⟩⟩) (fun b g5 r5 h5 => kMF.b h5)
    · rw [if_neg (by rw [e4]; exact Bool.false_ne_true)]
      exact ⟨rfl, Or.inr ⟨_, _, _, rfl, hb _ _ _ _ h3⟩⟩
  rw [if_neg n20]
  refine pl_if (fun e => ?_) (fun n21 => ?_)
  · exact zd_313 _ _ _ hpn hle.2 hg
  refine pl_if (fun e => ?_) (fun n22 => ?_)
  · rw [if_pos e]
    exact pl_n (zM_occurs hn h) (fun _ _ _ e => e) (fun g2 r2 e2 => e2)
  rw [if_neg n22]
  refine pl_if (fun e => zd_313 _ _ _ hpn hle.2 hg) (fun n23 => ?_)
  refine pl_if (fun e => zd_313 _ _ _ hpn hle.2 hg) (fun n24 => ?_)
  refine pl_if (fun e => zd_313 _ _ _ hpn hle.2 hg) (fun n25 => ?_)
  refine pl_if (fun e => ?_) (fun n26 => ?_)
  · rw [if_pos e]
    refine ml_mk Wn.lf h (fun e2 g2 h2 => pl_neg (by decide) ?_) (fun e2 g2 r2 h2 => pl_pos (by decide) (kMF.b h2))
    refine ml_pa h2.gd ?_
    exact ml_ch (-1) (fun q => absurd q.1 (by decide)) hn h2 (fun g3 r3 h3 => ⟨rfl, Or.inr ⟨_, _, _, rfl, h3⟩⟩)
  rw [if_neg n26]
  refine pl_if (fun e => ?_) (fun n27 => zd_313 _ _ _ hpn hle.2 hg)
  have h255 : q < w.2.2 → w.2.1 q - 28 = sc (ww w q 29) → pl (BM_described2_255 L xs (m + 1) d k (Int32.ofNat v) (Int32.ofNat p) x3 x4 1 g r) (kMF P w f n D K N v dd F (o2 (q + 1) (l1 (19, sc (ww w q 29), Int32.ofNat p, -1)))) kN := by
    intro hq hv
    unfold BM_described2_255 BM_described2_282 BM_described2_320_2
    refine pl_neg (by decide) (pl_if (fun _ => ?_) (fun _ => trivial))
    rw [hG.nat, hG.1.mrd.2.1, hv]
    refine ml_ch (-1) (fun q => absurd q.1 (by decide)) hn h (fun g3 r3 h3 => pl_neg (by decide) ?_)
    exact ⟨rfl, Or.inr ⟨_, _, _, rfl, Wn.lf.2 _ _ _ h3 hq⟩⟩
  unfold BM_described2_250
  refine pl_u (xM_isWord L xs 28 hG.1.mrd hG.2.2.2.1) (fun e2 => pl_pos (by decide) (h255 (ww_iff.mp e2).1 ?_)) (fun e2 => pl_neg (by decide) ?_)
  · rw [ww_x e2 (by decide), (ww_iff.mp e2).2.2]
    rfl
  · refine pl_u (xM_isWord L xs 29 hG.1.mrd hG.2.2.2.1) (fun e3 => pl_neg (by decide) (h255 (ww_iff.mp e3).1 ?_)) (fun e3 => pl_pos (by decide) ?_)
    · rw [e3, (ww_iff.mp e3).2.2]
      rfl
    · unfold BM_described2_255 BM_described2_282 BM_described2_320_2
      refine pl_pos (by decide) (pl_pos (by decide) ?_)
      exact pm_fa hG hG.2.2.2.1 hG.2.2.2.2 (fun g2 r2 h2 f2 => kMF.b h2)
theorem zM_described2 (hn : 1 ≤ n) (h : Wn P w f n D K N p v (nd dd F) g r) : pl (ev L xs (m + 1) d nM_described2 [.ref cM, .int (Int32.ofNat v)] g r) (kMF P w f n D K N v dd F (tv w 25 p none [])) kN := by
  cases d with
  | zero => trivial
  | succ d =>
    have hG := h.gd
    have hle := hG.le
    rw [qM_described2, hG.pla]
    refine pl_u (by rw [← hG.pla]; exact xM_isKind L xs 0 hG.1.mrd hG.2.2.2.1) (fun e => pl_neg (by decide) ?_) (fun e => pl_pos (by decide) ?_)
    · refine pl_if (fun _ => ?_) (fun _ => trivial)
      rw [hG.nat, hG.1.mrd.2.1]
      have h1 := Wn.lf.2 _ _ _ h (wk_iff.mp e).1
      unfold BM_described2_30
      generalize upd g fM_at (g fM_at + 1) = g1 at h1
      have h59 : ∀ A, (dqT w (w.2.1 p) p (sk (ww w (p + 1) 67) (p + 1)) = A) → pl (BM_described2_59 L xs (m + 1) d m (Int32.ofNat v) (Int32.ofNat p) (w.2.1 p) g1 r) (kMF P w f n D K N v dd F A) kN := by
        intro A hA
        unfold BM_described2_59 BM_described2_72
        rw [← hA]
        refine ml_mb Wn.lf h1 (fun v2 g2 h2 => ?_)
        exact pl_if (fun _ => zd_73 hn _ hG.2.2.2.2 h2) (fun _ => zd_73 hn _ hG.2.2.2.2 h2)
      have h72 : ∀ A, dqT w (w.2.1 p) p (p + 1) = A → pl (BM_described2_72 L xs (m + 1) d m (Int32.ofNat v) (Int32.ofNat p) (w.2.1 p) g1 r) (kMF P w f n D K N v dd F A) kN := by
        intro A hA
        unfold BM_described2_72
        rw [← hA]
        exact zd_73 hn _ hG.2.2.2.2 h1
      rw [tv_25, wwv e, wwv e, wwv e, wwv e]
      generalize w.2.1 p = x at h59 h72
      unfold dqT at h59 h72
      refine pl_iq (fun c19 => h59 _ ?_) (fun c19 => ?_)
      · rw [decide_eq_true c19, if_pos rfl, if_pos (by rw [c19]; rfl)]
      rw [decide_eq_false c19, if_neg Bool.false_ne_true]
      refine pl_iq (fun c20 => h59 _ ?_) (fun c20 => ?_)
      · rw [decide_eq_true c20, if_pos rfl, if_neg (show ¬ x.toInt = 19 from i32n c19), if_pos (by rw [c20]; rfl)]
      rw [decide_eq_false c20, if_neg Bool.false_ne_true]
      refine pl_in (fun c27 => ?_) (fun c27 => h59 _ ?_)
      · by_cases c22 : x = 22
        · refine h72 _ ?_
          rw [decide_eq_true c22, if_pos rfl, if_neg (show ¬ x.toInt = 19 from i32n c19), if_neg (show ¬ x.toInt = 20 from i32n c20), if_pos (by rw [c22]; rfl)]
        rw [decide_eq_false c22, if_neg Bool.false_ne_true]
        by_cases c26 : x = 26
        · refine h72 _ ?_
          rw [decide_eq_true c26, if_pos rfl, if_neg (show ¬ x.toInt = 19 from i32n c19), if_neg (show ¬ x.toInt = 20 from i32n c20), if_neg (show ¬ x.toInt = 22 from i32n c22), if_pos (by rw [c26]; rfl)]
        unfold BM_described2_72 BM_described2_73
        have hg := h1.gd.ge
        refine pl_neg (show ¬ x.toInt = 19 from i32n c19) (pl_neg (show ¬ x.toInt = 20 from i32n c20) ?_)
        refine pl_if (fun _ => zd_313 _ _ _ hG.2.2.2.2 hle.2 hg) (fun _ => pl_neg (show ¬ x.toInt = 22 from i32n c22) ?_)
        refine pl_if (fun _ => zd_313 _ _ _ hG.2.2.2.2 hle.2 hg) (fun _ => ?_)
        refine pl_if (fun _ => zd_313 _ _ _ hG.2.2.2.2 hle.2 hg) (fun _ => ?_)
        refine pl_if (fun _ => zd_313 _ _ _ hG.2.2.2.2 hle.2 hg) (fun _ => pl_neg (show ¬ x.toInt = 26 from i32n c26) (pl_neg (show ¬ x.toInt = 27 from i32n c27) ?_))
        exact zd_313 _ _ _ hG.2.2.2.2 hle.2 hg
      · rw [Decidable.not_not] at c27
        rw [c27]
        rfl
    · unfold BM_described2_30 BM_described2_72 BM_described2_73
      refine pl_neg (by decide) (pl_neg (by decide) (pl_pos (by decide) ?_))
      refine pl_neg (by decide) (pl_neg (by decide) (pl_neg (by decide) (pl_neg (by decide) (pl_neg (by decide) (pl_neg (by decide) (pl_neg (by decide) (pl_neg (by decide) (pl_neg (by decide) ?_))))))))
      exact zd_313 _ _ _ hG.2.2.2.2 hle.2 (hG.ge.at _)
end
