/-! The model's statements, one by one, with their trees. -/
theorem pcT_37 (w : Ws) (dd : TD) (F : Tf) (q : Nat) : pcT w 37 0 dd F q = aqT w 50 2 72 dd F q := by
  unfold pcT
  rw [if_pos rfl, if_neg (by decide)]
theorem pcT_41 (w : Ws) (dd : TD) (F : Tf) (q : Nat) : pcT w 41 0 dd F q = aqT w 61 2 76 dd F q := by
  unfold pcT
  rw [if_neg (by decide), if_pos rfl, if_neg (by decide)]
theorem pcT_42 (w : Ws) (dd : TD) (F : Tf) (q : Nat) : pcT w 42 0 dd F q = aqT w 62 1 77 dd F q := by
  unfold pcT
  rw [if_neg (by decide), if_neg (by decide), if_pos rfl, if_neg (by decide)]
theorem pcT_38 (w : Ws) (ph : Int32) (dd : TD) (F : Tf) (q : Nat) : pcT w 38 ph dd F q = if ph = 2 then enT w 73 dd F q else if ph = 1 then if1T w dd F q else b2 (tv w 13 q none []) (fun q _ b => if1T w dd (F ++ b) q) := by
  unfold pcT
  rw [if_neg (by decide), if_neg (by decide), if_neg (by decide), if_pos rfl]
theorem pcT_39 (w : Ws) (ph : Int32) (dd : TD) (F : Tf) (q : Nat) : pcT w 39 ph dd F q = if ph = 0 then b2 (tv w 10 q none []) (fun q _ c => o2 (q + 1) (nd (tdx dd 1) (F ++ c))) else o2 (q + 1) (nd (tdx dd 1) F) := by
  unfold pcT
  rw [if_neg (by decide), if_neg (by decide), if_neg (by decide), if_neg (by decide), if_pos rfl]
theorem pcT_40 (w : Ws) (ph : Int32) (dd : TD) (F : Tf) (q : Nat) : pcT w 40 ph dd F q = b2 (tv w 14 q none F) (fun q _ b => enT w 75 dd b q) := by
  unfold pcT
  rw [if_neg (by decide), if_neg (by decide), if_neg (by decide), if_neg (by decide), if_neg (by decide)]
theorem od_nm {w : Ws} {p : Nat} (h : wk w p 1 = true) : od w p = nm w 41 p := by
  unfold od nm nmv
  rw [(wk_iff.mp h).2, if_pos rfl]
  rfl
section
variable {L : Nat} {xs : Nat → Int32} {m d k : Nat} {w : Ws} {f : Gh} {p q : Nat} {g g' : a2_G} {r r' : a2_A} {kv : Int32 → a2_G → a2_A → Option fn_Z} {kn : a2_G → a2_A → Option fn_Z} {Q : Option Value → a2_G → a2_A → Prop} {X : Nat → a2_G → a2_A → Prop} {n : Nat} {D : Nat → TD} {K : Nat → List Nat} {N : Nat → Int32} {P : Nat → Prop} {v : Nat} {dd : TD} {F T : Tf} {P0 : Nat → Prop} {n0 : Nat} {D0 : Nat → TD} {K0 : Nat → List Nat} {N0 : Nat → Int32} {t0 : Nat × TD} {t : Option (Int32 × Int32)} {l : List Ofr} {fr : Ofr}
theorem StP.fin (h : StP w f P0 n0 D0 K0 N0 t0 (none, v, dd, F) l q g r) : kWT w f P0 n0 D0 K0 N0 t0 (cu w l q (nd dd F)) none g r := by
  have := h.kws
  rw [cu_n] at this
  exact this
theorem StP.pil {c : Int32} (hc : c ≠ 0) (h : StP w f P0 n0 D0 K0 N0 t0 (some (c, 0), v, dd, F) l q g r) : kWT w f P0 n0 D0 K0 N0 t0 (b2 (pcT w c 0 dd F q) (fun q _ T => cu w l q T)) none g r := by
  have := h.kws
  rw [cu_s w hc] at this
  exact this
theorem sp_ok (ho : wo w q = true) (h : StP w f P0 n0 D0 K0 N0 t0 (t, v, dd, F) l q g r) (h1 : ∀ g' r', StP w f P0 n0 D0 K0 N0 t0 (t, v, dd, F ++ l1 (od w q)) l (q + 1) g' r' → pl (kn g' r') Q X) : pl (fn_n (ev L xs (m + 1) d nM_operandOf [.ref cM, .int (Int32.ofNat v)] g r) kn) Q X := by
  obtain ⟨⟨P, n, D, K, N, hU, hn, hW⟩, hX⟩ := h
  refine pl_n (pl_and (xM_operandOf _ hW.gd) (zM_operandOf hn hW)) (fun _ _ _ e => e.1.elim) (fun g2 r2 e => ?_)
  obtain ⟨⟨-, e2, e3⟩, e4⟩ := e
  rw [if_pos ho] at e2
  rcases e4 with ⟨b, e4⟩ | e4
  · have h1 := e2.2.2.1
    have h2 := e4.2.2.1
    rw [h2] at h1
    exact absurd h1 (by decide)
  · exact h1 g2 r2 ⟨⟨P, n, D, K, N, hU, hn, e4.1⟩, hX.z e3.z⟩
theorem tv18_ok (w : Ws) : ∀ p a, tv w 18 p none a = if wk w p 1 then tv w 18 (p + 1) none (a ++ l1 (nm w 41 p)) else o2 p a := fun p a => tv_18 w p none a
theorem tv38_ok (w : Ws) : ∀ p a, tv w 38 p none a = if wk w p 1 then tv w 38 (p + 1) none (a ++ l1 (nm w 21 p)) else o2 p a := fun p a => tv_38 w p none a
/-- DISPLAY's operands -/
def OPT (L : Nat) (xs : Nat → Int32) (m d k : Nat) (w : Ws) (f : Gh) (P0 : Nat → Prop) (n0 : Nat) (D0 : Nat → TD) (K0 : Nat → List Nat) (N0 : Nat → Int32) (t0 : Nat × TD) (v : Nat) (dd : TD) (l : List Ofr) : Prop := ∀ (x1 x2 x3 : Int32) (q : Nat) (F : Tf) (g : a2_G) (r : a2_A), StP w f P0 n0 D0 K0 N0 t0 (none, v, dd, F) l q g r → pl (lp L xs nM_statement nm_m195 (m + 1) d k 444 [some (.ref cM), some (.int x1), some (.int x2), some (.int x3), some (.int (Int32.ofNat v)), none] g r) (kWT w f P0 n0 D0 K0 N0 t0 (b2 (b2 (tv w 19 q none F) fun q _ b => o2 q (nd dd b)) fun q _ T => cu w l q T)) kN
theorem opt_1 (H : OPT L xs m d k w f P0 n0 D0 K0 N0 t0 v dd l) (x1 x2 x3 : Int32) (h : StP w f P0 n0 D0 K0 N0 t0 (none, v, dd, F) l q g r) : pl (BM_statement_444 L xs (m + 1) d k x1 x2 x3 (Int32.ofNat v) g r) (kWT w f P0 n0 D0 K0 N0 t0 (b2 (b2 (tv w 19 q none F) fun q _ b => o2 q (nd dd b)) fun q _ T => cu w l q T)) kN := by
  have hG := h.gd
  unfold BM_statement_444 BM_statement_521
  refine pl_neg (by rw [c2_ne, hG.2.2.1]; decide) ?_
  refine pl_u (xM_isOperand L xs hG.1.mrd hG.2.2.2.1) (fun e => pl_neg (by decide) ?_) (fun e => pl_pos (by decide) ?_)
  · rw [tv_19, if_pos e]
    exact sp_ok e h (fun g2 r2 h2 => H x1 x2 x3 (q + 1) _ g2 r2 h2)
  · rw [tv_19, if_neg (by rw [e]; exact Bool.false_ne_true)]
    exact h.fin
theorem opt_l : ∀ k, OPT L xs m d k w f P0 n0 D0 K0 N0 t0 v dd l
  | 0 => fun _ _ _ _ _ _ _ _ => pl_l0
  | k + 1 => fun x1 x2 x3 q F g r h => by
      rw [lM_statement_444]
      exact opt_1 (opt_l k) x1 x2 x3 h
theorem opt_b {z : Option R2} (x1 x2 x3 x4 : Int32) {b : Nat} (h : Bd w f b g r) : pl (BM_statement_444 L xs (m + 1) d k x1 x2 x3 x4 g r) (kWT w f P0 n0 D0 K0 N0 t0 z) kN := by
  unfold BM_statement_444
  exact pl_pos (by rw [c2_ne, h.2.2.1]; decide) (kWT.b h)
/-- ADD -/
noncomputable def adT (w : Ws) (p q : Nat) (b : Tf) : Option R2 := if ww w q 49 then aqT w 50 2 72 (27, 1, Int32.ofNat p, 0) (b ++ l1 (nm w 41 (q + 1))) (q + 2) else b2 (tv w 18 (q + 1) none b) fun q _ b => aqT w 50 2 72 (27, 0, Int32.ofNat p, 0) b q
theorem tv_ad (w : Ws) (p : Nat) : tv w 137 p none [] = b2 (tv w 19 (p + 1) none []) fun q _ b => adT w p q b := tv_137 w p none []
theorem adT_94 {x : Int32} (h : StP w f P0 n0 D0 K0 N0 t0 (none, v, (27, x, Int32.ofNat p, 0), F) (fr :: l) q g r) : pl (BM_add_94 L xs (m + 1) d k (Int32.ofNat v) g r) (kWT w f P0 n0 D0 K0 N0 t0 (b2 (aqT w 50 2 72 (27, x, Int32.ofNat p, 0) F q) fun q _ T => cu w (fr :: l) q T)) kN := by
  unfold BM_add_94
  refine sp_pi (Or.inl rfl) h (fun g' r' h' => ?_)
  rw [← pcT_37]
  exact h'.pil (by decide)
theorem adT_94b {z : Option R2} (x1 : Int32) {b : Nat} (h : Bd w f b g r) : pl (BM_add_94 L xs (m + 1) d k x1 g r) (kWT w f P0 n0 D0 K0 N0 t0 z) kN := by
  unfold BM_add_94
  exact pb_pi h (fun _ _ e => kWT.b e)
theorem adT_31 (h : StP w f P0 n0 D0 K0 N0 t0 (none, v, (27, 0, Int32.ofNat p, 0), F) (fr :: l) q g r) : pl (BM_add_31 L xs (m + 1) d k (Int32.ofNat v) g r) (kWT w f P0 n0 D0 K0 N0 t0 (b2 (adT w p q F) fun q _ T => cu w (fr :: l) q T)) kN := by
  unfold BM_add_31 adT
  refine ml_ms StP.lf h (fun e g1 h1 => pl_neg (by decide) ?_) (fun e => pl_pos (by decide) ?_)
  · rw [if_neg (by rw [ww_x e (by decide)]; exact Bool.false_ne_true)]
    refine sp_nm (fun q => absurd q.2 (by decide)) (tv18_ok w) h1 (fun q' s T g2 r2 ez h2 => ?_) (fun b g2 r2 h2 => adT_94b _ h2)
    rw [ez, b2_s]
    exact adT_94 h2
  · refine ml_mu StP.lf h (fun e2 g1 h1 => pl_neg (by decide) ?_) (fun e2 g1 r1 h1 => pl_pos (by decide) (adT_94b _ h1))
    rw [if_pos e2, h.vn]
    refine pl_if (fun _ => ?_) (fun _ => trivial)
    refine ml_mk StP.lf (h1.sv (x := 1)) (fun e3 g2 h2 => pl_neg (by decide) ?_) (fun e3 g2 r2 h2 => pl_pos (by decide) (adT_94b _ h2))
    exact sp_nc h2 (fun g3 r3 h3 => adT_94 h3)
theorem adT_31b {z : Option R2} (x1 : Int32) {b : Nat} (h : Bd w f b g r) : pl (BM_add_31 L xs (m + 1) d k x1 g r) (kWT w f P0 n0 D0 K0 N0 t0 z) kN := by
  unfold BM_add_31
  refine pl_e (xB_meets 48 h) (pl_pos (by decide) ?_)
  exact pb_mu h (fun g2 r2 h2 f2 => pl_pos (by decide) (adT_94b x1 h2))
def ADT (L : Nat) (xs : Nat → Int32) (m d k : Nat) (w : Ws) (f : Gh) (P0 : Nat → Prop) (n0 : Nat) (D0 : Nat → TD) (K0 : Nat → List Nat) (N0 : Nat → Int32) (t0 : Nat × TD) (p v : Nat) (fr : Ofr) (l : List Ofr) : Prop := ∀ (q : Nat) (F : Tf) (g : a2_G) (r : a2_A), StP w f P0 n0 D0 K0 N0 t0 (none, v, (27, 0, Int32.ofNat p, 0), F) (fr :: l) q g r → pl (lp L xs nM_add nm_m196 (m + 1) d k 5 [some (.ref cM), some (.int (Int32.ofNat v))] g r) (kWT w f P0 n0 D0 K0 N0 t0 (b2 (b2 (tv w 19 q none F) fun q _ b => adT w p q b) fun q _ T => cu w (fr :: l) q T)) kN
theorem adT_1 (H : ADT L xs m d k w f P0 n0 D0 K0 N0 t0 p v fr l) (h : StP w f P0 n0 D0 K0 N0 t0 (none, v, (27, 0, Int32.ofNat p, 0), F) (fr :: l) q g r) : pl (BM_add_5 L xs (m + 1) d k (Int32.ofNat v) g r) (kWT w f P0 n0 D0 K0 N0 t0 (b2 (b2 (tv w 19 q none F) fun q _ b => adT w p q b) fun q _ T => cu w (fr :: l) q T)) kN := by
  have hG := h.gd
  unfold BM_add_5
  refine pl_neg (by rw [c2_ne, hG.2.2.1]; decide) ?_
  refine pl_u (xM_isOperand L xs hG.1.mrd hG.2.2.2.1) (fun e => pl_neg (by decide) ?_) (fun e => pl_pos (by decide) ?_)
  · rw [tv_19, if_pos e]
    exact sp_ok e h (fun g2 r2 h2 => H (q + 1) _ g2 r2 h2)
  · rw [tv_19, if_neg (by rw [e]; exact Bool.false_ne_true), b2_o]
    exact adT_31 h
theorem adT_l : ∀ k, ADT L xs m d k w f P0 n0 D0 K0 N0 t0 p v fr l
  | 0 => fun _ _ _ _ _ => pl_l0
  | k + 1 => fun q F g r h => by
      rw [lM_add_5]
      exact adT_1 (adT_l k) h
theorem zM_add (h : StP w f P0 n0 D0 K0 N0 t0 (none, v, (27, 0, Int32.ofNat p, 0), []) (fr :: l) (p + 1) g r) : pl (ev L xs (m + 1) d nM_add [.ref cM, .int (Int32.ofNat v)] g r) (kWT w f P0 n0 D0 K0 N0 t0 (b2 (tv w 137 p none []) fun q _ T => cu w (fr :: l) q T)) kN := by
  cases d with
  | zero => trivial
  | succ d =>
    rw [qM_add, tv_ad]
    refine sp_oi h (fun g2 r2 h2 ho => ?_) (fun b g2 r2 h2 => ?_)
    · rw [tv_19, if_pos ho]
      exact adT_1 (adT_l m) h2
    · unfold BM_add_5
      exact pl_pos (by rw [c2_ne, h2.2.2.1]; decide) (adT_31b _ h2)
/-- CALL -/
theorem caT_65 (h : StP w f P0 n0 D0 K0 N0 t0 (none, v, dd, F) (fr :: l) q g r) : pl (BM_call_65 L xs (m + 1) d k (Int32.ofNat v) g r) (kWT w f P0 n0 D0 K0 N0 t0 (b2 (aqT w 62 1 77 dd F q) fun q _ T => cu w (fr :: l) q T)) kN := by
  unfold BM_call_65
  refine sp_pi (by decide) h (fun g' r' h' => ?_)
  rw [← pcT_42]
  exact h'.pil (by decide)
theorem caT_65b {z : Option R2} (x1 : Int32) {b : Nat} (h : Bd w f b g r) : pl (BM_call_65 L xs (m + 1) d k x1 g r) (kWT w f P0 n0 D0 K0 N0 t0 z) kN := by
  unfold BM_call_65
  exact pb_pi h (fun _ _ e => kWT.b e)
theorem caT_49b {z : Option R2} (x1 : Int32) {b : Nat} (h : Bd w f b g r) : pl (BM_call_49 L xs (m + 1) d k x1 g r) (kWT w f P0 n0 D0 K0 N0 t0 z) kN := by
  unfold BM_call_49
  exact pl_e (xB_meets 31 h) (pl_pos (by decide) (caT_65b x1 h))
theorem tv_ca (w : Ws) (p : Nat) : tv w 142 p none [] = b2 (if ww w (p + 2) 31 then tv w 38 (p + 3) none (l1 (od w (p + 1))) else o2 (p + 2) (l1 (od w (p + 1)))) fun q _ b => aqT w 62 1 77 (32, 0, Int32.ofNat p, 0) b q := tv_142 w p none []
theorem zM_call (h : StP w f P0 n0 D0 K0 N0 t0 (none, v, (32, 0, Int32.ofNat p, 0), []) (fr :: l) (p + 1) g r) : pl (ev L xs (m + 1) d nM_call [.ref cM, .int (Int32.ofNat v)] g r) (kWT w f P0 n0 D0 K0 N0 t0 (b2 (tv w 142 p none []) fun q _ T => cu w (fr :: l) q T)) kN := by
  cases d with
  | zero => trivial
  | succ d =>
    have hG := h.gd
    rw [qM_call, tv_ca]
    refine pl_neg (by rw [c2_ne, hG.2.2.1]; decide) ?_
    have h44 : pl (BM_call_44 L xs (m + 1) d m (Int32.ofNat v) g r) (kWT w f P0 n0 D0 K0 N0 t0 (b2 (b2 (if ww w (p + 2) 31 then tv w 38 (p + 3) none (l1 (od w (p + 1))) else o2 (p + 2) (l1 (od w (p + 1)))) fun q _ b => aqT w 62 1 77 (32, 0, Int32.ofNat p, 0) b q) fun q _ T => cu w (fr :: l) q T)) kN := by
      unfold BM_call_44
      refine sp_oi h (fun g2 r2 h2 _ => ?_) (fun b g2 r2 h2 => caT_49b _ h2)
      unfold BM_call_49
      refine ml_ms StP.lf h2 (fun e g3 h3 => pl_neg (by decide) ?_) (fun e => pl_pos (by decide) ?_)
      · rw [e, if_pos rfl]
        refine sp_nm (fun q => absurd q.1 (by decide)) (tv38_ok w) h3 (fun q' s T g4 r4 ez h4 => ?_) (fun b g4 r4 h4 => caT_65b _ h4)
        have ez' : tv w 38 (p + 3) none (l1 (od w (p + 1))) = some (q', s, T) := ez
        rw [ez', b2_s]
        exact caT_65 h4
      · rw [e, if_neg Bool.false_ne_true, b2_o]
        exact caT_65 h2
    refine pl_u (xM_isKind L xs 1 hG.1.mrd hG.2.2.2.1) (fun e => pl_pos (by decide) h44) (fun e => pl_neg (by decide) ?_)
    refine pl_u (xM_isKind L xs 3 hG.1.mrd hG.2.2.2.1) (fun e2 => pl_pos (by decide) h44) (fun e2 => pl_neg (by decide) ?_)
    exact pm_fa hG hG.2.2.2.1 hG.2.2.2.2 (fun g2 r2 h2 f2 => caT_49b _ h2)
/-- COMPUTE -/
theorem zM_compute (h : StP w f P0 n0 D0 K0 N0 t0 (none, v, (38, 0, Int32.ofNat p, 0), []) (fr :: l) (p + 1) g r) : pl (ev L xs (m + 1) d nM_compute [.ref cM, .int (Int32.ofNat v)] g r) (kWT w f P0 n0 D0 K0 N0 t0 (b2 (tv w 147 p none []) fun q _ T => cu w (fr :: l) q T)) kN := by
  cases d with
  | zero => trivial
  | succ d =>
    rw [qM_compute, tv_147, h.vn]
    refine ml_mk StP.lf h (fun e g1 h1 => pl_pos (by decide) ?_) (fun e g1 r1 h1 => pl_neg (by decide) (kWT.b h1))
    refine ml_pa h1.gd ?_
    refine pl_if (fun _ => ?_) (fun _ => trivial)
    have h2 := h1.sv (x := w.2.1 (p + 1))
    generalize (a2_ua r fM_value ((r fM_value).1, (upd (r fM_value).2 v (w.2.1 (p + 1))))) = r2 at h2
    have hG2 := h2.gd
    refine pl_u (xM_isSign L xs 2 hG2.1.mrd hG2.2.2.2.1) (fun e2 => pl_pos (by decide) ?_) (fun e2 => pl_neg (by decide) ?_)
    · have h3 := StP.lf.2 _ _ _ h2 (wg_iff.mp e2).1
      generalize (upd g1 fM_at (g1 fM_at + 1)) = g3 at h3
      obtain ⟨⟨P, n, D, K, N, hU, hn, hW⟩, hX⟩ := h3
      obtain ⟨lb, hl, hl4⟩ := hX.lv
      have hG3 := hW.gd
      obtain ⟨n1, D1, K1, hA, hq, hN⟩ := hW
      refine pl_v (pl_and (xM_sum hG3 hl hl4) (zM_sum hA)) (fun _ _ _ e => e.1) (fun v4 g4 r4 e4 => ?_)
      obtain ⟨⟨-, fx, e5⟩, x, ex, e6⟩ := e4
      cases ex
      rcases e6 with ⟨b, e6⟩ | ⟨u, q, s, T, rfl, ez, e6⟩
      · exact pl_neg (by rw [c2_eq, e6.2.2.1]; decide) (kWT.b e6)
      · have hG4 := e6.gd
        refine pl_pos (by rw [c2_eq]; exact hG4.2.2.1) ?_
        have l5 : g4 fM_level = g3 fM_level := by
          rcases e5 with ⟨q2, -, h5, l5⟩ | ⟨b, -, h5⟩
          · exact i32e (l5.trans hl.symm)
          · have a1 := h5.2.2.1
            rw [hG4.2.2.1] at a1
            exact absurd a1 (by decide)
        have hz : tv w 0 (p + 3) none [] = some (q, none, T) ∨ ∃ s', tv w 0 (p + 3) none [] = some (q, s', T) := by
          cases hz : tv w 0 (p + 1 + 1 + 1) none [] with
          | none =>
            rw [hz] at ez
            cases ez
          | some x =>
            obtain ⟨q1, s1, T1⟩ := x
            rw [hz, b2_s] at ez
            cases ez
            exact Or.inr ⟨s1, rfl⟩
        have hz2 : b2 (b2 (tv w 0 (p + 3) none []) fun q _ b => o2 (sk (ww w q 78) q) (nd (38, w.2.1 (p + 1), Int32.ofNat p, sc (ww w q 78)) b)) (fun q _ T => cu w (fr :: l) q T) = cu w (fr :: l) (sk (ww w q 78) q) (nd (38, w.2.1 (p + 1), Int32.ofNat p, sc (ww w q 78)) T) := by
          rcases hz with hz | ⟨s', hz⟩ <;> rw [hz] <;> rfl
        rw [hz2]
        refine pl_n (pl_and (xA_attach (Int32.ofNat v) (Int32.ofNat u) hG4.1) (Q' := fun o g' r' => Wn P w f n D K N q v (nd (38, w.2.1 (p + 1), Int32.ofNat p, 0) ([] ++ T)) g' r') (X' := kN) ?_) (fun _ _ _ e => e.1) (fun g6 r6 e7 => ?_)
        · obtain ⟨n2, D2, K2, hA2, hu, hN2⟩ := e6
          have ru := hu.2.2.1.rg
          have rv : n ≤ v ∧ v < n1 := hq.2.2.1.rg
          have h1 := hu.1
          have h2 := hq.1
          refine pl_mono (zM_attach (i := v) (c := u) (by omega) (by omega) (by omega) (fun j hj hx => hu.2.2.2.1 j hj hx) hA2.ml hA2.2) (fun o g' r' e => ?_) (fun _ _ _ e => e)
          obtain ⟨-, k2, rfl, k4, k5, k6⟩ := e
          refine ⟨n2, D2, _, ⟨hA2.1.nd k4 (fun _ _ => rfl) (by have := hA2.2.1; have := hA2.2.2.1; omega) k6, k2⟩, hq.hg hu, fun y hy => ?_⟩
          rw [k5 y (by omega) (fun hx => ?_), hN2 y (by omega), hN y hy]
          rw [(hu.2.1 v (by omega)).1] at hx
          have := hq.2.2.2.2 v rv.1 rv.2 y hx
          omega
        · obtain ⟨⟨-, -, f6⟩, h6⟩ := e7
          have fz : Fz g3 r2 g6 r6 := Fz.tr ⟨Fx.y fx, l5⟩ (Fn.e f6).z
          have h7 : StP w f P0 n0 D0 K0 N0 t0 (none, v, (38, w.2.1 (p + 1), Int32.ofNat p, 0), T) (fr :: l) q g6 r6 := ⟨⟨P, n, D, K, N, hU, hn, h6⟩, hX.z fz⟩
          unfold BM_compute_90
          rw [h7.vn]
          refine ml_ms StP.lf h7 (fun e g8 h8 => pl_neg (by decide) (pl_if (fun _ => ?_) (fun _ => trivial))) (fun e => pl_pos (by decide) (pl_if (fun _ => ?_) (fun _ => trivial)))
          · rw [e]
            exact (h8.sx (x := 1)).fin
          · rw [e]
            exact (h7.sx (x := 0)).fin
    · exact pm_fa hG2 hG2.2.2.2.1 hG2.2.2.2.2 (fun g3 r3 h3 f3 => kWT.b h3)
/-- PERFORM's phrase -/
def kPT (w : Ws) (f : Gh) (P0 : Nat → Prop) (n0 : Nat) (D0 : Nat → TD) (K0 : Nat → List Nat) (N0 : Nat → Int32) (t0 : Nat × TD) (t : Option (Int32 × Int32)) (v : Nat) (dd : TD) (F : Tf) (l : List Ofr) (z : Option R2) : Option Value → a2_G → a2_A → Prop := fun o g r => o = none ∧ ((∃ b, Bd w f b g r) ∨ ∃ q s T, z = some (q, s, T) ∧ StP w f P0 n0 D0 K0 N0 t0 (t, v, dd, F ++ T) l q g r)
theorem kPT.b {z : Option R2} {b : Nat} (h : Bd w f b g r) : kPT w f P0 n0 D0 K0 N0 t0 t v dd F l z none g r := ⟨rfl, Or.inl ⟨b, h⟩⟩
theorem phb_163 {z : Option R2} (x1 x2 x3 : Int32) {b : Nat} (h : Bd w f b g r) : pl (BM_phrase_163 L xs (m + 1) d k x1 x2 x3 g r) (kPT w f P0 n0 D0 K0 N0 t0 t v dd F l z) kN := by
  unfold BM_phrase_163 BM_phrase_177_1
  exact pb_mu h (fun g2 r2 h2 f2 => pl_pos (by decide) (kPT.b h2))
theorem phb_149 {z : Option R2} (x1 x2 x3 : Int32) {b : Nat} (h : Bd w f b g r) : pl (BM_phrase_149 L xs (m + 1) d k x1 x2 x3 g r) (kPT w f P0 n0 D0 K0 N0 t0 t v dd F l z) kN := by
  unfold BM_phrase_149
  exact pb_mu h (fun g2 r2 h2 f2 => pl_pos (by decide) (phb_163 x1 x2 x3 h2))
theorem phb_135 {z : Option R2} (x1 x2 x3 : Int32) {b : Nat} (h : Bd w f b g r) : pl (BM_phrase_135 L xs (m + 1) d k x1 x2 x3 g r) (kPT w f P0 n0 D0 K0 N0 t0 t v dd F l z) kN := by
  unfold BM_phrase_135
  exact pb_mu h (fun g2 r2 h2 f2 => pl_pos (by decide) (phb_149 x1 x2 x3 h2))
theorem zM_phrase (h : StP w f P0 n0 D0 K0 N0 t0 (t, v, dd, F) l q g r) : pl (ev L xs (m + 1) d nM_phrase [.ref cM, .int (Int32.ofNat v)] g r) (kPT w f P0 n0 D0 K0 N0 t0 t v dd F l (tv w 22 q none [])) kN := by
  cases d with
  | zero => trivial
  | succ d =>
    have hG := h.gd
    rw [qM_phrase, hG.pla]
    unfold BM_phrase_177 BM_phrase_177_1 BM_phrase_177_2
    refine pl_pos (by rw [c2_eq]; exact hG.2.2.1) ?_
    refine pl_u (xM_isTimes hG) (fun e => pl_neg (by decide) ?_) (fun e => pl_pos (by decide) ?_)
    · rw [tv_22, if_pos e]
      refine sp_op (-1) (fun q => absurd q.2 (by decide)) h (fun u g1 r1 h1 => ?_)
      refine sp_oi h1 (fun g2 r2 h2 _ => ?_) (fun b g2 r2 h2 => pb_mu h2 (fun g3 r3 h3 f3 => kPT.b h3))
      refine ml_mu StP.lf h2 (fun e3 g3 h3 => ?_) (fun e3 g3 r3 h3 => kPT.b h3)
      exact ⟨rfl, Or.inr ⟨q + 2, none, _, rfl, h3.cn⟩⟩
    · have en : ¬ (wk w q 2 || wk w q 1 && ww w (q + 1) 23) = true := by rw [e]; exact Bool.false_ne_true
      rw [tv_22, if_neg en]
      refine ml_ms StP.lf h (fun e2 g1 h1 => pl_neg (by decide) ?_) (fun e2 => pl_pos (by decide) ?_)
      · rw [if_pos e2]
        refine sp_op (-1) (fun q => absurd q.2 (by decide)) h1 (fun u g2 r2 h2 => ?_)
        refine sp_cd h2 (fun q' s T g3 r3 ez h3 => ?_) (fun b g3 r3 h3 => kPT.b h3)
        rw [ez, b2_s]
        exact ⟨rfl, Or.inr ⟨q', none, _, rfl, h3.cn⟩⟩
      · rw [if_neg (by rw [e2]; exact Bool.false_ne_true)]
        refine ml_ms StP.lf h (fun e3 g1 h1 => pl_neg (by decide) ?_) (fun e3 => pl_pos (by decide) ?_)
        · rw [if_pos e3]
          refine sp_op (-1) (fun q => absurd q.2 (by decide)) h1 (fun u g2 r2 h2 => ?_)
          refine ml_mk StP.lf h2 (fun e4 g3 h3 => pl_neg (by decide) ?_) (fun e4 g3 r3 h3 => pl_pos (by decide) (phb_135 _ _ _ h3))
          refine sp_nc h3 (fun g4 r4 h4 => ?_)
          unfold BM_phrase_135
          refine ml_mu StP.lf h4 (fun e5 g5 h5 => pl_neg (by decide) ?_) (fun e5 g5 r5 h5 => pl_pos (by decide) (phb_149 _ _ _ h5))
          refine sp_oi h5 (fun g6 r6 h6 _ => ?_) (fun b g6 r6 h6 => phb_149 _ _ _ h6)
          unfold BM_phrase_149
          refine ml_mu StP.lf h6 (fun e7 g7 h7 => pl_neg (by decide) ?_) (fun e7 g7 r7 h7 => pl_pos (by decide) (phb_163 _ _ _ h7))
          refine sp_oi h7 (fun g8 r8 h8 _ => ?_) (fun b g8 r8 h8 => phb_163 _ _ _ h8)
          unfold BM_phrase_163 BM_phrase_177_1
          refine ml_mu StP.lf h8 (fun e9 g9 h9 => pl_neg (by decide) ?_) (fun e9 g9 r9 h9 => pl_pos (by decide) (kPT.b h9))
          refine sp_cd h9 (fun q' s T ga ra ez ha => ?_) (fun b ga ra ha => kPT.b ha)
          have ez' : tv w 5 (q + 7) none [] = some (q', s, T) := ez
          rw [ez', b2_s]
          exact ⟨rfl, Or.inr ⟨q', none, _, rfl, ha.cn⟩⟩
        · rw [if_neg (by rw [e3]; exact Bool.false_ne_true)]
          refine ⟨rfl, Or.inr ⟨q, none, [], rfl, ?_⟩⟩
          rw [List.append_nil]
          exact h
/-- PERFORM -/
theorem pfb_79 {z : Option R2} (x1 x2 : Int32) {b : Nat} (h : Bd w f b g r) : pl (BM_perform_79 L xs (m + 1) d k x1 x2 g r) (kWT w f P0 n0 D0 K0 N0 t0 z) kN := by
  unfold BM_perform_79
  refine pl_n (xB_phrase x1 h) (fun _ _ _ e => e) (fun g2 r2 e2 => ?_)
  refine pl_if (fun _ => pl_if (fun _ => ?_) (fun _ => trivial)) (fun _ => kWT.b e2.2)
  exact pb_pi (e2.2.ua (by decide) (by rfl)) (fun _ _ e => kWT.b e)
theorem pf_79n (h : StP w f P0 n0 D0 K0 N0 t0 (none, v, (29, 0, Int32.ofNat p, 0), F) (fr :: l) q g r) : pl (BM_perform_79 L xs (m + 1) d k (Int32.ofNat v) 1 g r) (kWT w f P0 n0 D0 K0 N0 t0 (b2 (b2 (tv w 22 q none []) (fun q _ b => o2 q (nd (29, 0, Int32.ofNat p, 0) (F ++ b)))) fun q _ T => cu w (fr :: l) q T)) kN := by
  unfold BM_perform_79
  refine pl_n (zM_phrase h) (fun _ _ _ e => e) (fun g2 r2 e2 => ?_)
  refine pl_neg (by decide) ?_
  obtain ⟨-, ⟨b, h2⟩ | ⟨q', s, T, ez, h2⟩⟩ := e2
  · exact kWT.b h2
  · rw [ez, b2_s]
    exact h2.fin
theorem pf_79i (h : StP w f P0 n0 D0 K0 N0 t0 (none, v, (29, 0, Int32.ofNat p, 0), []) (fr :: l) q g r) : pl (BM_perform_79 L xs (m + 1) d k (Int32.ofNat v) 0 g r) (kWT w f P0 n0 D0 K0 N0 t0 (b2 (b2 (tv w 22 q none []) (fun q _ b => b2 (tv w 10 q none []) fun q _ c => o2 (q + 1) (nd (29, 1, Int32.ofNat p, 1) (b ++ c)))) fun q _ T => cu w (fr :: l) q T)) kN := by
  unfold BM_perform_79
  rw [h.vn]
  refine pl_n (zM_phrase h) (fun _ _ _ e => e) (fun g2 r2 e2 => ?_)
  refine pl_pos (by decide) (pl_if (fun _ => ?_) (fun _ => trivial))
  obtain ⟨-, ⟨b, h2⟩ | ⟨q', s, T, ez, h2⟩⟩ := e2
  · exact pb_pi (h2.ua (by decide) (by rfl)) (fun _ _ e => kWT.b e)
  · rw [ez, b2_s]
    refine sp_pi (by decide) (h2.sv (x := 1)) (fun g3 r3 h3 => ?_)
    have := h3.pil (by decide)
    rw [pcT_39, if_pos rfl] at this
    exact this
theorem zM_perform (h : StP w f P0 n0 D0 K0 N0 t0 (none, v, (29, 0, Int32.ofNat p, 0), []) (fr :: l) (p + 1) g r) : pl (ev L xs (m + 1) d nM_perform [.ref cM, .int (Int32.ofNat v)] g r) (kWT w f P0 n0 D0 K0 N0 t0 (b2 (tv w 139 p none []) fun q _ T => cu w (fr :: l) q T)) kN := by
  cases d with
  | zero => trivial
  | succ d =>
    have hG := h.gd
    rw [qM_perform, tv_139]
    unfold BM_perform_31 BM_perform_32
    refine pl_u (xM_isKind L xs 1 hG.1.mrd hG.2.2.2.1) (fun e => pl_neg (by decide) ?_) (fun e => pl_pos (by decide) (pl_pos (by decide) ?_))
    · refine pl_u (xM_isWord L xs 23 hG.1.mrd hG.add) (fun e2 => pl_pos (by decide) (pl_pos (by decide) ?_)) (fun e2 => pl_neg (by decide) (pl_neg (by decide) ?_))
      · rw [if_neg (show ¬ (wk w (p + 1) 1 && !ww w (p + 2) 23) = true by rw [e, show ww w (p + 2) 23 = true from e2]; decide)]
        exact pf_79i h
      · rw [if_pos (show (wk w (p + 1) 1 && !ww w (p + 2) 23) = true by rw [e, show ww w (p + 2) 23 = false from e2]; decide)]
        refine sp_oi h (fun g2 r2 h2 _ => ?_) (fun b g2 r2 h2 => pl_e (xB_meets 21 h2) (pl_pos (by decide) (pfb_79 _ _ h2)))
        rw [od_nm e] at h2
        refine ml_ms StP.lf h2 (fun e3 g3 h3 => pl_neg (by decide) ?_) (fun e3 => pl_pos (by decide) ?_)
        · rw [if_pos (show ww w (p + 2) 21 = true from e3)]
          refine ml_mk StP.lf h3 (fun e4 g4 h4 => pl_neg (by decide) ?_) (fun e4 g4 r4 h4 => pl_pos (by decide) (pfb_79 _ _ h4))
          exact sp_nc h4 (fun g5 r5 h5 => pf_79n h5)
        · rw [if_neg (show ¬ ww w (p + 2) 21 = true by rw [show ww w (p + 2) 21 = false from e3]; decide)]
          exact pf_79n h2
    · rw [if_neg (show ¬ (wk w (p + 1) 1 && !ww w (p + 2) 23) = true by rw [e]; exact Bool.false_ne_true)]
      exact pf_79i h
/-- which node a verb makes -/
def skd (x : Int32) : Int32 := if x = 36 then 26 else if x = 37 then 27 else if x = 38 then 28 else if x = 39 then 29 else if x = 40 then 30 else if x = 41 then 31 else if x = 42 then 32 else if x = 29 then 33 else if x = 43 then 34 else if x = 44 then 35 else if x = 45 then 36 else if x = 46 then 37 else 38
theorem skd_53 (x : Int32) : skd x ≠ 53 := by
  unfold skd
  repeat' split
  all_goals decide
theorem zst_160 {x3 x4 : Int32} (hx : x4 = skd x3) (h : StP w f P0 n0 D0 K0 N0 t0 (t, v, dd, F) l (p + 1) g r) (hv : 36 ≤ x3.toInt ∧ x3.toInt ≤ 47 ∨ x3 = 29) : pl (BM_statement_160 L xs (m + 1) d k (Int32.ofNat v) (Int32.ofNat p) x3 x4 g r) (kWT w f P0 n0 D0 K0 N0 t0 (b2 (tv w (100 + x3.toInt.toNat) p none []) fun q _ T => cu w ((t, v, dd, F) :: l) q T)) kN := by
  have hr : 36 ≤ x3.toInt ∧ x3.toInt ≤ 47 ∨ x3.toInt = 29 := hv.imp id (fun e => by rw [e]; rfl)
  unfold BM_statement_160
  refine sp_op 0 (fun _ => rfl) h (fun u g1 r1 h1 => ?_) (by rw [hx]; exact skd_53 x3)
  have hG := h1.gd
  unfold BM_statement_521 BM_statement_521_1
  refine pl_if (fun e => ?_) (fun n29 => ?_)
  · have ex : x3 = 29 := i32e (e.trans rfl)
    rw [e, show 100 + (29 : Int).toNat = 129 from rfl, tv_129]
    rw [show x4 = 33 by rw [hx, ex]; rfl] at h1
    refine sp_oi h1 (fun g2 r2 h2 ho => ?_) (fun b g2 r2 h2 => opt_b _ _ _ _ h2)
    rw [tv_19, if_pos ho]
    exact opt_1 (opt_l k) _ _ _ h2
  refine pl_if (fun e => absurd e (by omega)) (fun n30 => ?_)
  refine pl_if (fun e => absurd e (by omega)) (fun n31 => ?_)
  refine pl_if (fun e => absurd e (by omega)) (fun n32 => ?_)
  refine pl_if (fun e => absurd e (by omega)) (fun n33 => ?_)
  refine pl_if (fun e => absurd e (by omega)) (fun n34 => ?_)
  refine pl_if (fun e => absurd e (by omega)) (fun n35 => ?_)
  refine pl_if (fun e => ?_) (fun n36 => ?_)
  · have ex : x3 = 36 := i32e (e.trans rfl)
    rw [e, show 100 + (36 : Int).toNat = 136 from rfl, tv_136]
    rw [show x4 = 26 by rw [hx, ex]; rfl] at h1
    refine sp_oi h1 (fun g2 r2 h2 ho => ?_) (fun b g2 r2 h2 => pb_mu h2 (fun g3 r3 h3 f3 => pl_pos (by decide) (kWT.b h3)))
    refine ml_mu StP.lf h2 (fun e3 g3 h3 => pl_neg (by decide) ?_) (fun e3 g3 r3 h3 => pl_pos (by decide) (kWT.b h3))
    refine sp_nm (fun q => absurd q.2 (by decide)) (tv18_ok w) h3 (fun q' s T g4 r4 ez h4 => ?_) (fun b g4 r4 h4 => kWT.b h4)
    have ez' : tv w 18 (p + 3) none (l1 (od w (p + 1))) = some (q', s, T) := ez
    rw [ez', b2_s, b2_o]
    exact h4.fin
  refine pl_if (fun e => ?_) (fun n37 => ?_)
  · have ex : x3 = 37 := i32e (e.trans rfl)
    rw [e, show 100 + (37 : Int).toNat = 137 from rfl]
    rw [show x4 = 27 by rw [hx, ex]; rfl] at h1
    exact pl_n (zM_add h1) (fun _ _ _ e => e) (fun g4 r4 e4 => e4)
  refine pl_if (fun e => ?_) (fun n38 => ?_)
  · have ex : x3 = 38 := i32e (e.trans rfl)
    rw [e, show 100 + (38 : Int).toNat = 138 from rfl, tv_138]
    rw [show x4 = 28 by rw [hx, ex]; rfl] at h1
    unfold BM_statement_335 BM_statement_521
    rw [ex]
    refine sp_cd h1 (fun q' s T g2 r2 ez h2 => ?_) (fun b g2 r2 h2 => ?_)
    · rw [ez, b2_s]
      have hG2 := h2.gd
      have hend : ∀ {q g3 r3}, StP w f P0 n0 D0 K0 N0 t0 (some (38, 0), u, (28, 0, Int32.ofNat p, 0), [] ++ T) ((t, v, dd, F) :: l) q g3 r3 → kWT w f P0 n0 D0 K0 N0 t0 (b2 (b2 (tv w 13 q none []) fun q _ b => if ww w q 53 then b2 (tv w 13 (q + 1) none []) (fun q _ c => o2 (sk (ww w q 73) q) (nd (28, 0, Int32.ofNat p, sc (ww w q 73)) (T ++ b ++ c))) else o2 (sk (ww w q 73) q) (nd (28, 0, Int32.ofNat p, sc (ww w q 73)) (T ++ b))) fun q _ T => cu w ((t, v, dd, F) :: l) q T) none g3 r3 := fun h3 => by
        have := h3.pil (by decide)
        rw [pcT_38, if_neg (by decide), if_neg (by decide)] at this
        exact this
      refine pl_neg (by rw [c2_ne, hG2.2.2.1]; decide) ?_
      refine pl_u (xM_isWord L xs 52 hG2.1.mrd hG2.2.2.2.1) (fun e4 => pl_neg (by decide) ?_) (fun e4 => pl_pos (by decide) ?_)
      · rw [e4]
        exact sp_pi (by decide) (StP.lf.2 _ _ _ h2 (ww_iff.mp e4).1) (fun g3 r3 h3 => hend h3)
      · rw [e4]
        exact sp_pi (by decide) h2 (fun g3 r3 h3 => hend h3)
    · refine pl_pos (by rw [c2_ne, h2.2.2.1]; decide) ?_
      exact pb_pi h2 (fun _ _ e => kWT.b e)
  refine pl_if (fun e => ?_) (fun n39 => ?_)
  · have ex : x3 = 39 := i32e (e.trans rfl)
    rw [e, show 100 + (39 : Int).toNat = 139 from rfl]
    rw [show x4 = 29 by rw [hx, ex]; rfl] at h1
    exact pl_n (zM_perform h1) (fun _ _ _ e => e) (fun g4 r4 e4 => e4)
  refine pl_if (fun e => ?_) (fun n40 => ?_)
  · have ex : x3 = 40 := i32e (e.trans rfl)
    rw [e, show 100 + (40 : Int).toNat = 140 from rfl, tv_140]
    rw [show x4 = 30 by rw [hx, ex]; rfl] at h1
    unfold BM_statement_390 BM_statement_521
    rw [ex]
    refine sp_oi h1 (fun g2 r2 h2 ho => ?_) (fun b g2 r2 h2 => pl_pos (by rw [c2_ne, h2.2.2.1]; decide) (pb_pi h2 (fun _ _ e => kWT.b e)))
    have hG2 := h2.gd
    refine pl_neg (by rw [c2_ne, hG2.2.2.1]; decide) ?_
    refine pl_u (xM_isWord L xs 59 hG2.1.mrd hG2.2.2.2.1) (fun e4 => pl_pos (by decide) ?_) (fun e4 => pl_neg (by decide) ?_)
    · refine sp_pi (by decide) h2 (fun g3 r3 h3 => ?_)
      have := h3.pil (by decide)
      rw [pcT_40] at this
      exact this
    · exact pm_fa hG2 hG2.2.2.2.1 hG2.2.2.2.2 (fun g3 r3 h3 f3 => pb_pi h3 (fun _ _ e => kWT.b e))
  refine pl_if (fun e => ?_) (fun n41 => ?_)
  · have ex : x3 = 41 := i32e (e.trans rfl)
    rw [e, show 100 + (41 : Int).toNat = 141 from rfl, tv_141]
    rw [show x4 = 31 by rw [hx, ex]; rfl] at h1
    unfold BM_statement_419 BM_statement_521
    rw [ex, h1.vn]
    refine ml_mk StP.lf h1 (fun e2 g2 h2 => pl_neg (by decide) ?_) (fun e2 g2 r2 h2 => pl_pos (by decide) (pb_pi h2 (fun _ _ e => kWT.b e)))
    refine ml_pa h2.gd (pl_if (fun _ => ?_) (fun _ => trivial))
    refine sp_pi (by decide) (h2.sv (x := w.2.1 (p + 1))) (fun g3 r3 h3 => ?_)
    have := h3.pil (by decide)
    rw [pcT_41] at this
    exact this
  refine pl_if (fun e => ?_) (fun n42 => ?_)
  · have ex : x3 = 42 := i32e (e.trans rfl)
    rw [e, show 100 + (42 : Int).toNat = 142 from rfl]
    rw [show x4 = 32 by rw [hx, ex]; rfl] at h1
    exact pl_n (zM_call h1) (fun _ _ _ e => e) (fun g4 r4 e4 => e4)
  refine pl_if (fun e => ?_) (fun n43 => ?_)
  · have ex : x3 = 43 := i32e (e.trans rfl)
    rw [e, show 100 + (43 : Int).toNat = 143 from rfl, tv_143, b2_o, h1.vn]
    rw [show x4 = 34 by rw [hx, ex]; rfl] at h1
    refine ml_mb StP.lf h1 (fun v0 g2 h2 => ?_)
    refine ml_mk StP.lf h2 (fun e2 g3 h3 => pl_neg (by decide) ?_) (fun e2 g3 r3 h3 => pl_pos (by decide) (kWT.b h3))
    refine ml_pa h3.gd (pl_if (fun _ => ?_) (fun _ => trivial))
    exact (h3.sv (x := w.2.1 (sk (ww w (p + 1) 48) (p + 1)))).fin
  refine pl_if (fun e => ?_) (fun n44 => ?_)
  · have ex : x3 = 44 := i32e (e.trans rfl)
    rw [e, show 100 + (44 : Int).toNat = 144 from rfl, tv_144, b2_o]
    rw [show x4 = 35 by rw [hx, ex]; rfl] at h1
    exact ml_mu StP.lf h1 (fun e2 g2 h2 => h2.fin) (fun e2 g2 r2 h2 => kWT.b h2)
  refine pl_if (fun e => ?_) (fun n45 => ?_)
  · have ex : x3 = 45 := i32e (e.trans rfl)
    rw [e, show 100 + (45 : Int).toNat = 145 from rfl, tv_145, b2_o]
    rw [show x4 = 36 by rw [hx, ex]; rfl] at h1
    exact h1.fin
  refine pl_if (fun e => ?_) (fun n46 => ?_)
  · have ex : x3 = 46 := i32e (e.trans rfl)
    rw [e, show 100 + (46 : Int).toNat = 146 from rfl, tv_146, b2_o]
    rw [show x4 = 37 by rw [hx, ex]; rfl] at h1
    exact h1.fin
  refine pl_if (fun e => ?_) (fun n47 => absurd hr (by omega))
  have ex : x3 = 47 := i32e (e.trans rfl)
  rw [e, show 100 + (47 : Int).toNat = 147 from rfl]
  rw [show x4 = 38 by rw [hx, ex]; rfl] at h1
  exact pl_n (zM_compute h1) (fun _ _ _ e => e) (fun g4 r4 e4 => e4)
theorem zM_statement (h : StP w f P0 n0 D0 K0 N0 t0 (t, v, dd, F) l p g r) (hb : wb w p = true) : pl (ev L xs (m + 1) d nM_statement [.ref cM, .int (Int32.ofNat v)] g r) (kWT w f P0 n0 D0 K0 N0 t0 (b2 (tv w (100 + (w.2.1 p).toInt.toNat) p none []) fun q _ T => cu w ((t, v, dd, F) :: l) q T)) kN := by
  cases d with
  | zero => trivial
  | succ d =>
    have hG := h.gd
    rw [qM_statement, hG.nat, hG.1.mrd.2.1, hG.pla]
    obtain ⟨hp, -, hv⟩ := wb_iff.mp hb
    have h1 := StP.lf.2 _ _ _ h hp
    rw [hG.pla] at h1
    refine pl_if (fun _ => ?_) (fun _ => trivial)
    refine pl_in (fun c1 => ?_) (fun c => zst_160 (by rw [Decidable.not_not.mp c]; rfl) h1 hv)
    refine pl_in (fun c2 => ?_) (fun c => zst_160 (by rw [Decidable.not_not.mp c]; rfl) h1 hv)
    refine pl_in (fun c3 => ?_) (fun c => zst_160 (by rw [Decidable.not_not.mp c]; rfl) h1 hv)
    refine pl_in (fun c4 => ?_) (fun c => zst_160 (by rw [Decidable.not_not.mp c]; rfl) h1 hv)
    refine pl_in (fun c5 => ?_) (fun c => zst_160 (by rw [Decidable.not_not.mp c]; rfl) h1 hv)
    refine pl_in (fun c6 => ?_) (fun c => zst_160 (by rw [Decidable.not_not.mp c]; rfl) h1 hv)
    refine pl_in (fun c7 => ?_) (fun c => zst_160 (by rw [Decidable.not_not.mp c]; rfl) h1 hv)
    refine pl_in (fun c8 => ?_) (fun c => zst_160 (by rw [Decidable.not_not.mp c]; rfl) h1 hv)
    refine pl_in (fun c9 => ?_) (fun c => zst_160 (by rw [Decidable.not_not.mp c]; rfl) h1 hv)
    refine pl_in (fun c10 => ?_) (fun c => zst_160 (by rw [Decidable.not_not.mp c]; rfl) h1 hv)
    refine pl_in (fun c11 => ?_) (fun c => zst_160 (by rw [Decidable.not_not.mp c]; rfl) h1 hv)
    refine pl_in (fun c12 => ?_) (fun c => zst_160 (by rw [Decidable.not_not.mp c]; rfl) h1 hv)
    refine zst_160 ?_ h1 hv
    unfold skd
    rw [if_neg c1, if_neg c2, if_neg c3, if_neg c4, if_neg c5, if_neg c6, if_neg c7, if_neg c8, if_neg c9, if_neg c10, if_neg c11, if_neg c12]
end
