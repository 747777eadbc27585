/-! The model's pile of open statements, with their trees. -/
/-- an open node: how it lies on the pile (kind, phase), its number, what it says, what hangs below it so far -/
abbrev Ofr : Type := Option (Int32 × Int32) × Nat × TD × Tf
def tdx (dd : TD) (x : Int32) : TD := (dd.1, dd.2.1, dd.2.2.1, x)
noncomputable def enT (w : Ws) (en : Int32) (dd : TD) (F : Tf) (q : Nat) : Option R2 := o2 (sk (ww w q en) q) (nd (tdx dd (sc (ww w q en))) F)
noncomputable def aqT (w : Ws) (one : Int32) (k2 : Nat) (en : Int32) (dd : TD) (F : Tf) (q : Nat) : Option R2 := if ww w q one then b2 (tv w 10 (q + k2) none []) (fun q _ c => enT w en dd (F ++ c) q) else enT w en dd F q
noncomputable def if1T (w : Ws) (dd : TD) (F : Tf) (q : Nat) : Option R2 := if ww w q 53 then b2 (tv w 13 (q + 1) none []) (fun q _ c => enT w 73 dd (F ++ c) q) else enT w 73 dd F q
/-- what is left of one that lies there -/
noncomputable def pcT (w : Ws) (k ph : Int32) (dd : TD) (F : Tf) (q : Nat) : Option R2 :=
  if k = 37 then (if 0 < ph.toInt then enT w 72 dd F q else aqT w 50 2 72 dd F q)
  else if k = 41 then (if 0 < ph.toInt then enT w 76 dd F q else aqT w 61 2 76 dd F q)
  else if k = 42 then (if 0 < ph.toInt then enT w 77 dd F q else aqT w 62 1 77 dd F q)
  else if k = 38 then (if ph = 2 then enT w 73 dd F q else if ph = 1 then if1T w dd F q else b2 (tv w 13 q none []) (fun q _ b => if1T w dd (F ++ b) q))
  else if k = 39 then (if ph = 0 then b2 (tv w 10 q none []) (fun q _ c => o2 (q + 1) (nd (tdx dd 1) (F ++ c))) else o2 (q + 1) (nd (tdx dd 1) F))
  else b2 (tv w 14 q none F) (fun q _ b => enT w 75 dd b q)
/-- what is left of all that is open, G just hung below the innermost -/
noncomputable def cu (w : Ws) : List Ofr → Nat → Tf → Option R2
  | [], q, G => o2 q G
  | (none, _, dd, F) :: l, q, G => cu w l q (nd dd (F ++ G))
  | (some (k, ph), _, dd, F) :: l, q, G => if k = 0 then b2 (tv w 11 q none (F ++ G)) (fun q _ b => if l = [] then o2 q b else cu w l q (nd dd b)) else b2 (pcT w k ph dd (F ++ G) q) (fun q _ T => cu w l q T)
theorem cu_g (w : Ws) (t : Option (Int32 × Int32)) (v : Nat) (dd : TD) (F G : Tf) (l : List Ofr) (q : Nat) : cu w ((t, v, dd, F) :: l) q G = cu w ((t, v, dd, F ++ G) :: l) q [] := by
  match t with
  | none =>
    show cu w l q (nd dd (F ++ G)) = cu w l q (nd dd (F ++ G ++ []))
    rw [List.append_nil]
  | some (k, ph) =>
    show (if k = 0 then b2 (tv w 11 q none (F ++ G)) (fun q _ b => if l = [] then o2 q b else cu w l q (nd dd b)) else b2 (pcT w k ph dd (F ++ G) q) (fun q _ T => cu w l q T)) = (if k = 0 then b2 (tv w 11 q none (F ++ G ++ [])) (fun q _ b => if l = [] then o2 q b else cu w l q (nd dd b)) else b2 (pcT w k ph dd (F ++ G ++ []) q) (fun q _ T => cu w l q T))
    rw [List.append_nil]
theorem cu_s (w : Ws) {k ph : Int32} (hk : k ≠ 0) (v : Nat) (dd : TD) (F : Tf) (l : List Ofr) (q : Nat) : cu w ((some (k, ph), v, dd, F) :: l) q [] = b2 (pcT w k ph dd F q) (fun q _ T => cu w l q T) := by
  show (if k = 0 then _ else _) = _
  rw [if_neg hk, List.append_nil]
theorem cu_l (w : Ws) (ph : Int32) (v : Nat) (dd : TD) (F : Tf) (l : List Ofr) (q : Nat) : cu w ((some (0, ph), v, dd, F) :: l) q [] = b2 (tv w 11 q none F) (fun q _ b => if l = [] then o2 q b else cu w l q (nd dd b)) := by
  show (if (0 : Int32) = 0 then _ else _) = _
  rw [if_pos rfl, List.append_nil]
theorem cu_n (w : Ws) (v : Nat) (dd : TD) (F : Tf) (l : List Ofr) (q : Nat) : cu w ((none, v, dd, F) :: l) q [] = cu w l q (nd dd F) := by
  show cu w l q (nd dd (F ++ [])) = _
  rw [List.append_nil]
/-- a list's phase doesn't matter -/
theorem cu_p (w : Ws) (ph ph' : Int32) (v : Nat) (dd : TD) (F : Tf) (l : List Ofr) (q : Nat) (G : Tf) : cu w ((some (0, ph), v, dd, F) :: l) q G = cu w ((some (0, ph'), v, dd, F) :: l) q G := by
  rw [cu_g, cu_l, cu_g w (some (0, ph')), cu_l]
abbrev Tg : Type := Option (Int32 × Int32) × Nat
def tg (l : List Ofr) : List Tg := l.map (fun x => (x.1, x.2.1))
def pct : List Tg → Nat
  | [] => 0
  | (none, _) :: l => pct l
  | (some _, _) :: l => pct l + 1
def lct : List Tg → Nat
  | [] => 0
  | (none, _) :: l => lct l
  | (some (k, _), _) :: l => lct l + (if k = 0 then 1 else 0)
def PlR : List Tg → a2_A → Prop
  | [], _ => True
  | (none, _) :: l, r => PlR l r
  | (some (k, ph), v) :: l, r => ((r fM_pileKind).2 (pct l) = k ∧ (r fM_pilePhase).2 (pct l) = ph ∧ (r fM_pileNode).2 (pct l) = Int32.ofNat v) ∧ PlR l r
def okF : List Tg → Prop
  | [] => False
  | [fr] => ∃ ph, fr.1 = some (0, ph)
  | fr :: fr' :: l => (∀ k ph, fr.1 = some (k, ph) → Vk k ph) ∧ okF (fr' :: l)
def PlX (l : List Tg) (g : a2_G) (r : a2_A) : Prop := PlR l r ∧ (g fM_piled).toInt = (pct l : Int) ∧ ((g fM_level).toInt + 1 = (lct l : Int) ∧ lct l ≤ 41) ∧ okF l
theorem PlR.fr : ∀ {l : List Tg} {r r' : a2_A}, PlR l r → (∀ i, i < pct l → (r' fM_pileKind).2 i = (r fM_pileKind).2 i ∧ (r' fM_pilePhase).2 i = (r fM_pilePhase).2 i ∧ (r' fM_pileNode).2 i = (r fM_pileNode).2 i) → PlR l r'
  | [], _, _, _, _ => trivial
  | (none, v) :: l, r, r', h, hy => PlR.fr (l := l) h hy
  | (some (k, ph), v) :: l, r, r', h, hy => by
    obtain ⟨h1, h2⟩ := h
    obtain ⟨a, b, c⟩ := hy (pct l) (Nat.lt_succ_self _)
    refine ⟨?_, PlR.fr (l := l) h2 (fun i hi => hy i (Nat.lt_succ_of_lt hi))⟩
    rw [a, b, c]
    exact h1
theorem PlX.z {l : List Tg} {g g' : a2_G} {r r' : a2_A} (h : PlX l g r) (hF : Fz g r g' r') : PlX l g' r' := by
  obtain ⟨h1, h2, h3, h4⟩ := h
  refine ⟨h1.fr (fun i _ => ?_), ?_, ?_, h4⟩
  · rw [hF.1.2 fM_pileKind (by decide), hF.1.2 fM_pilePhase (by decide), hF.1.2 fM_pileNode (by decide)]
    exact ⟨rfl, rfl, rfl⟩
  · rw [hF.1.1 fM_piled (by decide)]
    exact h2
  · rw [hF.2]
    exact h3
theorem lct_pos : ∀ {l : List Tg}, okF l → 1 ≤ lct l
  | [], h => h.elim
  | [fr], h => by
    obtain ⟨ph, e⟩ := h
    obtain ⟨t, v⟩ := fr
    cases e
    show 1 ≤ 0 + (if (0 : Int32) = 0 then 1 else 0)
    rw [if_pos rfl]
    exact Nat.le_refl _
  | (none, v) :: fr' :: l, h => lct_pos (l := fr' :: l) h.2
  | (some (k, ph), v) :: fr' :: l, h => by
    have := lct_pos (l := fr' :: l) h.2
    show 1 ≤ lct (fr' :: l) + _
    omega
theorem PlX.lv {l : List Tg} {g : a2_G} {r : a2_A} (h : PlX l g r) : ∃ lb : Nat, (g fM_level).toInt = (lb : Int) ∧ lb ≤ 40 := by
  have h1 := lct_pos h.2.2.2
  have h2 := h.2.2.1
  exact ⟨lct l - 1, by omega, by omega⟩
/-- open nodes, each hung below the one before -/
def Ups (P0 : Nat → Prop) (n0 : Nat) (D0 : Nat → TD) (K0 : Nat → List Nat) (N0 : Nat → Int32) (t0 : Nat × TD) : List Ofr → (Nat → Prop) → Nat → (Nat → TD) → (Nat → List Nat) → (Nat → Int32) → Nat → TD → Prop
  | [], P, n, D, K, N, v, dd => P = P0 ∧ n = n0 ∧ D = D0 ∧ K = K0 ∧ N = N0 ∧ v = t0.1 ∧ dd = t0.2
  | fr :: l, P, n, D, K, N, v, dd => ∃ Pp np Dp Kp Np K1, Ups P0 n0 D0 K0 N0 t0 l Pp np Dp Kp Np fr.2.1 fr.2.2.1 ∧ Vw Pp np Dp Kp fr.2.1 (nd fr.2.2.1 fr.2.2.2) n D K1 ∧ K = fK K1 fr.2.1 (K1 fr.2.1 ++ [n]) ∧ v = n ∧ P = (fun j => j = fr.2.1) ∧ (∀ y, y < np → N y = Np y) ∧ 1 ≤ np ∧ dd.1 ≠ 53
def StP (w : Ws) (f : Gh) (P0 : Nat → Prop) (n0 : Nat) (D0 : Nat → TD) (K0 : Nat → List Nat) (N0 : Nat → Int32) (t0 : Nat × TD) (fr : Ofr) (l : List Ofr) (q : Nat) (g : a2_G) (r : a2_A) : Prop := (∃ P n D K N, Ups P0 n0 D0 K0 N0 t0 l P n D K N fr.2.1 fr.2.2.1 ∧ 1 ≤ n ∧ Wn P w f n D K N q fr.2.1 (nd fr.2.2.1 fr.2.2.2) g r) ∧ PlX (tg (fr :: l)) g r
section
variable {L : Nat} {xs : Nat → Int32} {m d k : Nat} {w : Ws} {f : Gh} {p q : Nat} {g g' : a2_G} {r r' : a2_A} {kv : Int32 → a2_G → a2_A → Option fn_Z} {kn : a2_G → a2_A → Option fn_Z} {kw : Int32 → a2_G → a2_A → Option fn_Z} {Q : Option Value → a2_G → a2_A → Prop} {X : Nat → a2_G → a2_A → Prop} {n : Nat} {D : Nat → TD} {K : Nat → List Nat} {N : Nat → Int32} {P : Nat → Prop} {v : Nat} {dd : TD} {F T : Tf} {P0 : Nat → Prop} {n0 : Nat} {D0 : Nat → TD} {K0 : Nat → List Nat} {N0 : Nat → Int32} {t0 : Nat × TD} {t : Option (Int32 × Int32)} {l : List Ofr} {fr : Ofr}
theorem StP.gd (h : StP w f P0 n0 D0 K0 N0 t0 fr l q g r) : Gd w f q g r := by
  obtain ⟨⟨P, n, D, K, N, -, -, hW⟩, -⟩ := h
  exact hW.gd
theorem StP.lf : LfM w f (fun q => StP w f P0 n0 D0 K0 N0 t0 fr l q) := ⟨fun _ _ _ h => h.gd, fun _ _ _ h hp => by
  obtain ⟨⟨P, n, D, K, N, hU, hn, hW⟩, hX⟩ := h
  exact ⟨⟨P, n, D, K, N, hU, hn, Wn.lf.2 _ _ _ hW hp⟩, hX.z (Fe.at _).z⟩⟩
theorem StP.vn (h : StP w f P0 n0 D0 K0 N0 t0 (t, v, dd, F) l q g r) : (Int32.ofNat v).toNatClampNeg = v := by
  obtain ⟨⟨P, n, D, K, N, -, -, hW⟩, -⟩ := h
  exact hW.vn.1
theorem sp_oi (h : StP w f P0 n0 D0 K0 N0 t0 (t, v, dd, F) l q g r) (h1 : ∀ g' r', StP w f P0 n0 D0 K0 N0 t0 (t, v, dd, F ++ l1 (od w q)) l (q + 1) g' r' → wo w q = true → pl (kn g' r') Q X) (h0 : ∀ b g' r', Bd w f b g' r' → pl (kn g' r') Q X) : pl (fn_n (ev L xs (m + 1) d nM_operandOf [.ref cM, .int (Int32.ofNat v)] g r) kn) Q X := by
  obtain ⟨⟨P, n, D, K, N, hU, hn, hW⟩, hX⟩ := h
  refine pl_n (pl_and (xM_operandOf _ hW.gd) (zM_operandOf hn hW)) (fun _ _ _ e => e.1.elim) (fun g2 r2 e => ?_)
  obtain ⟨⟨-, e2, e3⟩, e4⟩ := e
  rcases e4 with ⟨b, e4⟩ | e4
  · exact h0 b g2 r2 e4
  · refine h1 g2 r2 ⟨⟨P, n, D, K, N, hU, hn, e4.1⟩, hX.z e3.z⟩ ?_
    by_cases c : wo w q = true
    · exact c
    · rw [if_neg c] at e2
      have h1 := e2.2.2.1
      have h2 := e4.1.gd.2.2.1
      rw [h2] at h1
      exact absurd h1 (by decide)
theorem zM_child4 {a1 a2 a3 : Int32} (e0 : Int32) (he : st38 a1 → e0 = 0) (hn : 1 ≤ n) (h : Wn P w f n D K N p v (nd dd F) g r) (he53 : a1 = 53 → e0 = -1 := by intro h; first | rfl | exact absurd h (by decide)) : pl (ev L xs (m + 1) d nM_child4 [.ref cM, .int (Int32.ofNat v), .int a1, .int a2, .int a3] g r) (fun o g' r' => Wn P w f n D K N p v (nd dd (F ++ l1 (a1, a2, a3, e0))) g' r') kN := by
  cases d with
  | zero => trivial
  | succ d =>
    rw [qM_child4]
    obtain ⟨n1, D1, K1, hA, hq, hN⟩ := h
    refine ml_nm e0 he hA (fun g1 r1 h1 => ?_) he53
    exact ml_hg hn hq hN h1 (fun g2 r2 h2 => h2)
theorem xA_child4 (a0 a1 a2 a3 : Int32) (h : Gd w f p g r) : pl (ev L xs (m + 1) d nM_child4 [.ref cM, .int a0, .int a1, .int a2, .int a3] g r) (fun o g' r' => Fe g r g' r') kN := by
  cases d with
  | zero => trivial
  | succ d =>
    rw [qM_child4]
    refine pm_nm h (fun v g2 r2 hv h2 f2 => ?_)
    exact pm_na h2 (fun g3 r3 h3 f3 => f2.trans f3)
theorem sp_ch {a1 a2 a3 : Int32} (e0 : Int32) (he : st38 a1 → e0 = 0) (h : StP w f P0 n0 D0 K0 N0 t0 (t, v, dd, F) l q g r) (hk : ∀ g' r', StP w f P0 n0 D0 K0 N0 t0 (t, v, dd, F ++ l1 (a1, a2, a3, e0)) l q g' r' → pl (kn g' r') Q X) (he53 : a1 = 53 → e0 = -1 := by intro h; first | rfl | exact absurd h (by decide)) : pl (fn_n (ev L xs (m + 1) d nM_child4 [.ref cM, .int (Int32.ofNat v), .int a1, .int a2, .int a3] g r) kn) Q X := by
  obtain ⟨⟨P, n, D, K, N, hU, hn, hW⟩, hX⟩ := h
  refine pl_n (pl_and (xA_child4 _ a1 a2 a3 hW.gd) (zM_child4 e0 he hn hW he53)) (fun _ _ _ e => e.1.elim) (fun g2 r2 e => ?_)
  exact hk g2 r2 ⟨⟨P, n, D, K, N, hU, hn, e.2⟩, hX.z e.1.z⟩
/-- a node's own name as a child -/
theorem sp_nc (h : StP w f P0 n0 D0 K0 N0 t0 (t, v, dd, F) l (q + 1) g r) (hk : ∀ g' r', StP w f P0 n0 D0 K0 N0 t0 (t, v, dd, F ++ l1 (nm w 41 q)) l (q + 1) g' r' → pl (kn g' r') Q X) : pl (fn_v (ev L xs (m + 1) d nM_passed [.ref cM] g r) fun v0 g1 r1 => fn_n (ev L xs (m + 1) d nM_child4 [.ref cM, .int (Int32.ofNat v), .int 41, .int (100000 + v0), .int (g1 fM_at - 1)] g1 r1) kn) Q X := by
  have hG := h.gd
  refine ml_pa hG ?_
  have ea : g fM_at - 1 = Int32.ofNat q := by
    refine Int32.toInt_inj.mp ?_
    have := hG.2.2.2.1
    have := hG.le
    rw [i32_dec (x := g fM_at) (by omega), on_eq (by omega)]
    omega
  rw [ea]
  exact sp_ch (-1) (fun q => absurd q.2 (by decide)) h hk
theorem sp_nm {b : Int32} (hb : ¬ st38 b) {tt : Nat} (ht : ∀ p a, tv w tt p none a = if wk w p 1 then tv w tt (p + 1) none (a ++ l1 (nm w b p)) else o2 p a) (h : StP w f P0 n0 D0 K0 N0 t0 (t, v, dd, F) l q g r) (h1 : ∀ q' s T g' r', tv w tt q none F = some (q', s, T) → StP w f P0 n0 D0 K0 N0 t0 (t, v, dd, T) l q' g' r' → pl (kn g' r') Q X) (h0 : ∀ b g' r', Bd w f b g' r' → pl (kn g' r') Q X) : pl (fn_n (ev L xs (m + 1) d nM_names [.ref cM, .int (Int32.ofNat v), .int b] g r) kn) Q X := by
  obtain ⟨⟨P, n, D, K, N, hU, hn, hW⟩, hX⟩ := h
  refine pl_n (pl_and (xM_names L xs 0 _ b hW.gd) (zM_names L xs hb hn ht hW)) (fun _ _ _ e => e.1.elim) (fun g2 r2 e => ?_)
  obtain ⟨⟨-, -, e3⟩, -, ⟨b, e4⟩ | ⟨q', s, T, ez, e4⟩⟩ := e
  · exact h0 b g2 r2 e4
  · exact h1 q' s T g2 r2 ez ⟨⟨P, n, D, K, N, hU, hn, e4⟩, hX.z e3.z⟩
theorem sp_cd (h : StP w f P0 n0 D0 K0 N0 t0 (t, v, dd, F) l q g r) (h1 : ∀ q' s T g' r', tv w 5 q none [] = some (q', s, T) → StP w f P0 n0 D0 K0 N0 t0 (t, v, dd, F ++ T) l q' g' r' → pl (kn g' r') Q X) (h0 : ∀ b g' r', Bd w f b g' r' → pl (kn g' r') Q X) : pl (fn_n (ev L xs (m + 1) d nM_conditionOf [.ref cM, .int (Int32.ofNat v)] g r) kn) Q X := by
  obtain ⟨⟨P, n, D, K, N, hU, hn, hW⟩, hX⟩ := h
  obtain ⟨lb, hl, hl4⟩ := hX.lv
  refine pl_n (pl_and (xM_conditionOf _ hW.gd hl hl4) (zM_conditionOf hn hW)) (fun _ _ _ e => e.1.elim) (fun g2 r2 e => ?_)
  obtain ⟨⟨-, fc, e3⟩, -, ⟨b, e4⟩ | ⟨q', s, T, ez, e4⟩⟩ := e
  · exact h0 b g2 r2 e4
  · cases hz : tv w 5 q none [] with
    | none =>
      rw [hz] at ez
      cases ez
    | some x =>
      obtain ⟨q1, s1, T1⟩ := x
      rw [hz, b2_s] at ez
      cases ez
      refine h1 _ _ _ g2 r2 hz ⟨⟨P, n, D, K, N, hU, hn, e4⟩, hX.z ⟨Fc.y fc, ?_⟩⟩
      rcases e3 with ⟨q2, s2, -, h2, l2⟩ | ⟨b, -, h2⟩
      · exact i32e (l2.trans hl.symm)
      · have a1 := h2.2.2.1
        have a2 := e4.gd.2.2.1
        rw [a2] at a1
        exact absurd a1 (by decide)
theorem Wn.sx {kd v0 pp ee x : Int32} (h53 : kd ≠ 53) (h : Wn P w f n D K N p v (nd (kd, v0, pp, ee) F) g r) : Wn P w f n D K N p v (nd (kd, v0, pp, x) F) g (a2_ua r fM_extra ((r fM_extra).1, upd (r fM_extra).2 v x)) := by
  obtain ⟨n', D', K', hA, hq, hN⟩ := h
  have rv := hq.2.2.1.rg
  have ed := hq.2.2.1.da
  have hM := hA.2.2.2.2.dt (r' := a2_ua r fM_extra ((r fM_extra).1, upd (r fM_extra).2 v x)) (i := v) (d' := (kd, v0, pp, x)) (by omega) (fun y => if_id' (f := (r fM_kind).2) (by have := (hA.2.2.2.2.1 v (by omega)).1; rw [ed] at this; exact this) y) (fun y => if_id' (f := (r fM_value).2) (by have := (hA.2.2.2.2.1 v (by omega)).2.1; rw [ed] at this; exact this) y) rfl (by rw [ed]) (fun y hy => upd_ne (f := (r fM_extra).2) hy) (fun e => upd_eq (f := (r fM_extra).2)) rfl rfl rfl rfl (Or.inl (by rw [ed])) (fun e => absurd e h53)
  exact ⟨n', _, K', ⟨hA.1.ua (by decide) (by rfl), hA.2.1, hA.2.2.1, hA.2.2.2.1, hM⟩, hq.sd, hN⟩
theorem StP.sv {kd v0 pp ee x : Int32} (h : StP w f P0 n0 D0 K0 N0 t0 (t, v, (kd, v0, pp, ee), F) (fr :: l) q g r) : StP w f P0 n0 D0 K0 N0 t0 (t, v, (kd, x, pp, ee), F) (fr :: l) q g (a2_ua r fM_value ((r fM_value).1, upd (r fM_value).2 v x)) := by
  obtain ⟨⟨P, n, D, K, N, hU, hn, hW⟩, hX⟩ := h
  exact ⟨⟨P, n, D, K, N, hU, hn, hW.sv⟩, hX.z (Fm.z (Fm.rf.ua (by decide)))⟩
theorem StP.sx {x : Int32} (h : StP w f P0 n0 D0 K0 N0 t0 (t, v, dd, F) (fr :: l) q g r) : StP w f P0 n0 D0 K0 N0 t0 (t, v, tdx dd x, F) (fr :: l) q g (a2_ua r fM_extra ((r fM_extra).1, upd (r fM_extra).2 v x)) := by
  obtain ⟨⟨P, n, D, K, N, hU, hn, hW⟩, hX⟩ := h
  obtain ⟨_, _, _, _, _, _, _, _, _, _, _, _, _, h53⟩ := id hU
  exact ⟨⟨P, n, D, K, N, hU, hn, Wn.sx (kd := dd.1) (v0 := dd.2.1) (pp := dd.2.2.1) (ee := dd.2.2.2) h53 hW⟩, hX.z (Fm.z (Fm.rf.ua (by decide)))⟩
/-- a node made and hung below the innermost: the innermost now -/
theorem op_w {a1 a2 a3 : Int32} (e0 : Int32) (he : st38 a1 → e0 = 0) (t : Option (Int32 × Int32)) (hU : Ups P0 n0 D0 K0 N0 t0 l P n D K N v dd) (hn : 1 ≤ n) (hW : Wn P w f n D K N q v (nd dd F) g r) (hk : ∀ u g' r', (∃ P n D K N, Ups P0 n0 D0 K0 N0 t0 ((t, v, dd, F) :: l) P n D K N u (a1, a2, a3, e0) ∧ 1 ≤ n ∧ Wn P w f n D K N q u (nd (a1, a2, a3, e0) []) g' r') → Fe g r g' r' → pl (kw (Int32.ofNat u) g' r') Q X) (h53 : a1 ≠ 53 := by decide) : pl (fn_v (ev L xs (m + 1) d nM_make [.ref cM, .int a1, .int a2, .int a3] g r) fun v1 g1 r1 => fn_n (ev L xs (m + 1) d nM_attach [.ref cM, .int (Int32.ofNat v), .int v1] g1 r1) fun g2 r2 => kw v1 g2 r2) Q X := by
  obtain ⟨n1, D1, K1, hA, hq, hN⟩ := hW
  refine pl_v (zM_make a1 a2 a3 he hA.ml hA.2 (fun e => absurd e h53)) (fun _ _ _ e => e.elim) (fun x g1 r1 e => ?_)
  obtain ⟨e1, e2, e3, e4, e5, e6⟩ := e
  cases e1
  have hu : Wn NP w f n1 D1 K1 (r fM_next).2 q n1 (nd (a1, a2, a3, e0) []) g1 r1 := ⟨n1 + 1, _, _, ⟨hA.1.nd e4 (fun k hk => by rw [e3, upd_ne hk]) (by have := e2.1; omega) e6, e2⟩, Vw.nw (fun j hj x hx => (hA.2.2.2.2.kid hj hx).2), fun y hy => by rw [e5, upd_ne (by omega)]⟩
  have f1 : Fm [fM_nodes] WEa g r g1 r1 := ⟨fun k hk => by rw [e3, upd_ne (fun e => hk (by rw [e]; exact List.mem_singleton.mpr rfl))], e6⟩
  obtain ⟨n2, D2, K2, hA2, hu2, hN2⟩ := hu
  have ru := hu2.2.2.1.rg
  have rv := hq.2.2.1.rg
  have h1 := hu2.1
  have h2 := hq.1
  refine pl_n (zM_attach (i := v) (c := n1) (by omega) (by omega) (by omega) (fun j hj hx => hu2.2.2.2.1 j hj hx) hA2.ml hA2.2) (fun _ _ _ e => e.elim) (fun g2 r2 e => ?_)
  obtain ⟨-, k2, rfl, k4, k5, k6⟩ := e
  have fA : Fe g r g2 r2 := (Fn.e f1).trans (Fn.e ⟨fun _ _ => rfl, k6⟩)
  refine hk n1 g2 r2 ⟨fun j => j = v, n1, D1, fK K1 v (K1 v ++ [n1]), (r2 fM_next).2, ⟨P, n, D, K, N, K1, hU, hq, rfl, rfl, rfl, fun y hy => ?_, hn, h53⟩, by omega, n2, D2, _, ⟨hA2.1.nd k4 (fun _ _ => rfl) (by have := hA2.2.1; have := hA2.2.2.1; omega) k6, k2⟩, Vw.h2 rv.2 hu2, fun y hy => rfl⟩ fA
  rw [k5 y (by omega) (fun hx => ?_), hN2 y (by omega), hN y hy]
  rw [(hu2.2.1 v (by omega)).1] at hx
  have := hq.2.2.2.2 v rv.1 rv.2 y hx
  omega
theorem sp_op {a1 a2 a3 : Int32} (e0 : Int32) (he : st38 a1 → e0 = 0) (h : StP w f P0 n0 D0 K0 N0 t0 (t, v, dd, F) l q g r) (hk : ∀ u g' r', StP w f P0 n0 D0 K0 N0 t0 (none, u, (a1, a2, a3, e0), []) ((t, v, dd, F) :: l) q g' r' → pl (kw (Int32.ofNat u) g' r') Q X) (h53 : a1 ≠ 53 := by decide) : pl (fn_v (ev L xs (m + 1) d nM_make [.ref cM, .int a1, .int a2, .int a3] g r) fun v1 g1 r1 => fn_n (ev L xs (m + 1) d nM_attach [.ref cM, .int (Int32.ofNat v), .int v1] g1 r1) fun g2 r2 => kw v1 g2 r2) Q X := by
  obtain ⟨⟨P, n, D, K, N, hU, hn, hW⟩, hX⟩ := h
  refine op_w e0 he t hU hn hW (fun u g2 r2 hu fA => ?_) h53
  obtain ⟨x1, x2, x3, x4⟩ := hX.z fA.z
  exact hk u g2 r2 ⟨hu, x1, x2, x3, ⟨(fun k ph e => nomatch e), x4⟩⟩
/-- the innermost is done -/
theorem Ups.cl {t' : Option (Int32 × Int32)} {v' : Nat} {dd' : TD} {F' : Tf} (hU : Ups P0 n0 D0 K0 N0 t0 ((t', v', dd', F') :: l) P n D K N v dd) (hW : Wn P w f n D K N q v T g r) : ∃ P1 n1 D1 K1 N1, Ups P0 n0 D0 K0 N0 t0 l P1 n1 D1 K1 N1 v' dd' ∧ 1 ≤ n1 ∧ Wn P1 w f n1 D1 K1 N1 q v' (nd dd' (F' ++ T)) g r := by
  obtain ⟨Pp, np, Dp, Kp, Np, K1, h1, h2, rfl, rfl, rfl, h6, h7, -⟩ := hU
  exact ⟨Pp, np, Dp, Kp, Np, h1, h7, Wn.bk h2 h6 hW⟩
theorem StP.cn {t' : Option (Int32 × Int32)} {v' : Nat} {dd' : TD} {F' : Tf} (h : StP w f P0 n0 D0 K0 N0 t0 (none, v, dd, F) ((t', v', dd', F') :: l) q g r) : StP w f P0 n0 D0 K0 N0 t0 (t', v', dd', F' ++ nd dd F) l q g r := by
  obtain ⟨⟨P, n, D, K, N, hU, hn, hW⟩, x1, x2, x3, x4⟩ := h
  exact ⟨hU.cl hW, x1, x2, x3, x4.2⟩
/-- put on the pile -/
theorem sp_pi {c : Int32} (hc : c = 37 ∨ c = 38 ∨ c = 39 ∨ c = 40 ∨ c = 41 ∨ c = 42) (h : StP w f P0 n0 D0 K0 N0 t0 (none, v, dd, F) (fr :: l) q g r) (hk : ∀ g' r', StP w f P0 n0 D0 K0 N0 t0 (some (c, 0), v, dd, F) (fr :: l) q g' r' → pl (kn g' r') Q X) : pl (fn_n (ev L xs (m + 1) d nM_pile [.ref cM, .int c, .int (Int32.ofNat v)] g r) kn) Q X := by
  obtain ⟨⟨P, n, D, K, N, hU, hn, hW⟩, x1, x2, x3, x4⟩ := h
  have hG := hW.gd
  refine pl_n (Q1 := fun o g' r' => pct (tg (fr :: l)) < 128 ∧ g' = upd g fM_piled (g fM_piled + 1) ∧ r' = (a2_ua (a2_ua (a2_ua r fM_pileKind ((r fM_pileKind).1, (upd (r fM_pileKind).2 (pct (tg (fr :: l))) c))) fM_pileNode ((r fM_pileNode).1, (upd (r fM_pileNode).2 (pct (tg (fr :: l))) (Int32.ofNat v)))) fM_pilePhase ((r fM_pilePhase).1, (upd (r fM_pilePhase).2 (pct (tg (fr :: l))) 0)))) (X1 := kN) ?_ (fun _ _ _ e => e.elim) (fun g2 r2 e => ?_)
  · cases d with
    | zero => trivial
    | succ d =>
      rw [qM_pile]
      refine pl_if (fun ci => pl_if (fun _ => pl_if (fun _ => ?_) (fun _ => trivial)) (fun _ => trivial)) (fun _ => trivial)
      have x2' : (g fM_piled).toInt = (pct (tg (fr :: l)) : Int) := x2
      rw [inr_eq, hG.1.2.1.at 25, x2'] at ci
      rw [tn_at x2']
      exact ⟨by omega, rfl, rfl⟩
  · obtain ⟨hn2, rfl, rfl⟩ := e
    have x2' : (g fM_piled).toInt = (pct (tg (fr :: l)) : Int) := x2
    have hc0 : c ≠ 0 := by rcases hc with rfl | rfl | rfl | rfl | rfl | rfl <;> decide
    refine hk _ _ ⟨⟨P, n, D, K, N, hU, hn, ?_⟩, ⟨⟨⟨upd_eq, upd_eq, upd_eq⟩, PlR.fr (l := tg (fr :: l)) x1 (fun i hi => ⟨upd_ne (f := (r fM_pileKind).2) (by omega), upd_ne (f := (r fM_pilePhase).2) (by omega), upd_ne (f := (r fM_pileNode).2) (by omega)⟩)⟩, ?_, ?_, ⟨?_, x4.2⟩⟩⟩
    · obtain ⟨n', D', K', hA, hq, hN⟩ := hW
      exact ⟨n', D', K', (((hA.ug (by decide)).ua (by decide) (by decide) (by rfl)).ua (by decide) (by decide) (by rfl)).ua (by decide) (by decide) (by rfl), hq, hN⟩
    · show (g fM_piled + 1).toInt = ((pct (tg (fr :: l)) + 1 : Nat) : Int)
      rw [i32_inc (by omega), x2']
      rfl
    · have e : lct ((some (c, 0), v) :: tg (fr :: l)) = lct (tg (fr :: l)) := by
        show lct (tg (fr :: l)) + (if c = 0 then 1 else 0) = _
        rw [if_neg hc0]
        rfl
      show (g fM_level).toInt + 1 = (lct ((some (c, 0), v) :: tg (fr :: l)) : Int) ∧ lct ((some (c, 0), v) :: tg (fr :: l)) ≤ 41
      rw [e]
      exact x3
    · intro k ph e
      cases e
      rcases hc with rfl | rfl | rfl | rfl | rfl | rfl
      · exact Or.inr (Or.inr ⟨Or.inl rfl, Or.inl rfl⟩)
      · exact Or.inr (Or.inr ⟨Or.inr (Or.inl rfl), Or.inl rfl⟩)
      · exact Or.inr (Or.inr ⟨Or.inr (Or.inr (Or.inl rfl)), Or.inl rfl⟩)
      · exact Or.inr (Or.inl rfl)
      · exact Or.inr (Or.inr ⟨Or.inr (Or.inr (Or.inr (Or.inl rfl))), Or.inl rfl⟩)
      · exact Or.inr (Or.inr ⟨Or.inr (Or.inr (Or.inr (Or.inr rfl))), Or.inl rfl⟩)
/-- a step of the pile: what is left is the same -/
def kWT (w : Ws) (f : Gh) (P0 : Nat → Prop) (n0 : Nat) (D0 : Nat → TD) (K0 : Nat → List Nat) (N0 : Nat → Int32) (t0 : Nat × TD) (z : Option R2) : Option Value → a2_G → a2_A → Prop := fun o g r => o = none ∧ ((∃ b, Bd w f b g r) ∨ ∃ k ph v dd F l q, StP w f P0 n0 D0 K0 N0 t0 (some (k, ph), v, dd, F) l q g r ∧ z = cu w ((some (k, ph), v, dd, F) :: l) q [])
theorem kWT.b {z : Option R2} {b : Nat} (h : Bd w f b g r) : kWT w f P0 n0 D0 K0 N0 t0 z none g r := ⟨rfl, Or.inl ⟨b, h⟩⟩
/-- whatever is done on top goes -/
theorem StP.kws : ∀ {l : List Ofr} {fr : Ofr}, StP w f P0 n0 D0 K0 N0 t0 fr l q g r → kWT w f P0 n0 D0 K0 N0 t0 (cu w (fr :: l) q []) none g r
  | l, (some (k, ph), v, dd, F), h => ⟨rfl, Or.inr ⟨k, ph, v, dd, F, l, q, h, rfl⟩⟩
  | [], (none, v, dd, F), h => by
    obtain ⟨ph, e⟩ := h.2.2.2.2
    cases e
  | (t', v', dd', F') :: l, (none, v, dd, F), h => by
    rw [cu_n, cu_g]
    exact StP.kws (l := l) h.cn
end
