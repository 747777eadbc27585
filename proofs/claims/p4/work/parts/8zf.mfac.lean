/-! The model's factors, with their trees. -/
theorem ns53 : ¬ st38 53 := fun q => absurd q.2 (by decide)
/-- a node made, still without children; l waits -/
def Mdl (w : Ws) (f : Gh) (n : Nat) (D : Nat → TD) (K : Nat → List Nat) (N : Nat → Int32) (q : Nat) (l : List (Nat × Tf)) (dd : TD) (v : Nat) (g : a2_G) (r : a2_A) : Prop := ∃ D' K', Am w f q (v + 1) (fD D' v dd) (fK K' v []) g r ∧ Pq n D K l v D' K' ∧ (∀ j, j < v → ∀ x, x ∈ K' j → x < v) ∧ ∀ y, y < n → (r fM_next).2 y = N y
section
variable {L : Nat} {xs : Nat → Int32} {m d k0 : Nat} {w : Ws} {f : Gh} {p : Nat} {g : a2_G} {r : a2_A} {k : Int32 → a2_G → a2_A → Option fn_Z} {kn : a2_G → a2_A → Option fn_Z} {Q : Option Value → a2_G → a2_A → Prop} {X : Nat → a2_G → a2_A → Prop} {n : Nat} {D : Nat → TD} {K : Nat → List Nat} {N : Nat → Int32} {l : List (Nat × Tf)}
theorem ml_md {a1 a2 a3 : Int32} (e0 : Int32) (he : st38 a1 → e0 = 0) (h : Pn w f n D K N p l g r) (hk : ∀ v g' r', Mdl w f n D K N p l (a1, a2, a3, e0) v g' r' → Fm [fM_nodes] WEa g r g' r' → (∀ y, y < v → (r' fM_next).2 y = (r fM_next).2 y) → Fk g r g' r' → pl (k (Int32.ofNat v) g' r') Q X) (he53 : a1 = 53 → e0 = -1 := by intro h; first | rfl | exact absurd h (by decide)) : pl (fn_v (ev L xs (m + 1) d nM_make [.ref cM, .int a1, .int a2, .int a3] g r) k) Q X := by
  obtain ⟨n1, D1, K1, hA, hq, hN⟩ := h
  refine pl_v (zM_make a1 a2 a3 he hA.ml hA.2 he53) (fun _ _ _ e => e.elim) (fun v g' r' e => ?_)
  obtain ⟨e1, e2, e3, e4, e5, e6⟩ := e
  cases e1
  have h1 := hq.1
  refine hk n1 g' r' ⟨D1, K1, ⟨hA.1.nd e4 (fun k hk => by rw [e3, upd_ne hk]) ?_ e6, e2⟩, hq, fun j hj x hx => (hA.2.2.2.2.kid hj hx).2, fun y hy => ?_⟩ ⟨fun k hk => by rw [e3, upd_ne (fun e => hk (by rw [e]; exact List.mem_singleton.mpr rfl))], e6⟩ (fun y hy => by rw [e5, upd_ne (by omega)]) (Fk.of hA.2 e2 (Nat.le_succ _) (fun i hi => fD_ne (by omega)))
  · have := e2.1
    omega
  · rw [e5, upd_ne (by omega)]
    exact hN y hy
theorem Mdl.sr {a b c ee x : Int32} {v t : Nat} (h : Mdl w f n D K N p l (53, a, b, c) v g r) (ht : t < v) (hx : x = Int32.ofNat t) (h41 : (r fM_kind).2 t = 41) (hp : (r fM_place).2 t = ee) : Mdl w f n D K N p l (53, a, b, ee) v g (a2_ua r fM_extra ((r fM_extra).1, upd (r fM_extra).2 v x)) := by
  obtain ⟨D', K', hA, hq, hk, hN⟩ := h
  have ed : fD D' v (53, a, b, c) v = (53, a, b, c) := fD_eq
  have ht' := hA.2.2.2.2.1 t (by omega)
  have hM := hA.2.2.2.2.dt (r' := a2_ua r fM_extra ((r fM_extra).1, upd (r fM_extra).2 v x)) (i := v) (d' := (53, a, b, ee)) (by omega) (fun y => if_id' (f := (r fM_kind).2) (by have := (hA.2.2.2.2.1 v (by omega)).1; rw [ed] at this; exact this) y) (fun y => if_id' (f := (r fM_value).2) (by have := (hA.2.2.2.2.1 v (by omega)).2.1; rw [ed] at this; exact this) y) rfl (by rw [ed]) (fun y hy => upd_ne (f := (r fM_extra).2) hy) (fun e => absurd e.2 (show ¬ (53 : Int32).toInt ≤ 38 by decide)) rfl rfl rfl rfl (Or.inl (by rw [ed])) (fun _ => Or.inr ⟨t, ht, by rw [← hx]; exact upd_eq (f := (r fM_extra).2), by rw [← ht'.1]; exact h41, by rw [← ht'.2.2.1]; exact hp⟩)
  have e2 : fD (fD D' v (53, a, b, c)) v (53, a, b, ee) = fD D' v (53, a, b, ee) := by
    funext j
    by_cases ej : j = v
    · rw [ej, fD_eq, fD_eq]
    · rw [fD_ne ej, fD_ne ej, fD_ne ej]
  rw [e2] at hM
  exact ⟨D', K', ⟨hA.1.ua (by decide) (by rfl), hA.2.1, hA.2.2.1, hA.2.2.2.1, hM⟩, hq, hk, hN⟩
theorem Mdl.gd {dd : TD} {v : Nat} (h : Mdl w f n D K N p l dd v g r) : Gd w f p g r := by
  obtain ⟨D', K', hA, -⟩ := h
  exact hA.1
theorem Mdl.vn {dd : TD} {v : Nat} (h : Mdl w f n D K N p l dd v g r) : (Int32.ofNat v).toNatClampNeg = v ∧ (Int32.ofNat v).toInt = v ∧ n ≤ v := by
  obtain ⟨D', K', hA, hq, -⟩ := h
  have r2 := hA.2.2.2.1
  have := hq.1
  exact ⟨tn_at (on_eq (by omega)), on_eq (by omega), this⟩
/-- what waits last hung below the node just made -/
theorem ml_ma {dd : TD} {v u : Nat} {U : Tf} (hn : 1 ≤ n) (h : Mdl w f n D K N p (l ++ [(u, U)]) dd v g r) (hk : ∀ g' r', Pn w f n D K N p (l ++ [(v, nd dd U)]) g' r' → Fm [fM_nodes] WEa g r g' r' → (∀ y, y < v → y ≠ u → (r' fM_next).2 y = (r fM_next).2 y) → Fk g r g' r' → pl (kn g' r') Q X) : pl (fn_n (ev L xs (m + 1) d nM_attach [.ref cM, .int (Int32.ofNat v), .int (Int32.ofNat u)] g r) kn) Q X := by
  obtain ⟨D1, K1, hA, ⟨a1, a2, a3, a4, a5⟩, hkd, hN⟩ := h
  obtain ⟨m0, s1, s2⟩ := a3.spl
  obtain ⟨m1, t1, t2⟩ := s2
  have t2' : m1 = v := t2
  have ru := t1.rg
  have hs1 := s1.le
  have hdu : ∀ j, j < v + 1 → u ∉ fK K1 v [] j := fun j hj hx => by
    by_cases e : j = v
    · rw [e, fK_eq] at hx
      cases hx
    · rw [fK_ne e] at hx
      exact a4 (u, U) (List.mem_append_right _ List.mem_cons_self) j (by omega) hx
  have ru' : m0 ≤ u ∧ u < m1 := ru
  refine pl_n (zM_attach (i := v) (c := u) (by omega) (by omega) (by omega) hdu hA.ml hA.2) (fun _ _ _ e => e.elim) (fun g2 r2 e => ?_)
  obtain ⟨-, f2, rfl, f4, f5, f6⟩ := e
  have hKv : fK (fK K1 v []) v (fK K1 v [] v ++ [u]) v = [u] := by
    rw [fK_eq, fK_eq]
    rfl
  have hK3 : ∀ y, y ≠ v → fK (fK K1 v []) v (fK K1 v [] v ++ [u]) y = K1 y := fun y hy => by rw [fK_ne hy, fK_ne hy]
  rw [fK_eq] at f5
  generalize fK (fK K1 v []) v (fK K1 v [] v ++ [u]) = K3 at *
  refine hk g2 r2 ⟨v + 1, fD D1 v dd, K3, ⟨hA.1.nd f4 (fun _ _ => rfl) (by have := f2.1; omega) f6, f2⟩, ⟨by omega, fun i hi => ?_, ?_, fun e he j hj hx => ?_, fun j j1 j2 x hx => ?_⟩, fun y hy => ?_⟩ ⟨fun _ _ => rfl, f6⟩ (fun y hy hyu => f5 y hyu (fun hx => nomatch hx)) (Fk.of hA.2 f2 (Nat.le_refl _) (fun _ _ => rfl))
  · rw [hK3 i (by omega), fD_ne (by omega)]
    exact a2 i hi
  · refine (s1.loc (fun y y1 y2 => ⟨hK3 y (by omega), fD_ne (by omega)⟩)).app ⟨v + 1, ?_, rfl⟩
    have hs : Sgm K3 (fD D1 v dd) m0 [(u, U)] v := ⟨m1, t1.loc (fun y y1 y2 => ⟨hK3 y (by omega), fD_ne (by omega)⟩), t2'⟩
    have q := Tr.many (v := v) hs rfl hKv
    rw [fD_eq] at q
    have ec : cat [(u, U)] = U := List.append_nil U
    rw [ec] at q
    exact q
  · by_cases ej : j = v
    · rw [ej, hKv] at hx
      have hx' := List.mem_singleton.mp hx
      rcases List.mem_append.mp he with he | he
      · have := s1.mem he
        omega
      · rw [List.mem_singleton.mp he] at hx'
        have hx2 : v = u := hx'
        omega
    · rw [hK3 j ej] at hx
      rcases List.mem_append.mp he with he | he
      · exact a4 e (List.mem_append_left _ he) j (by omega) hx
      · rw [List.mem_singleton.mp he] at hx
        have hx' : v ∈ K1 j := hx
        have := hkd j (by omega) v hx'
        omega
  · by_cases ej : j = v
    · rw [ej, hKv] at hx
      have hx' := List.mem_singleton.mp hx
      omega
    · rw [hK3 j ej] at hx
      exact a5 j j1 (by omega) x hx
  · rw [f5 y (by omega) (fun hx => nomatch hx)]
    exact hN y hy
/-- what factor leaves -/
def kFM (w : Ws) (f : Gh) (n : Nat) (D : Nat → TD) (K : Nat → List Nat) (N : Nat → Int32) (z : Option R2) : Option Value → a2_G → a2_A → Prop := fun o g r => ∃ x : Int32, o = some (.int x) ∧ ((∃ b, Bd w f b g r) ∨ (∃ u U lv rest s q, x = Int32.ofNat u ∧ 0 < x.toInt ∧ CS w f n D K N (lv :: rest) [(u, U)] s q g r ∧ z = cdU w (lv :: rest) q s U) ∨ (x = 0 ∧ ∃ lv rest s q, CS w f n D K N (lv :: rest) [] s q g r ∧ z = b2 (tv w 9 q s []) (cdU w (lv :: rest))))
theorem zM_deeper (a : Int32) {c : Nat} (h : Pn w f n D K N p l g r) (hp : p < w.2.2) (hc : (g fM_marks).toInt = (c : Int)) : pl (ev L xs (m + 1) d nM_deeper [.ref cM, .int a] g r) (fun o g' r' => (∃ b, Bd w f b g' r') ∨ (c < 64 ∧ g' = upd (upd (upd g fM_level (g fM_level + 1)) fM_marks (g fM_marks + 1)) fM_at (g fM_at + 1) ∧ r' = a2_ua r fM_mark ((r fM_mark).1, (upd (r fM_mark).2 c a)) ∧ Pn w f n D K N (p + 1) l g' r')) kN := by
  cases d with
  | zero => trivial
  | succ d =>
    have hG := h.gd
    rw [qM_deeper]
    refine pl_in (fun c4 => ?_) (fun c4 => ?_)
    · refine pl_if (fun ci => ?_) (fun _ => trivial)
      rw [inr_eq, hG.1.2.1.at 32] at ci
      have en : (g fM_marks).toNatClampNeg = c := by rw [nc_eq, hc]; rfl
      rw [en]
      refine Or.inr ⟨by omega, rfl, rfl, ?_⟩
      exact (Pn.lf.2 _ _ _ ((h.ug (j := fM_level) (x := g fM_level + 1) (by decide)).ug (j := fM_marks) (x := g fM_marks + 1) (by decide)) hp).ua (by decide) (by decide) (by rfl)
    · exact pm_fa hG hG.2.2.2.1 hG.2.2.2.2 (fun g1 r1 h1 f1 => Or.inl ⟨_, h1⟩)
theorem Mkr.psh {l : List Int32} {M : Nat → Int32} {x : Int32} (h : Mkr l M) : Mkr (x :: l) (upd M l.length x) := ⟨upd_eq, h.fr (fun i hi => upd_ne (by omega))⟩
/-- a tree read on top of what waits -/
theorem CS.snoc {st : List Lv} {s s' : Sjt} {q' n1 v : Nat} {D1 : Nat → TD} {K1 : Nat → List Nat} {T : Tf} {g' : a2_G} {r' : a2_A} (h : CS w f n D K N st [] s p g r) (hq : Pq n D K (wt st) n1 D1 K1) (hN : ∀ y, y < n → (r fM_next).2 y = N y) (hv : Wn NP w f n1 D1 K1 (r fM_next).2 q' v T g' r') (h1 : g' fM_joints = g fM_joints) (h2 : g' fM_marks = g fM_marks) (hr : ∀ q, q ∉ WEa → r' q = r q) (hs : Sj2 s' g' r') : CS w f n D K N st [(v, T)] s' q' g' r' := by
  refine ⟨Pn.snoc hq hN hv, ⟨h.2.1.1.fr (fun i _ => Js.we hr i) (fun e he => ?_), by rw [h1]; exact h.2.1.2⟩, ⟨?_, by rw [h2]; exact h.2.2.1.2⟩, hs⟩
  · obtain ⟨n2, D2, K2, -, -, hN2⟩ := hv
    exact hN2 e.1 (hq.2.2.1.mem he).2
  · rw [hr fM_mark (by decide)]
    exact h.2.2.1.1
/-- the part of factor behind NOT -/
theorem zfa_36 (hn : 1 ≤ n) {lv : Lv} {rest : List Lv} {s : Sjt} (h : CS w f n D K N (lv :: rest) [] s p g r) (h0 : (ww w p 64 && !wc w (p + 1)) = false) : pl (BM_factor_36 L xs (m + 1) d k0 g r) (kFM w f n D K N (b2 (tv w 9 p s []) (cdU w (lv :: rest)))) kN := by
  have hG := h.gd
  unfold BM_factor_36
  refine pl_u (xM_isSign L xs 0 hG.1.mrd hG.2.2.2.1) (fun e => pl_neg (by decide) ?_) (fun e => pl_pos (by decide) ?_)
  · have hp := (wg_iff.mp e).1
    rw [cd_par h0 e]
    refine pl_n (zM_deeper (-1) h.1 hp h.2.2.1.2) (fun _ _ _ e => e) (fun g1 r1 e1 => ?_)
    rcases e1 with ⟨b, h1⟩ | ⟨hc, rfl, rfl, h1⟩
    · refine pl_n (xA_joint h1.1.2.1) (fun _ _ _ e => e) (fun g2 r2 e2 => ?_)
      obtain ⟨-, hb, rfl, rfl⟩ := e2
      exact ⟨0, rfl, Or.inl ⟨b, (((h1.ug (by decide)).ug (by decide)).ua (by decide) (by rfl)).ua (by decide) (by rfl)⟩⟩
    · refine pl_n (xA_joint h1.gd.1.2.1) (fun _ _ _ e => e) (fun g2 r2 e2 => ?_)
      obtain ⟨-, hb, rfl, rfl⟩ := e2
      have ej : ((upd (upd (upd g fM_level (g fM_level + 1)) fM_marks (g fM_marks + 1)) fM_at (g fM_at + 1)) fM_joints).toNatClampNeg = (lv :: rest).length := tn_at h.2.1.2
      have hj : ((upd (upd (upd g fM_level (g fM_level + 1)) fM_marks (g fM_marks + 1)) fM_at (g fM_at + 1)) fM_joints).toInt = ((lv :: rest).length : Int) := h.2.1.2
      rw [ej]
      refine ⟨0, rfl, Or.inr (Or.inr ⟨rfl, l00, lv :: rest, none, p + 1, ⟨?_, ⟨⟨⟨JL.nil upd_eq, JL.nil upd_eq, (fun e he => nomatch he)⟩, h.2.1.1.fr (fun i hi => ?_) (fun e he => rfl)⟩, ?_⟩, ⟨?_, ?_⟩, rfl⟩, rfl⟩)⟩
      · have hw : wt (l00 :: lv :: rest) = wt (lv :: rest) := List.append_nil _
        rw [hw]
        exact ((((h1.ug (by decide)).ug (by decide)).ua (by decide) (by decide) (by rfl)).ua (by decide) (by decide) (by rfl))
      · have hi' : i ≠ (lv :: rest).length := by omega
        exact ⟨upd_ne (f := (r fM_andMany).2) hi', rfl, rfl, upd_ne (f := (r fM_orMany).2) hi', rfl, rfl⟩
      · rw [upd_ne (by decide), upd_eq, i32_inc (by omega), hj]
        simp
      · have hm : mkl (l00 :: lv :: rest) = -1 :: mkl (lv :: rest) := by
          show [] ++ (if lv :: rest = [] then [] else -1 :: mkl (lv :: rest)) = _
          rw [if_neg (by simp)]
          rfl
        rw [hm]
        exact h.2.2.1.1.psh
      · have hm : (mkl (l00 :: lv :: rest)).length = (mkl (lv :: rest)).length + 1 := by
          show ([] ++ (if lv :: rest = [] then [] else -1 :: mkl (lv :: rest))).length = _
          rw [if_neg (by simp)]
          rfl
        rw [hm]
        show (g fM_marks + 1).toInt = _
        have := h.2.2.1.2
        rw [i32_inc (by omega), this]
        rfl
  · rw [cd_rel h0 e]
    have hP := h.1
    rw [List.append_nil] at hP
    obtain ⟨n1, D1, K1, hA, hq, hN⟩ := hP
    have hn1 : 1 ≤ n1 := hA.2.2.1
    have hPn : Pn w f n1 D1 K1 (r fM_next).2 p [] g r := Pn.nil hA
    refine pl_u (xM_isBehind hG) (fun eb => pl_neg (by decide) ?_) (fun eb => pl_pos (by decide) ?_)
    · have ho := wm_wo eb
      have hno : ¬ (wo w p && wm w (p + 1)) = true := by
        rw [ho, Bool.false_and]
        exact Bool.false_ne_true
      cases s with
      | none =>
        have hS : g fM_subject = 0 := h.2.2.2
        refine pl_neg (by rw [c2_ne]; exact fun e => e hS) ?_
        exact pm_fa hG hG.2.2.2.1 hG.2.2.2.2 (fun g1 r1 h1 f1 => ⟨0, rfl, Or.inl ⟨_, h1⟩⟩)
      | some hu =>
        obtain ⟨hw, u0⟩ := hu
        have hS : Sj2 (some (hw, u0)) g r := h.2.2.2
        have hrl : rl w p (some (hw, u0)) = ((cmp w p).2 + 1, some ((cmp w p).1, u0), nd (53, (cmp w p).1, Int32.ofNat p, Int32.ofNat u0) (l1 (od w (cmp w p).2))) := by
          unfold rl
          rw [if_neg hno]
          show (if wm w p then _ else _) = _
          rw [if_pos eb]
        rw [hrl]
        refine pl_pos (by rw [c2_ne]; exact fun e => by have := hS.pos; rw [e] at this; exact absurd this (by decide)) ?_
        rw [hG.pla]
        refine pl_v (pl_and (xA_make 53 0 (Int32.ofNat p) hG.1) (pl_mono (zM_make 53 0 (Int32.ofNat p) (e0 := -1) (fun q => absurd q.2 (by decide)) hA.ml hA.2) (fun _ _ _ e => e) (fun _ _ _ e => e))) (fun _ _ _ e => e.1) (fun v g1 r1 e1 => ?_)
        obtain ⟨⟨-, -, f1⟩, e1, e2, e3, e4, e5, e6⟩ := e1
        cases e1
        have h1 : Wn NP w f n1 D1 K1 (r fM_next).2 p n1 (nd (53, 0, Int32.ofNat p, -1) []) g1 r1 := ⟨n1 + 1, _, _, ⟨hA.1.nd e4 (fun k hk => by rw [e3, upd_ne hk]) (by have := e2.1; omega) e6, e2⟩, Vw.nw (fun j hj x hx => (hA.2.2.2.2.kid hj hx).2), fun y hy => by rw [e5, upd_ne (by omega)]⟩
        rw [h1.vn.1]
        refine pl_if (fun _ => ?_) (fun _ => trivial)
        have fk1 : Fk g r g1 r1 := Fk.of hA.2 e2 (Nat.le_succ _) (fun i hi => fD_ne (by omega))
        obtain ⟨hS0, i0, hi1, hi2, hi3, hi4, hi5⟩ := id hS
        have hi6 : i0 < n1 := by have := hA.2.1; omega
        have h2 := h1.sr (x := g1 fM_subject) (t := i0) (ee := Int32.ofNat u0) hi6 (by rw [e3, upd_ne (by decide)]; exact hi3) ((fk1.2 i0 hi2).1.trans hi4) ((fk1.2 i0 hi2).2.trans hi5)
        have fk2 : Fk g r g1 (a2_ua r1 fM_extra ((r1 fM_extra).1, (upd (r1 fM_extra).2 n1 (g1 fM_subject)))) := fk1
        have f2 : Fe g r g1 (a2_ua r1 fM_extra ((r1 fM_extra).1, (upd (r1 fM_extra).2 n1 (g1 fM_subject)))) := (Fn.e f1).ua (by decide)
        generalize (a2_ua r1 fM_extra ((r1 fM_extra).1, (upd (r1 fM_extra).2 n1 (g1 fM_subject)))) = r2 at h2 f2 fk2
        refine pl_n (pl_and (xM_compare _ h2.gd) (zM_compare hn1 h2)) (fun _ _ _ e => e.1) (fun g3 r3 e3 => ?_)
        obtain ⟨⟨-, -, f3⟩, -, e4⟩ := e3
        refine ⟨_, rfl, ?_⟩
        rcases e4 with e4 | ⟨e4, e5, e6⟩
        · exact Or.inl e4
        · have hvv := e4.vn
          refine Or.inr (Or.inl ⟨n1, _, lv, rest, some ((cmp w p).1, u0), _, rfl, by omega, h.snoc hq hN e4 ?_ ?_ (fun q hq => (f3.2 q hq).trans (f2.2 q hq)) ⟨e5, i0, hi1, Int.lt_of_lt_of_le hi2 (fk2.tr e6).1, ?_, ((fk2.tr e6).2 i0 hi2).1.trans hi4, ((fk2.tr e6).2 i0 hi2).2.trans hi5⟩, rfl⟩)
          · rw [f3.1 fM_joints (by decide), f2.1 fM_joints (by decide)]
          · rw [f3.1 fM_marks (by decide), f2.1 fM_marks (by decide)]
          · rw [f3.1 fM_subject (by decide), f2.1 fM_subject (by decide)]
            exact hi3
    · refine pl_v (pl_and (xM_operand hG) (zM_operand hA)) (fun _ _ _ e => e.1) (fun v g1 r1 e1 => ?_)
      obtain ⟨⟨-, -, f1⟩, ⟨ho, ev, h1⟩ | ⟨ho, ev, h1⟩⟩ := e1
      · cases ev
        have hG1 := h1.gd
        have hp := (wo_iff.mp ho).1
        refine pl_pos (by rw [c2_eq]; exact hG1.2.2.1) ?_
        have hPv : Pn w f n1 D1 K1 (r fM_next).2 (p + 1) ([] ++ [(n1, l1 (od w p))]) g1 r1 := Pn.snoc ⟨Nat.le_refl _, fun _ _ => ⟨rfl, rfl⟩, rfl, (fun e he => nomatch he), fun j h1 h2 => by omega⟩ (fun _ _ => rfl) h1
        have hop : (n1 : Int) < (g1 fM_nodes).toInt ∧ (r1 fM_kind).2 n1 = 41 ∧ (r1 fM_place).2 n1 = Int32.ofNat p ∧ Fk g r g1 r1 := by
          obtain ⟨n2, D2, K2, hA2, hq2, -⟩ := h1
          have rv := hq2.2.2.1.rg
          have ed : D2 n1 = od w p := Tr.da (F := []) hq2.2.2.1
          have hm := hA2.2.2.2.2.1 n1 (by omega)
          rw [ed] at hm
          exact ⟨by rw [hA2.2.1]; omega, hm.1, hm.2.2.1, Fk.of hA.2 hA2.2 hq2.1 (fun i hi => (hq2.2.1 i hi).2)⟩
        have epl : (r1 fM_place).2 (Int32.ofNat n1).toNatClampNeg = Int32.ofNat p := by
          obtain ⟨n2, D2, K2, hA2, hq2, -⟩ := h1
          have rv := hq2.2.2.1.rg
          have ed : D2 n1 = od w p := Tr.da (F := []) hq2.2.2.1
          have h8 := hA2.2.2.2.1
          rw [tn_at (on_eq (by omega)), (hA2.2.2.2.2.1 n1 (by omega)).2.2.1, ed]
          rfl
        refine pl_u (xM_isBehind hG1) (fun eb2 => pl_neg (by decide) ?_) (fun eb2 => pl_pos (by decide) ?_)
        · have hrl : rl w p s = ((cmp w (p + 1)).2 + 1, some ((cmp w (p + 1)).1, p), nd (53, (cmp w (p + 1)).1, Int32.ofNat p, Int32.ofNat p) (l1 (od w p) ++ l1 (od w (cmp w (p + 1)).2))) := by
            unfold rl
            rw [if_pos (by rw [ho, eb2]; rfl)]
          rw [hrl, epl]
          refine pl_if (fun _ => ?_) (fun _ => trivial)
          refine ml_md (-1) (fun q => absurd q.2 (by decide)) hPv (fun v2 g2 r2 h2 f2 _ k2 => ?_)
          have hv2 : n1 < v2 := by
            obtain ⟨D', K', -, hq', -⟩ := h2
            exact (hq'.2.2.1.mem (e := (n1, l1 (od w p))) (List.mem_append_right _ List.mem_cons_self)).2
          refine ml_ma hn1 h2 (fun g3 r3 h3 f3 _ k3 => ?_)
          have k23 := k2.tr k3
          refine pl_if (fun _ => ?_) (fun _ => trivial)
          have h4 := (Pn.one h3).sr (x := Int32.ofNat n1) (t := n1) (ee := Int32.ofNat p) hv2 rfl ((k23.2 n1 hop.1).1.trans hop.2.1) ((k23.2 n1 hop.1).2.trans hop.2.2.1)
          have hvn := (Pn.one h3).vn
          rw [hvn.1]
          have h5 := h4.ug (j := fM_subject) (x := Int32.ofNat n1) (by decide)
          have f5 : Fm (fM_subject :: WE) WEa g r (upd g3 fM_subject (Int32.ofNat n1)) (a2_ua r3 fM_extra ((r3 fM_extra).1, (upd (r3 fM_extra).2 v2 (Int32.ofNat n1)))) := ((((f1.trans (Fn.e f2)).trans (Fn.e f3)).sub (fun k hk => List.mem_cons_of_mem _ hk) (fun _ e => e)).up (by decide)).ua (by decide)
          have hs5 : (upd g3 fM_subject (Int32.ofNat n1)) fM_subject = Int32.ofNat n1 := upd_eq
          have k5 : Fk g1 r1 (upd g3 fM_subject (Int32.ofNat n1)) (a2_ua r3 fM_extra ((r3 fM_extra).1, (upd (r3 fM_extra).2 v2 (Int32.ofNat n1)))) := k23
          generalize (upd g3 fM_subject (Int32.ofNat n1)) = g5 at h5 f5 hs5 k5
          generalize (a2_ua r3 fM_extra ((r3 fM_extra).1, (upd (r3 fM_extra).2 v2 (Int32.ofNat n1)))) = r5 at h5 f5 k5
          refine pl_n (pl_and (xM_compare _ h5.gd) (zM_compare hn1 h5)) (fun _ _ _ e => e.1) (fun g6 r6 e6 => ?_)
          obtain ⟨⟨-, -, f6⟩, -, e7⟩ := e6
          refine ⟨_, rfl, ?_⟩
          rcases e7 with e7 | ⟨e7, e8, e9⟩
          · exact Or.inl e7
          · refine Or.inr (Or.inl ⟨v2, _, lv, rest, some ((cmp w (p + 1)).1, p), _, rfl, by omega, h.snoc hq hN e7 ?_ ?_ (fun q hq => (f6.2 q hq).trans (f5.2 q hq)) ⟨e8, n1, by omega, Int.lt_of_lt_of_le hop.1 (k5.tr e9).1, ?_, ((k5.tr e9).2 n1 hop.1).1.trans hop.2.1, ((k5.tr e9).2 n1 hop.1).2.trans hop.2.2.1⟩, rfl⟩)
            · rw [f6.1 fM_joints (by decide), f5.1 fM_joints (by decide)]
            · rw [f6.1 fM_marks (by decide), f5.1 fM_marks (by decide)]
            · rw [f6.1 fM_subject (by decide), hs5]
        · have hno : ¬ (wo w p && wm w (p + 1)) = true := by
            rw [eb2, Bool.and_false]
            exact Bool.false_ne_true
          cases s with
          | some hu =>
            obtain ⟨hw, u0⟩ := hu
            have hS : Sj2 (some (hw, u0)) g r := h.2.2.2
            have hrl : rl w p (some (hw, u0)) = (p + 1, some (hw, u0), nd (53, hw, Int32.ofNat p, Int32.ofNat u0) (l1 (od w p))) := by
              unfold rl
              rw [if_neg hno]
              show (if wm w p then _ else _) = _
              rw [if_neg (by rw [eb]; exact Bool.false_ne_true)]
            have hS1 : Sj2 (some (hw, u0)) g1 r1 := hS.fr (f1.1 fM_subject (by decide)) (f1.1 fM_compared (by decide)) hop.2.2.2
            rw [hrl, epl]
            refine pl_neg (by rw [c2_le, i32_0]; have := hS1.pos; omega) (pl_if (fun _ => ?_) (fun _ => trivial))
            rw [hS1.1]
            refine ml_md (-1) (fun q => absurd q.2 (by decide)) hPv (fun v2 g2 r2 h2 f2 _ k2 => ?_)
            rw [h2.vn.1]
            refine pl_if (fun _ => ?_) (fun _ => trivial)
            have hS2 : Sj2 (some (hw, u0)) g2 r2 := hS1.fr (f2.1 fM_subject (by decide)) (f2.1 fM_compared (by decide)) k2
            obtain ⟨hT0, i0, hi1, hi2, hi3, hi4, hi5⟩ := id hS2
            have hi6 : i0 < v2 := by
              obtain ⟨-, j0, hj1, hj2, hj3, -⟩ := hS
              have e0 : g2 fM_subject = g fM_subject := (f2.1 fM_subject (by decide)).trans (f1.1 fM_subject (by decide))
              have b1 := Int32.toInt_lt (g2 fM_nodes)
              have b2 := Int32.toInt_lt (g fM_nodes)
              have e1 : i0 = j0 := oN_inj (by omega) (by omega) (hi3.symm.trans (e0.trans hj3))
              have e2 := hA.2.1
              have e3 : n1 < v2 := by
                obtain ⟨D', K', -, hq', -⟩ := h2
                exact (hq'.2.2.1.mem (e := (n1, l1 (od w p))) (List.mem_append_right _ List.mem_cons_self)).2
              omega
            have h3 := h2.sr (x := g2 fM_subject) (t := i0) (ee := Int32.ofNat u0) hi6 hi3 hi4 hi5
            refine ml_ma hn1 h3 (fun g4 r4 h4 f4 _ k4 => ?_)
            have fA : Fe g r g4 r4 := ((f1.trans (Fn.e f2)).ua (by decide)).trans (Fn.e f4)
            have hvv := (Pn.one h4).vn
            refine ⟨_, rfl, Or.inr (Or.inl ⟨v2, _, lv, rest, some (hw, u0), _, rfl, by omega, h.snoc hq hN (Pn.one h4) ?_ ?_ (fun q hq => fA.2 q hq) (hS2.fr (f4.1 fM_subject (by decide)) (f4.1 fM_compared (by decide)) k4), rfl⟩)⟩
            · rw [fA.1 fM_joints (by decide)]
            · rw [fA.1 fM_marks (by decide)]
          | none =>
            have hS : g fM_subject = 0 := h.2.2.2
            have hS1 : g1 fM_subject = 0 := by
              rw [f1.1 fM_subject (by decide)]
              exact hS
            have hrl : rl w p none = (p + 1, none, l1 (54, w.2.1 p, Int32.ofNat p, -1)) := by
              unfold rl
              rw [if_neg hno]
            rw [hrl]
            refine pl_pos (by rw [c2_le, hS1]; decide) ?_
            have e1' : (g1 fM_at - 1).toInt = p := by
              have := hG1.2.2.2.1
              rw [i32_dec (by omega), this]
              omega
            refine pl_u (xM_isKind L xs 1 hG1.1.mrd e1') (fun e3 => pl_pos (by decide) ?_) (fun e3 => pl_neg (by decide) ?_)
            · rw [h1.vn.1]
              refine pl_if (fun _ => ?_) (fun _ => trivial)
              refine ml_pa (p := p) (hG1.ua (by decide) (by rfl)) ?_
              refine pl_if (fun _ => ?_) (fun _ => trivial)
              have h2 : Wn NP w f n1 D1 K1 (r fM_next).2 (p + 1) n1 (l1 (54, w.2.1 p, Int32.ofNat p, -1)) g1 _ := Wn.sk (kd' := 54) (x := w.2.1 p) (fun q => absurd q.2 (by decide)) (by decide) h1
              have fA : Fe g r g1 (a2_ua (a2_ua r1 fM_kind ((r1 fM_kind).1, (upd (r1 fM_kind).2 n1 54))) fM_value ((r1 fM_value).1, (upd (r1 fM_value).2 n1 (w.2.1 p)))) := (f1.ua (by decide)).ua (by decide)
              have hvv := h1.vn
              refine ⟨_, rfl, Or.inr (Or.inl ⟨n1, _, lv, rest, none, _, rfl, by omega, h.snoc hq hN h2 ?_ ?_ (fun q hq => fA.2 q hq) hS1, rfl⟩)⟩
              · rw [f1.1 fM_joints (by decide)]
              · rw [f1.1 fM_marks (by decide)]
            · exact pm_fa hG1 hG1.2.2.2.1 hG1.2.2.2.2 (fun g2 r2 h2 f2 => ⟨0, rfl, Or.inl ⟨_, h2⟩⟩)
      · cases ev
        exact pl_neg (by rw [c2_eq, h1.2.2.1]; decide) ⟨0, rfl, Or.inl ⟨_, h1⟩⟩
theorem zM_factor (hn : 1 ≤ n) {lv : Lv} {rest : List Lv} {s : Sjt} (h : CS w f n D K N (lv :: rest) [] s p g r) : pl (ev L xs (m + 1) d nM_factor [.ref cM] g r) (kFM w f n D K N (b2 (tv w 9 p s []) (cdU w (lv :: rest)))) kN := by
  cases d with
  | zero => trivial
  | succ d =>
    have hG := h.gd
    rw [qM_factor]
    refine pl_u (xM_isWord L xs 64 hG.1.mrd hG.2.2.2.1) (fun e => pl_neg (by decide) ?_) (fun e => pl_pos (by decide) (zfa_36 hn h (by rw [e]; rfl)))
    refine pl_u (xM_isComparing hG.1.mrd hG.add) (fun e2 => pl_pos (by decide) (zfa_36 hn h (by rw [e, e2]; rfl))) (fun e2 => pl_neg (by decide) ?_)
    have h0 : (ww w p 64 && !wc w (p + 1)) = true := by rw [e, e2]; rfl
    obtain ⟨ps, ands, ors⟩ := lv
    rw [cd_not h0]
    refine pl_n (zM_deeper (g fM_at) h.1 (ww_iff.mp e).1 h.2.2.1.2) (fun _ _ _ e => e) (fun g1 r1 e1 => ?_)
    rcases e1 with ⟨b, h1⟩ | ⟨hc, rfl, rfl, h1⟩
    · exact ⟨0, rfl, Or.inl ⟨b, h1⟩⟩
    · rw [hG.pla] at h1 ⊢
      have hle := hG.le
      obtain ⟨⟨j1, j2, j3⟩, j4⟩ := h.2.1.1
      refine ⟨0, rfl, Or.inr (Or.inr ⟨rfl, (p :: ps, ands, ors), rest, s, p + 1, ⟨h1, ⟨⟨⟨j1, j2, fun y hy => ?_⟩, j4.fr (fun i hi => ⟨rfl, rfl, rfl, rfl, rfl, rfl⟩) (fun e he => rfl)⟩, h.2.1.2⟩, ⟨?_, ?_⟩, h.2.2.2⟩, rfl⟩)⟩
      · rcases List.mem_cons.mp hy with rfl | hy
        · omega
        · exact j3 y hy
      · exact h.2.2.1.1.psh (x := Int32.ofNat p)
      · show (g fM_marks + 1).toInt = _
        have := h.2.2.1.2
        rw [i32_inc (by omega), this]
        rfl
end
