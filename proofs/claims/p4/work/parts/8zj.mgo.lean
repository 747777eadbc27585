/-! The model's pile goes on, with its trees. -/
section
variable {L : Nat} {xs : Nat → Int32} {m d k : Nat} {w : Ws} {f : Gh} {p q : Nat} {g g' : a2_G} {r r' : a2_A} {kv : Int32 → a2_G → a2_A → Option fn_Z} {kn : a2_G → a2_A → Option fn_Z} {Q : Option Value → a2_G → a2_A → Prop} {X : Nat → a2_G → a2_A → Prop} {n : Nat} {D : Nat → TD} {K : Nat → List Nat} {N : Nat → Int32} {P : Nat → Prop} {v : Nat} {dd : TD} {F T : Tf} {P0 : Nat → Prop} {n0 : Nat} {D0 : Nat → TD} {K0 : Nat → List Nat} {N0 : Nat → Int32} {t0 : Nat × TD} {t : Option (Int32 × Int32)} {l : List Ofr} {fr : Ofr}
/-- the top's phase may be anything -/
def StR (w : Ws) (f : Gh) (P0 : Nat → Prop) (n0 : Nat) (D0 : Nat → TD) (K0 : Nat → List Nat) (N0 : Nat → Int32) (t0 : Nat × TD) (kk ph : Int32) (v : Nat) (dd : TD) (F : Tf) (fr : Ofr) (l : List Ofr) (q : Nat) (g : a2_G) (r : a2_A) : Prop := (∃ P n D K N, Ups P0 n0 D0 K0 N0 t0 (fr :: l) P n D K N v dd ∧ 1 ≤ n ∧ Wn P w f n D K N q v (nd dd F) g r) ∧ PlR ((some (kk, ph), v) :: tg (fr :: l)) r ∧ (g fM_piled).toInt = ((pct (tg (fr :: l)) + 1 : Nat) : Int) ∧ ((g fM_level).toInt + 1 = (lct ((some (kk, ph), v) :: tg (fr :: l)) : Int) ∧ lct ((some (kk, ph), v) :: tg (fr :: l)) ≤ 41) ∧ okF (tg (fr :: l))
theorem StR.ok {kk ph : Int32} (h : StR w f P0 n0 D0 K0 N0 t0 kk ph v dd F fr l q g r) (hv : Vk kk ph) : StP w f P0 n0 D0 K0 N0 t0 (some (kk, ph), v, dd, F) (fr :: l) q g r := ⟨h.1, h.2.1, h.2.2.1, h.2.2.2.1, ⟨fun k ph e => by cases e; exact hv, h.2.2.2.2⟩⟩
theorem StR.gd {kk ph : Int32} (h : StR w f P0 n0 D0 K0 N0 t0 kk ph v dd F fr l q g r) : Gd w f q g r := by
  obtain ⟨⟨P, n, D, K, N, -, -, hW⟩, -⟩ := h
  exact hW.gd
theorem StR.z {kk ph : Int32} (h : StR w f P0 n0 D0 K0 N0 t0 kk ph v dd F fr l q g r) (hW : ∀ P n D K N, Wn P w f n D K N q v (nd dd F) g r → Wn P w f n D K N p v (nd dd F) g' r') (hF : Fz g r g' r') : StR w f P0 n0 D0 K0 N0 t0 kk ph v dd F fr l p g' r' := by
  obtain ⟨⟨P, n, D, K, N, hU, hn, hW1⟩, h1, h2, h3, h4⟩ := h
  refine ⟨⟨P, n, D, K, N, hU, hn, hW _ _ _ _ _ hW1⟩, h1.fr (fun i _ => ?_), ?_, ?_, h4⟩
  · rw [hF.1.2 fM_pileKind (by decide), hF.1.2 fM_pilePhase (by decide), hF.1.2 fM_pileNode (by decide)]
    exact ⟨rfl, rfl, rfl⟩
  · rw [hF.1.1 fM_piled (by decide)]
    exact h2
  · rw [hF.2]
    exact h3
theorem StR.lf {kk ph : Int32} : LfM w f (fun q => StR w f P0 n0 D0 K0 N0 t0 kk ph v dd F fr l q) := ⟨fun _ _ _ h => h.gd, fun _ _ _ h hp => h.z (fun _ _ _ _ _ hW => Wn.lf.2 _ _ _ hW hp) (Fe.at _).z⟩
theorem StR.vn {kk ph : Int32} (h : StR w f P0 n0 D0 K0 N0 t0 kk ph v dd F fr l q g r) : (Int32.ofNat v).toNatClampNeg = v := by
  obtain ⟨⟨P, n, D, K, N, -, -, hW⟩, -⟩ := h
  exact hW.vn.1
/-- the top is done and goes -/
theorem StR.up {kk ph x : Int32} (hk : kk ≠ 0) (h : StR w f P0 n0 D0 K0 N0 t0 kk ph v dd F fr l q g r) : kWT w f P0 n0 D0 K0 N0 t0 (cu w (fr :: l) q (nd (tdx dd x) F)) none (upd g fM_piled (g fM_piled - 1)) (a2_ua r fM_extra ((r fM_extra).1, upd (r fM_extra).2 v x)) := by
  obtain ⟨⟨P, n, D, K, N, hU, hn, hW⟩, h1, h2, h3, h4⟩ := h
  obtain ⟨t', v', dd', F'⟩ := fr
  rw [cu_g]
  obtain ⟨_, _, _, _, _, _, _, _, _, _, _, _, _, h53⟩ := id hU
  have hW2 : Wn P w f n D K N q v (nd (tdx dd x) F) (upd g fM_piled (g fM_piled - 1)) (a2_ua r fM_extra ((r fM_extra).1, upd (r fM_extra).2 v x)) := (Wn.sx (kd := dd.1) (v0 := dd.2.1) (pp := dd.2.2.1) (ee := dd.2.2.2) h53 hW).ug (by decide)
  have hU2 : Ups P0 n0 D0 K0 N0 t0 ((t', v', dd', F') :: l) P n D K N v (tdx dd x) := hU
  refine StP.kws (fr := (t', v', dd', F' ++ nd (tdx dd x) F)) ⟨hU2.cl hW2, PlR.fr (l := tg ((t', v', dd', F') :: l)) h1.2 (fun i _ => ⟨rfl, rfl, rfl⟩), ?_, ?_, h4⟩
  · show (g fM_piled - 1).toInt = _
    rw [i32_dec (by omega), h2]
    show ((pct (tg ((t', v', dd', F') :: l)) + 1 : Nat) : Int) - 1 = (pct (tg ((t', v', dd', F') :: l)) : Int)
    omega
  · have e : lct ((some (kk, ph), v) :: tg ((t', v', dd', F') :: l)) = lct (tg ((t', v', dd', F') :: l)) := by
      show lct (tg ((t', v', dd', F') :: l)) + (if kk = 0 then 1 else 0) = _
      rw [if_neg hk]
      rfl
    rw [e] at h3
    exact h3
theorem scp_17 {kk ph x4 : Int32} {b : Bool} (x2 x3 : Int32) (hk : kk ≠ 0) (hx : x4 = b2i b) (h : StR w f P0 n0 D0 K0 N0 t0 kk ph v dd F fr l q g r) : pl (BM_scope_17 L xs (m + 1) d k (Int32.ofNat v) x2 x3 x4 g r) (kWT w f P0 n0 D0 K0 N0 t0 (cu w (fr :: l) q (nd (tdx dd (sc b)) F))) kN := by
  unfold BM_scope_17 BM_scope_34
  rw [h.vn, hx]
  cases b with
  | false => exact pl_pos (by decide) (pl_if (fun _ => h.up hk) (fun _ => trivial))
  | true => exact pl_neg (by decide) (pl_if (fun _ => h.up hk) (fun _ => trivial))
theorem zM_scope0 {kk ph : Int32} (en : Int32) (hk : kk ≠ 0) (h : StR w f P0 n0 D0 K0 N0 t0 kk ph v dd F fr l q g r) : pl (ev L xs (m + 1) d nM_scope [.ref cM, .int (Int32.ofNat v), .int en, .int 0] g r) (kWT w f P0 n0 D0 K0 N0 t0 (b2 (enT w en dd F q) fun q _ T => cu w (fr :: l) q T)) kN := by
  cases d with
  | zero => trivial
  | succ d =>
    rw [qM_scope]
    unfold enT
    rw [b2_o]
    refine pl_pos (by decide) ?_
    refine ml_ms StR.lf h (fun e g1 h1 => ?_) (fun e => ?_)
    · rw [e]
      exact scp_17 (b := true) _ _ hk rfl h1
    · rw [e]
      exact scp_17 (b := false) _ _ hk rfl h
theorem zM_scope1 {kk ph : Int32} (en : Int32) (hk : kk ≠ 0) (h : StR w f P0 n0 D0 K0 N0 t0 kk ph v dd F fr l q g r) : pl (ev L xs (m + 1) d nM_scope [.ref cM, .int (Int32.ofNat v), .int en, .int 1] g r) (kWT w f P0 n0 D0 K0 N0 t0 (cu w (fr :: l) (q + 1) (nd (tdx dd 1) F))) kN := by
  cases d with
  | zero => trivial
  | succ d =>
    rw [qM_scope]
    refine pl_neg (by decide) ?_
    refine ml_mu StR.lf h (fun e g1 h1 => ?_) (fun e g1 r1 h1 => ?_)
    · exact scp_17 (b := true) _ _ hk rfl h1
    · unfold BM_scope_17 BM_scope_34
      exact pl_pos (by decide) (pl_if (fun _ => kWT.b ((h1.ug (by decide)).ua (by decide) (by rfl))) (fun _ => trivial))
/-- a list begins -/
theorem zM_list (h : StP w f P0 n0 D0 K0 N0 t0 (t, v, dd, F) l q g r) : pl (ev L xs (m + 1) d nM_list [.ref cM, .int (Int32.ofNat v)] g r) (kWT w f P0 n0 D0 K0 N0 t0 (b2 (tv w 10 q none []) fun q _ T => cu w ((t, v, dd, F) :: l) q T)) kN := by
  cases d with
  | zero => trivial
  | succ d =>
    have hG := h.gd
    rw [qM_list, hG.pla]
    refine pl_pos (by rw [c2_eq]; exact hG.2.2.1) ?_
    refine pl_u (by rw [← hG.pla]; exact xM_begins L xs hG.1.mrd hG.2.2.2.1) (fun e => pl_pos (by decide) ?_) (fun e => pl_neg (by decide) ?_)
    · refine pl_in (fun c4 => ?_) (fun c4 => ?_)
      · rw [hG.pla]
        obtain ⟨⟨P, n, D, K, N, hU, hn, hW⟩, x1, x2, x3, x4⟩ := h
        refine op_w (-1) (fun q => absurd q.2 (by decide)) t hU hn (hW.ug (j := fM_level) (x := g fM_level + 1) (by decide)) (fun u g2 r2 hu fA => ?_)
        have hp2 : (g2 fM_piled).toInt = (pct (tg ((t, v, dd, F) :: l)) : Int) := by
          rw [fA.1 fM_piled (by decide)]
          exact x2
        have hl2 : g2 fM_level = g fM_level + 1 := fA.1 fM_level (by decide)
        have hR2 : PlR (tg ((t, v, dd, F) :: l)) r2 := PlR.fr x1 (fun i _ => by
          rw [fA.2 fM_pileKind (by decide), fA.2 fM_pilePhase (by decide), fA.2 fM_pileNode (by decide)]
          exact ⟨rfl, rfl, rfl⟩)
        obtain ⟨P', n', D', K', N', hU', hn', hW'⟩ := hu
        have hG2 := hW'.gd
        have z0 : b2 (tv w 10 q none []) (fun q _ T => cu w ((t, v, dd, F) :: l) q T) = cu w ((some (0, 0), u, (40, 0, Int32.ofNat q, -1), []) :: (t, v, dd, F) :: l) q [] := by
          rw [cu_l, tv_10, b2_as]
          rfl
        rw [z0]
        refine pl_n (Q1 := fun o g' r' => pct (tg ((t, v, dd, F) :: l)) < 128 ∧ g' = upd g2 fM_piled (g2 fM_piled + 1) ∧ r' = (a2_ua (a2_ua (a2_ua r2 fM_pileKind ((r2 fM_pileKind).1, (upd (r2 fM_pileKind).2 (pct (tg ((t, v, dd, F) :: l))) 0))) fM_pileNode ((r2 fM_pileNode).1, (upd (r2 fM_pileNode).2 (pct (tg ((t, v, dd, F) :: l))) (Int32.ofNat u)))) fM_pilePhase ((r2 fM_pilePhase).1, (upd (r2 fM_pilePhase).2 (pct (tg ((t, v, dd, F) :: l))) 0)))) (X1 := kN) ?_ (fun _ _ _ e => e) (fun g3 r3 e3 => ?_)
        · cases d with
          | zero => trivial
          | succ d =>
            rw [qM_pile]
            refine pl_if (fun ci => pl_if (fun _ => pl_if (fun _ => ?_) (fun _ => trivial)) (fun _ => trivial)) (fun _ => trivial)
            rw [inr_eq, hG2.1.2.1.at 25, hp2] at ci
            rw [tn_at hp2]
            exact ⟨by omega, rfl, rfl⟩
        · obtain ⟨hn2, rfl, rfl⟩ := e3
          have hlc : lct ((some (0, 0), u) :: tg ((t, v, dd, F) :: l)) = lct (tg ((t, v, dd, F) :: l)) + 1 := by
            show lct (tg ((t, v, dd, F) :: l)) + (if (0 : Int32) = 0 then 1 else 0) = _
            rw [if_pos rfl]
          refine StP.kws (fr := (some (0, 0), u, (40, 0, Int32.ofNat q, -1), [])) ⟨⟨P', n', D', K', N', hU', hn', ?_⟩, ⟨⟨⟨upd_eq, upd_eq, upd_eq⟩, hR2.fr (fun i hi => ⟨upd_ne (f := (r2 fM_pileKind).2) (by omega), upd_ne (f := (r2 fM_pilePhase).2) (by omega), upd_ne (f := (r2 fM_pileNode).2) (by omega)⟩)⟩, ?_, ?_, ⟨?_, x4⟩⟩⟩
          · obtain ⟨n1, D1, K1, hA, hq, hN⟩ := hW'
            exact ⟨n1, D1, K1, (((hA.ug (by decide)).ua (by decide) (by decide) (by rfl)).ua (by decide) (by decide) (by rfl)).ua (by decide) (by decide) (by rfl), hq, hN⟩
          · show (g2 fM_piled + 1).toInt = ((pct (tg ((t, v, dd, F) :: l)) + 1 : Nat) : Int)
            rw [i32_inc (by omega), hp2]
            rfl
          · show (g2 fM_level).toInt + 1 = (lct ((some (0, 0), u) :: tg ((t, v, dd, F) :: l)) : Int) ∧ lct ((some (0, 0), u) :: tg ((t, v, dd, F) :: l)) ≤ 41
            have n1 : (g fM_level).toInt ≠ 40 := fun e => c4 (i32e (e.trans rfl))
            have x3' : (g fM_level).toInt + 1 = (lct (tg ((t, v, dd, F) :: l)) : Int) ∧ lct (tg ((t, v, dd, F) :: l)) ≤ 41 := x3
            rw [hlc, hl2, i32_inc (by omega)]
            omega
          · intro k ph e
            cases e
            exact Or.inl rfl
      · exact pm_fa hG hG.2.2.2.1 hG.2.2.2.2 (fun g2 r2 h2 f2 => kWT.b h2)
    · exact pm_fa hG hG.2.2.2.1 hG.2.2.2.2 (fun g2 r2 h2 f2 => kWT.b h2)
/-- ADD, READ, CALL: an answer asked for -/
theorem zM_asked {kk ph one two en : Int32} {k2 : Nat} (hk : kk = 37 ∨ kk = 41 ∨ kk = 42) (hp : ph = 0 ∨ ph = 1 ∨ ph = 2) (h2 : two = -1 ∧ k2 = 1 ∨ two ≠ -1 ∧ k2 = 2) (hz : ∀ F q, pcT w kk ph dd F q = if 0 < ph.toInt then enT w en dd F q else aqT w one k2 en dd F q) (hz1 : ∀ F q, pcT w kk 1 dd F q = enT w en dd F q) (h : StR w f P0 n0 D0 K0 N0 t0 kk (ph + 1) v dd F fr l q g r) : pl (ev L xs (m + 1) d nM_asked [.ref cM, .int (Int32.ofNat v), .int ph, .int one, .int two, .int en] g r) (kWT w f P0 n0 D0 K0 N0 t0 (b2 (pcT w kk ph dd F q) fun q _ T => cu w (fr :: l) q T)) kN := by
  have hk0 : kk ≠ 0 := by rcases hk with rfl | rfl | rfl <;> decide
  cases d with
  | zero => trivial
  | succ d =>
    rw [qM_asked, hz]
    unfold BM_asked_12 BM_asked_36
    have hsc : ∀ {g r}, StR w f P0 n0 D0 K0 N0 t0 kk (ph + 1) v dd F fr l q g r → pl (fn_n (ev L xs (m + 1) d nM_scope [.ref cM, .int (Int32.ofNat v), .int en, .int 0] g r) fun g1 r2 => some (.inl none, g1, r2)) (kWT w f P0 n0 D0 K0 N0 t0 (b2 (enT w en dd F q) fun q _ T => cu w (fr :: l) q T)) kN := fun h => pl_n (zM_scope0 en hk0 h) (fun _ _ _ e => e) (fun g1 r1 e => e)
    refine pl_ig (fun c => ?_) (fun c => ?_)
    · rw [if_pos (show 0 < ph.toInt from c)]
      exact hsc h
    · rw [if_neg (show ¬ 0 < ph.toInt from c)]
      have hz0 : ph = 0 := by
        rcases hp with e | e | e
        · exact e
        · rw [e] at c
          exact absurd (by decide) c
        · rw [e] at c
          exact absurd (by decide) c
      subst hz0
      have hV : Vk kk (0 + 1) := by
        rcases hk with rfl | rfl | rfl
        · exact Or.inr (Or.inr ⟨Or.inl rfl, Or.inr (Or.inl rfl)⟩)
        · exact Or.inr (Or.inr ⟨Or.inr (Or.inr (Or.inr (Or.inl rfl))), Or.inr (Or.inl rfl)⟩)
        · exact Or.inr (Or.inr ⟨Or.inr (Or.inr (Or.inr (Or.inr rfl))), Or.inr (Or.inl rfl)⟩)
      unfold aqT
      have hli : ∀ {q' g r}, StR w f P0 n0 D0 K0 N0 t0 kk (0 + 1) v dd F fr l q' g r → pl (BM_asked_41 L xs (m + 1) d m (Int32.ofNat v) 0 one two en 1 g r) (kWT w f P0 n0 D0 K0 N0 t0 (b2 (b2 (tv w 10 q' none []) (fun q _ c => enT w en dd (F ++ c) q)) fun q _ T => cu w (fr :: l) q T)) kN := fun {q' g r} h => by
        unfold BM_asked_41 BM_asked_53
        refine pl_neg (by decide) ?_
        refine pl_n (zM_list (h.ok hV)) (fun _ _ _ e => e) (fun g1 r1 e => ?_)
        have e1 : b2 (tv w 10 q' none []) (fun q _ T => cu w ((some (kk, 0 + 1), v, dd, F) :: fr :: l) q T) = b2 (b2 (tv w 10 q' none []) (fun q _ c => enT w en dd (F ++ c) q)) (fun q _ T => cu w (fr :: l) q T) := by
          rw [b2_as]
          refine congrArg (b2 _) (funext fun q => funext fun s => funext fun c => ?_)
          rw [cu_g, show (0 : Int32) + 1 = 1 from rfl, cu_s w hk0, hz1]
        rw [← e1]
        exact e
      refine ml_ms StR.lf h (fun e g1 h1 => pl_pos (by decide) ?_) (fun e => pl_neg (by decide) ?_)
      · rw [if_pos e]
        rcases h2 with ⟨e2, e3⟩ | ⟨e2, e3⟩
        · refine pl_pos (by rw [e2]; decide) ?_
          rw [e3]
          exact hli h1
        · refine pl_neg (by rw [c2_eq]; exact e2) ?_
          rw [e3]
          refine ml_mu StR.lf h1 (fun e4 g2 h4 => pl_neg (by decide) (hli h4)) (fun e4 g2 r2 h4 => pl_pos (by decide) ?_)
          unfold BM_asked_41 BM_asked_53
          exact pl_pos (by decide) (kWT.b h4)
      · rw [if_neg (by rw [e]; exact Bool.false_ne_true)]
        exact hsc h
/-- a branch of IF -/
theorem zbr_28 {ph : Int32} (x1 x3 : Int32) (hV : Vk 38 ph) (h : StR w f P0 n0 D0 K0 N0 t0 38 ph v dd F fr l q g r) : pl (BM_branch_28 L xs (m + 1) d k x1 (Int32.ofNat v) x3 g r) (kWT w f P0 n0 D0 K0 N0 t0 (b2 (tv w 13 q none []) fun q _ T => cu w ((some (38, ph), v, dd, F) :: fr :: l) q T)) kN := by
  have h' := h.ok hV
  have hG := h.gd
  unfold BM_branch_28 BM_branch_82
  refine pl_u (xM_isWord L xs 54 hG.1.mrd hG.2.2.2.1) (fun e => pl_pos (by decide) ?_) (fun e => pl_neg (by decide) ?_)
  · rw [tv_13, if_pos e, b2_o, hG.pla]
    have h1 := StP.lf.2 _ _ _ h' (ww_iff.mp e).1
    rw [hG.pla] at h1
    refine ml_mu StP.lf h1 (fun e2 g2 h2 => pl_neg (by decide) ?_) (fun e2 g2 r2 h2 => pl_pos (by decide) (kWT.b h2))
    refine sp_ch (-1) (fun q => absurd q.2 (by decide)) h2 (fun g3 r3 h3 => ?_)
    rw [cu_g]
    exact h3.kws
  · rw [tv_13, if_neg (by rw [e]; exact Bool.false_ne_true)]
    exact pl_n (zM_list h') (fun _ _ _ e => e) (fun g2 r2 e2 => e2)
theorem zM_branch {ph : Int32} (t1 : Int32) (hp : ph = 0 ∨ ph = 1 ∨ ph = 2) (h : StR w f P0 n0 D0 K0 N0 t0 38 (ph + 1) v dd F fr l q g r) : pl (ev L xs (m + 1) d nM_branch [.ref cM, .int t1, .int (Int32.ofNat v), .int ph] g r) (kWT w f P0 n0 D0 K0 N0 t0 (b2 (pcT w 38 ph dd F q) fun q _ T => cu w (fr :: l) q T)) kN := by
  cases d with
  | zero => trivial
  | succ d =>
    rw [qM_branch, pcT_38]
    unfold BM_branch_19
    refine pl_iq (fun h2 => ?_) (fun h2 => ?_)
    · rw [if_pos h2]
      exact pl_n (zM_scope0 73 (by decide) h) (fun _ _ _ e => e) (fun g1 r1 e => e)
    · rw [if_neg h2]
      refine pl_in (fun h1 => ?_) (fun h1 => ?_)
      · have hz : ph = 0 := by
          rcases hp with e | e | e
          · exact e
          · exact absurd e h1
          · exact absurd e h2
        subst hz
        rw [if_neg h1]
        refine pl_mono (zbr_28 t1 0 (Or.inr (Or.inr ⟨Or.inr (Or.inl rfl), Or.inr (Or.inl rfl)⟩)) h) (fun o g1 r1 e => ?_) (fun _ _ _ e => e)
        have e1 : b2 (tv w 13 q none []) (fun q _ T => cu w ((some (38, 0 + 1), v, dd, F) :: fr :: l) q T) = b2 (b2 (tv w 13 q none []) (fun q _ b => if1T w dd (F ++ b) q)) (fun q _ T => cu w (fr :: l) q T) := by
          rw [b2_as]
          refine congrArg (b2 _) (funext fun q => funext fun s => funext fun c => ?_)
          rw [cu_g, show (0 : Int32) + 1 = 1 from rfl, cu_s w (by decide), pcT_38, if_neg (by decide), if_pos rfl]
        rw [← e1]
        exact e
      · have hz : ph = 1 := Decidable.not_not.mp h1
        subst hz
        rw [if_pos rfl]
        unfold if1T
        refine ml_ms StR.lf h (fun e g1 hh1 => pl_pos (by decide) ?_) (fun e => pl_neg (by decide) ?_)
        · rw [if_pos e]
          refine pl_mono (zbr_28 t1 1 (Or.inr (Or.inr ⟨Or.inr (Or.inl rfl), Or.inr (Or.inr rfl)⟩)) hh1) (fun o g1 r1 e => ?_) (fun _ _ _ e => e)
          have e1 : b2 (tv w 13 (q + 1) none []) (fun q _ T => cu w ((some (38, 1 + 1), v, dd, F) :: fr :: l) q T) = b2 (b2 (tv w 13 (q + 1) none []) (fun q _ c => enT w 73 dd (F ++ c) q)) (fun q _ T => cu w (fr :: l) q T) := by
            rw [b2_as]
            refine congrArg (b2 _) (funext fun q => funext fun s => funext fun c => ?_)
            rw [cu_g, show (1 : Int32) + 1 = 2 from rfl, cu_s w (by decide), pcT_38, if_pos rfl]
          rw [← e1]
          exact e
        · rw [if_neg (by rw [e]; exact Bool.false_ne_true)]
          exact pl_n (zM_scope0 73 (by decide) h) (fun _ _ _ e => e) (fun g1 r1 e => e)
/-- WHENs -/
def WNT (L : Nat) (xs : Nat → Int32) (m d k : Nat) (w : Ws) (f : Gh) (P0 : Nat → Prop) (n0 : Nat) (D0 : Nat → TD) (K0 : Nat → List Nat) (N0 : Nat → Int32) (t0 : Nat × TD) (v : Nat) (dd : TD) (l : List Ofr) : Prop := (∀ (x1 x2 x3 : Int32) (q : Nat) (F : Tf) (g : a2_G) (r : a2_A), StP w f P0 n0 D0 K0 N0 t0 (none, v, dd, F) l q g r → pl (lp L xs nM_whens nm_m194 (m + 1) d k 42 [some (.ref cM), some (.int x1), some (.int x2), some (.int x3), some (.int (Int32.ofNat v))] g r) (kWT w f P0 n0 D0 K0 N0 t0 (b2 (tv w 16 q none F) fun q _ b => b2 (tv w 10 q none []) fun q _ c => cu w l q (nd dd (b ++ c)))) kN) ∧
  (∀ (z : Option R2) (x1 x2 x3 x4 : Int32) (b : Nat) (g : a2_G) (r : a2_A), Bd w f b g r → pl (lp L xs nM_whens nm_m194 (m + 1) d k 42 [some (.ref cM), some (.int x1), some (.int x2), some (.int x3), some (.int x4)] g r) (kWT w f P0 n0 D0 K0 N0 t0 z) kN)
theorem wnt_b {z : Option R2} (x1 x2 x3 x4 : Int32) {b : Nat} (h : Bd w f b g r) : pl (BM_whens_42 L xs (m + 1) d k x1 x2 x3 x4 g r) (kWT w f P0 n0 D0 K0 N0 t0 z) kN := by
  unfold BM_whens_42
  refine pl_e (xB_meets 59 h) (pl_pos (by decide) ?_)
  exact pl_n (xB_list x4 h) (fun _ _ _ e => e) (fun g1 r1 e => kWT.b e.2)
theorem wnt_1 (H : WNT L xs m d k w f P0 n0 D0 K0 N0 t0 v dd l) (x1 x2 x3 : Int32) (h : StP w f P0 n0 D0 K0 N0 t0 (none, v, dd, F) l q g r) : pl (BM_whens_42 L xs (m + 1) d k x1 x2 x3 (Int32.ofNat v) g r) (kWT w f P0 n0 D0 K0 N0 t0 (b2 (tv w 16 q none F) fun q _ b => b2 (tv w 10 q none []) fun q _ c => cu w l q (nd dd (b ++ c)))) kN := by
  unfold BM_whens_42
  refine ml_ms StP.lf h (fun e g1 h1 => pl_neg (by decide) ?_) (fun e => pl_pos (by decide) ?_)
  · rw [tv_16, if_pos e]
    have hG1 := h1.gd
    refine pl_u (xM_isWord L xs 60 hG1.1.mrd hG1.2.2.2.1) (fun e2 => pl_neg (by decide) ?_) (fun e2 => pl_pos (by decide) ?_)
    · rw [if_pos e2, hG1.pla]
      refine sp_ch (-1) (fun q => absurd q.2 (by decide)) h1 (fun g2 r2 h2 => ?_)
      exact H.1 x1 x2 x3 (q + 2) _ _ _ (StP.lf.2 _ _ _ h2 (ww_iff.mp e2).1)
    · rw [if_neg (by rw [e2]; exact Bool.false_ne_true)]
      exact sp_oi h1 (fun g2 r2 h2 _ => H.1 x1 x2 x3 (q + 2) _ _ _ h2) (fun b g2 r2 h2 => H.2 _ x1 x2 x3 _ b g2 r2 h2)
  · rw [tv_16, if_neg (by rw [e]; exact Bool.false_ne_true), b2_o]
    exact pl_n (zM_list h) (fun _ _ _ e => e) (fun g2 r2 e2 => e2)
theorem wnt_l : ∀ k, WNT L xs m d k w f P0 n0 D0 K0 N0 t0 v dd l
  | 0 => ⟨fun _ _ _ _ _ _ _ _ => pl_l0, fun _ _ _ _ _ _ _ _ _ => pl_l0⟩
  | k + 1 => ⟨fun x1 x2 x3 q F g r h => by
      rw [lM_whens_42]
      exact wnt_1 (wnt_l k) x1 x2 x3 h, fun z x1 x2 x3 x4 b g r h => by
      rw [lM_whens_42]
      exact wnt_b x1 x2 x3 x4 h⟩
theorem zM_whens {ph : Int32} (t1 x3 : Int32) (h : StR w f P0 n0 D0 K0 N0 t0 40 (ph + 1) v dd F fr l q g r) : pl (ev L xs (m + 1) d nM_whens [.ref cM, .int t1, .int (Int32.ofNat v), .int x3] g r) (kWT w f P0 n0 D0 K0 N0 t0 (b2 (pcT w 40 ph dd F q) fun q _ T => cu w (fr :: l) q T)) kN := by
  cases d with
  | zero => trivial
  | succ d =>
    have h' := h.ok (Or.inr (Or.inl rfl))
    have hG := h.gd
    rw [qM_whens, pcT_40, tv_14]
    refine pl_u (xM_isWord L xs 59 hG.1.mrd hG.2.2.2.1) (fun e => pl_pos (by decide) ?_) (fun e => pl_neg (by decide) ?_)
    · rw [if_pos e, hG.pla]
      refine sp_op (-1) (fun q => absurd q.2 (by decide)) h' (fun u g2 r2 h2 => ?_)
      have := wnt_1 (L := L) (xs := xs) (m := m) (d := d) (wnt_l m) t1 (Int32.ofNat v) x3 h2
      have e1 : b2 (b2 (b2 (tv w 15 q none []) (fun q _ b => tv w 14 q none (F ++ b))) (fun q _ b => enT w 75 dd b q)) (fun q _ T => cu w (fr :: l) q T) = b2 (tv w 16 q none []) fun q1 _ b => b2 (tv w 10 q1 none []) fun q2 _ c => cu w ((some (40, ph + 1), v, dd, F) :: fr :: l) q2 (nd (46, 0, Int32.ofNat q, -1) (b ++ c)) := by
        rw [tv_15, b2_as, b2_as, b2_as]
        refine congrArg (b2 _) (funext fun q1 => funext fun s => funext fun b => ?_)
        rw [b2_as]
        refine congrArg (b2 _) (funext fun q2 => funext fun s => funext fun c => ?_)
        rw [cu_g, cu_s w (by decide), pcT_40, b2_as]
        rfl
      rw [e1]
      exact this
    · rw [if_neg (by rw [e]; exact Bool.false_ne_true), b2_o]
      exact pl_n (zM_scope0 75 (by decide) h) (fun _ _ _ e => e) (fun g1 r1 e => e)
/-- the one on top goes on -/
theorem zM_goOn {a1 kk ph : Int32} (ha : a1.toInt = (pct (tg (fr :: l)) : Int)) (hk : kk ≠ 0) (h : StP w f P0 n0 D0 K0 N0 t0 (some (kk, ph), v, dd, F) (fr :: l) q g r) : pl (ev L xs (m + 1) d nM_goOn [.ref cM, .int a1, .int (Int32.ofNat v)] g r) (kWT w f P0 n0 D0 K0 N0 t0 (cu w ((some (kk, ph), v, dd, F) :: fr :: l) q [])) kN := by
  cases d with
  | zero => trivial
  | succ d =>
    obtain ⟨hWW, ⟨⟨x1, x1b, x1c⟩, x1'⟩, x2, x3, x4, x5⟩ := h
    have x1a : (r fM_pileKind).2 (pct (tg (fr :: l))) = kk := x1
    have x1b' : (r fM_pilePhase).2 (pct (tg (fr :: l))) = ph := x1b
    have hV := x4 kk ph rfl
    rw [qM_goOn, tn_at ha, x1a, x1b', cu_s w hk]
    refine pl_if (fun _ => pl_if (fun _ => pl_if (fun _ => ?_) (fun _ => trivial)) (fun _ => trivial)) (fun _ => trivial)
    have h1 : StR w f P0 n0 D0 K0 N0 t0 kk (ph + 1) v dd F fr l q g (a2_ua r fM_pilePhase ((r fM_pilePhase).1, (upd (r fM_pilePhase).2 (pct (tg (fr :: l))) (ph + 1)))) := by
      refine ⟨?_, ⟨⟨x1a, upd_eq, x1c⟩, PlR.fr (l := tg (fr :: l)) x1' (fun i hi => ⟨rfl, upd_ne (f := (r fM_pilePhase).2) (by omega), rfl⟩)⟩, x2, ?_, x5⟩
      · obtain ⟨P, n, D, K, N, hU, hn, n1, D1, K1, hA, hq, hN⟩ := hWW
        exact ⟨P, n, D, K, N, hU, hn, n1, D1, K1, hA.ua (by decide) (by decide) (by rfl), hq, hN⟩
      · exact x3
    generalize (a2_ua r fM_pilePhase ((r fM_pilePhase).1, (upd (r fM_pilePhase).2 (pct (tg (fr :: l))) (ph + 1)))) = r1 at h1
    unfold BM_goOn_137 BM_goOn_144
    rcases hV with e | e | ⟨e, ep⟩
    · exact absurd e hk
    · subst e
      refine pl_neg (by decide) (pl_neg (by decide) (pl_neg (by decide) (pl_pos (by decide) ?_)))
      exact pl_n (zM_whens a1 ph h1) (fun _ _ _ e => e) (fun g2 r2 e2 => e2)
    · rcases e with e | e | e | e | e
      · subst e
        refine pl_pos (by decide) ?_
        refine pl_n (zM_asked (one := 50) (k2 := 2) (Or.inl rfl) ep (Or.inr ⟨by decide, rfl⟩) (fun F q => ?_) (fun F q => ?_) h1) (fun _ _ _ e => e) (fun g2 r2 e2 => e2)
        · unfold pcT
          rw [if_pos rfl]
        · unfold pcT
          rw [if_pos rfl, if_pos (by decide)]
      · subst e
        refine pl_neg (by decide) (pl_pos (by decide) ?_)
        exact pl_n (zM_branch a1 ep h1) (fun _ _ _ e => e) (fun g2 r2 e2 => e2)
      · subst e
        refine pl_neg (by decide) (pl_neg (by decide) (pl_pos (by decide) ?_))
        rw [pcT_39]
        refine pl_in (fun h0 => ?_) (fun h0 => ?_)
        · rw [if_neg h0, b2_o]
          exact pl_n (zM_scope1 74 (by decide) h1) (fun _ _ _ e => e) (fun g2 r2 e2 => e2)
        · have hz0 : ph = 0 := Decidable.not_not.mp h0
          subst hz0
          rw [if_pos rfl]
          refine pl_n (zM_list (h1.ok (Or.inr (Or.inr ⟨Or.inr (Or.inr (Or.inl rfl)), Or.inr (Or.inl rfl)⟩)))) (fun _ _ _ e => e) (fun g2 r2 e2 => ?_)
          have e1 : b2 (tv w 10 q none []) (fun q _ T => cu w ((some (39, 0 + 1), v, dd, F) :: fr :: l) q T) = b2 (b2 (tv w 10 q none []) (fun q _ c => o2 (q + 1) (nd (tdx dd 1) (F ++ c)))) (fun q _ T => cu w (fr :: l) q T) := by
            rw [b2_as]
            refine congrArg (b2 _) (funext fun q => funext fun s => funext fun c => ?_)
            rw [cu_g, show (0 : Int32) + 1 = 1 from rfl, cu_s w (by decide), pcT_39, if_neg (by decide)]
          rw [← e1]
          exact e2
      · subst e
        refine pl_neg (by decide) (pl_neg (by decide) (pl_neg (by decide) (pl_neg (by decide) (pl_pos (by decide) ?_))))
        refine pl_n (zM_asked (one := 61) (k2 := 2) (Or.inr (Or.inl rfl)) ep (Or.inr ⟨by decide, rfl⟩) (fun F q => ?_) (fun F q => ?_) h1) (fun _ _ _ e => e) (fun g2 r2 e2 => e2)
        · unfold pcT
          rw [if_neg (by decide), if_pos rfl]
        · unfold pcT
          rw [if_neg (by decide), if_pos rfl, if_pos (by decide)]
      · subst e
        refine pl_neg (by decide) (pl_neg (by decide) (pl_neg (by decide) (pl_neg (by decide) (pl_neg (by decide) (pl_pos (by decide) ?_)))))
        refine pl_n (zM_asked (one := 62) (k2 := 1) (Or.inr (Or.inr rfl)) ep (Or.inl ⟨rfl, rfl⟩) (fun F q => ?_) (fun F q => ?_) h1) (fun _ _ _ e => e) (fun g2 r2 e2 => e2)
        · unfold pcT
          rw [if_neg (by decide), if_neg (by decide), if_pos rfl]
        · unfold pcT
          rw [if_neg (by decide), if_neg (by decide), if_pos rfl, if_pos (by decide)]
/-- the loop over the pile -/
def kSI (w : Ws) (f : Gh) (P0 : Nat → Prop) (n0 : Nat) (D0 : Nat → TD) (K0 : Nat → List Nat) (N0 : Nat → Int32) (t0 : Nat × TD) (z : Option R2) (g : a2_G) (r : a2_A) : Prop := kWT w f P0 n0 D0 K0 N0 t0 z none g r ∨ (g fM_piled = 0 ∧ ∃ q b, z = o2 q b ∧ Wn P0 w f n0 D0 K0 N0 q t0.1 (nd t0.2 b) g r)
def STT (L : Nat) (xs : Nat → Int32) (m d k : Nat) (w : Ws) (f : Gh) (P0 : Nat → Prop) (n0 : Nat) (D0 : Nat → TD) (K0 : Nat → List Nat) (N0 : Nat → Int32) (t0 : Nat × TD) : Prop := ∀ (x1 x2 : Int32) (z : Option R2) (g : a2_G) (r : a2_A), kSI w f P0 n0 D0 K0 N0 t0 z g r → pl (lp L xs nM_statements nm_m186 (m + 1) d k 16 [some (.ref cM), some (.int x1), some (.int x2)] g r) (kMI P0 w f n0 D0 K0 N0 t0.1 t0.2 z) kN
theorem stt_1 (H : STT L xs m d k w f P0 n0 D0 K0 N0 t0) (x1 x2 : Int32) {z : Option R2} (hS : kSI w f P0 n0 D0 K0 N0 t0 z g r) : pl (BM_statements_16_1 L xs (m + 1) d k x1 x2 g r) (kMI P0 w f n0 D0 K0 N0 t0.1 t0.2 z) kN := by
  unfold BM_statements_16_1 BM_statements_136_1 BM_statements_133
  rcases hS with ⟨-, ⟨b, h⟩ | ⟨kk, ph, v, dd, F, l, q, h, rfl⟩⟩ | ⟨h0, q, b, rfl, h⟩
  · exact pl_if (fun _ => ⟨rfl, Or.inl ⟨b, h⟩⟩) (fun _ => pl_pos (by rw [c2_ne, h.2.2.1]; decide) ⟨rfl, Or.inl ⟨b, h⟩⟩)
  · have hG := h.gd
    have hx := h.2
    have x2' : (g fM_piled).toInt = ((pct (tg l) + 1 : Nat) : Int) := hx.2.1
    have ht : (g fM_piled - 1).toInt = (pct (tg l) : Int) := by
      rw [i32_dec (by omega), x2']
      omega
    have hk : (r fM_pileKind).2 (pct (tg l)) = kk := hx.1.1.1
    have hph : (r fM_pilePhase).2 (pct (tg l)) = ph := hx.1.1.2.1
    have hnode : (r fM_pileNode).2 (pct (tg l)) = Int32.ofNat v := hx.1.1.2.2
    rw [tn_at ht, hk]
    refine pl_neg (by rw [c2_le, i32_0]; omega) (pl_neg (by rw [c2_ne, hG.2.2.1]; decide) (pl_if (fun _ => ?_) (fun _ => trivial)))
    refine pl_iq (fun ck0 => ?_) (fun ck0 => ?_)
    · subst ck0
      refine pl_u (xM_begins L xs hG.1.mrd hG.2.2.2.1) (fun e => pl_neg (by decide) ?_) (fun e => pl_pos (by decide) ?_)
      · refine pl_if (fun _ => pl_if (fun _ => ?_) (fun _ => trivial)) (fun _ => trivial)
        rw [hnode]
        have h1 : StP w f P0 n0 D0 K0 N0 t0 (some (0, 1), v, dd, F) l q g (a2_ua r fM_pilePhase ((r fM_pilePhase).1, (upd (r fM_pilePhase).2 (pct (tg l)) 1))) := by
          obtain ⟨⟨P, n, D, K, N, hU, hn, n1, D1, K1, hA, hq, hN⟩, ⟨⟨y1, y1b, y1c⟩, y1'⟩, y2, y3, y4⟩ := h
          refine ⟨⟨P, n, D, K, N, hU, hn, n1, D1, K1, hA.ua (by decide) (by decide) (by rfl), hq, hN⟩, ⟨⟨y1, upd_eq, y1c⟩, PlR.fr (l := tg l) y1' (fun i hi => ⟨rfl, upd_ne (f := (r fM_pilePhase).2) (by omega), rfl⟩)⟩, y2, y3, ?_⟩
          cases l with
          | nil => exact ⟨1, rfl⟩
          | cons a l => exact ⟨fun k ph e => by cases e; exact Or.inl rfl, y4.2⟩
        have ez : cu w ((some (0, ph), v, dd, F) :: l) q [] = b2 (tv w (100 + (w.2.1 q).toInt.toNat) q none []) (fun q _ T => cu w ((some (0, 1), v, dd, F) :: l) q T) := by
          rw [cu_l, tv_11, if_pos e, b2_as]
          refine congrArg (b2 _) (funext fun q => funext fun s => funext fun c => ?_)
          rw [cu_g, cu_l]
        rw [ez]
        refine pl_n (zM_statement h1 e) (fun _ _ _ e => e) (fun g2 r2 e2 => ?_)
        exact H x1 _ _ g2 r2 (Or.inl e2)
      · refine pl_if (fun _ => ?_) (fun _ => trivial)
        refine pl_in (fun cp => ?_) (fun cp => ?_)
        · refine H x1 _ _ _ _ ?_
          rw [cu_l, tv_11, if_neg (by rw [e]; exact Bool.false_ne_true), b2_o]
          obtain ⟨⟨P, n, D, K, N, hU, hn, hW⟩, ⟨-, y1'⟩, -, y3, y4⟩ := h
          have hW2 : Wn P w f n D K N q v (nd dd F) (upd (upd g fM_piled (g fM_piled - 1)) fM_level (g fM_level - 1)) r := (hW.ug (by decide)).ug (by decide)
          have y3' : (g fM_level).toInt + 1 = ((lct (tg l) + (if (0 : Int32) = 0 then 1 else 0) : Nat) : Int) ∧ lct (tg l) + (if (0 : Int32) = 0 then 1 else 0) ≤ 41 := y3
          rw [if_pos rfl] at y3'
          cases l with
          | nil =>
            rw [if_pos rfl]
            obtain ⟨rfl, rfl, rfl, rfl, rfl, hv, hd⟩ := hU
            have hv' : v = t0.1 := hv
            have hd' : dd = t0.2 := hd
            exact Or.inr ⟨i32e (ht.trans rfl), q, F, rfl, by rw [← hv', ← hd']; exact hW2⟩
          | cons a l =>
            rw [if_neg (by simp)]
            obtain ⟨t', v', dd', F'⟩ := a
            rw [cu_g]
            refine Or.inl (StP.kws (fr := (t', v', dd', F' ++ nd dd F)) ⟨hU.cl hW2, y1', ?_, ?_, y4.2⟩)
            · exact ht
            · show (g fM_level - 1).toInt + 1 = _ ∧ _
              have := lct_pos y4.2
              rw [i32_dec (by omega)]
              refine ⟨?_, ?_⟩
              · have := y3'.1
                show (g fM_level).toInt - 1 + 1 = (lct (tg ((t', v', dd', F') :: l)) : Int)
                omega
              · have := y3'.2
                show lct (tg ((t', v', dd', F') :: l)) ≤ 41
                omega
        · exact pm_fa hG hG.2.2.2.1 hG.2.2.2.2 (fun g2 r2 h2 f2 => H x1 _ _ _ _ (Or.inl (kWT.b h2)))
    · refine pl_if (fun _ => ?_) (fun _ => trivial)
      rw [hnode]
      cases l with
      | nil =>
        obtain ⟨ph', e⟩ := hx.2.2.2
        cases e
        exact absurd rfl ck0
      | cons a l =>
        refine pl_n (zM_goOn ht ck0 h) (fun _ _ _ e => e) (fun g2 r2 e2 => ?_)
        exact H x1 _ _ g2 r2 (Or.inl e2)
  · exact pl_pos (by rw [c2_le, h0]; decide) ⟨rfl, Or.inr ⟨q, none, b, rfl, h⟩⟩
theorem stt_l : ∀ k, STT L xs m d k w f P0 n0 D0 K0 N0 t0
  | 0 => fun _ _ _ _ _ _ => pl_l0
  | k + 1 => fun x1 x2 z g r h => by
    rw [lM_statements_16_1]
    exact stt_1 (stt_l k) x1 x2 h
theorem zM_statements (hn : 1 ≤ n) (h : Wn P w f n D K N p v (nd dd F) g r) : pl (ev L xs (m + 1) d nM_statements [.ref cM, .int (Int32.ofNat v)] g r) (kMI P w f n D K N v dd (b2 (tv w 11 p none F) fun q _ b => o2 q b)) kN := by
  cases d with
  | zero => trivial
  | succ d =>
    rw [qM_statements]
    have h1 : Wn P w f n D K N p v (nd dd F) (upd (upd g fM_piled 0) fM_level 0) r := (h.ug (by decide)).ug (by decide)
    refine pl_n (Q1 := fun o g' r' => g' = upd (upd (upd g fM_piled 0) fM_level 0) fM_piled 1 ∧ r' = (a2_ua (a2_ua (a2_ua r fM_pileKind ((r fM_pileKind).1, (upd (r fM_pileKind).2 0 0))) fM_pileNode ((r fM_pileNode).1, (upd (r fM_pileNode).2 0 (Int32.ofNat v)))) fM_pilePhase ((r fM_pilePhase).1, (upd (r fM_pilePhase).2 0 0)))) (X1 := kN) ?_ (fun _ _ _ e => e) (fun g4 r4 e4 => ?_)
    · cases d with
      | zero => trivial
      | succ d =>
        rw [qM_pile]
        refine pl_if (fun ci => pl_if (fun _ => pl_if (fun _ => ?_) (fun _ => trivial)) (fun _ => trivial)) (fun _ => trivial)
        exact ⟨rfl, rfl⟩
    · obtain ⟨rfl, rfl⟩ := e4
      have ez : (b2 (tv w 11 p none F) fun q _ b => o2 q b) = cu w [(some (0, 0), v, dd, F)] p [] := by
        rw [cu_l]
        rfl
      rw [ez]
      refine stt_1 (t0 := (v, dd)) (stt_l m) (Int32.ofNat v) 0 (Or.inl (StP.kws (fr := (some (0, 0), v, dd, F)) ⟨⟨P, n, D, K, N, ⟨rfl, rfl, rfl, rfl, rfl, rfl, rfl⟩, hn, ?_⟩, ⟨⟨⟨upd_eq (f := (r fM_pileKind).2) (k := 0), upd_eq (f := (r fM_pilePhase).2) (k := 0), upd_eq (f := (r fM_pileNode).2) (k := 0)⟩, trivial⟩, rfl, ⟨rfl, show (1 : Nat) ≤ 41 by decide⟩, ⟨0, rfl⟩⟩⟩))
      obtain ⟨n1, D1, K1, hA, hq, hN⟩ := h1
      exact ⟨n1, D1, K1, (((hA.ug (by decide)).ua (by decide) (by decide) (by rfl)).ua (by decide) (by decide) (by rfl)).ua (by decide) (by decide) (by rfl), hq, hN⟩
end
