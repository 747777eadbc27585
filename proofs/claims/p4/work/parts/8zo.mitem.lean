/-! The model's items with their trees. -/
section
variable {L : Nat} {xs : Nat → Int32} {m d k : Nat} {w : Ws} {f : Gh} {p q : Nat} {c : CU} {x : Xs} {un : Nat} {g : a2_G} {r : a2_A} {kv : Int32 → a2_G → a2_A → Option fn_Z} {kn : a2_G → a2_A → Option fn_Z} {Q : Option Value → a2_G → a2_A → Prop} {X : Nat → a2_G → a2_A → Prop} {n : Nat} {D : Nat → TD} {K : Nat → List Nat} {N : Nat → Int32} {ids : List Nat} {ch : List Ce} {dd : TD} {F : Tf}
theorem sP_N {v : Int32} {j : Nat} : oN (sP c v j) = oN c := by
  unfold sP
  split <;> rfl
theorem sP_T {v : Int32} {j : Nat} : oT (sP c v j) = oT c := by
  unfold sP
  split <;> rfl
theorem zit_300 (hH : HM (oN c) (oT c).toInt (oI c) x.2 ids f.2.1 f.2.2) (hZ : Zc K D n ids (rz x.1)) (hU : (f.2.1 fM_units).toInt = (un : Int)) (hX : UMz c ids n D K un f.2.2) (hn1 : 1 ≤ n) (hF0 : cQ F = 0) (hdd : dd.1 = 12) (x1 x3 x4 x6 : Int32) {x2 x7 y : Int32} {j : Nat} (hs : 5 ≤ (oT c).toInt ∧ (oT c).toInt ≤ 7) (hj : j ≤ oI c) (h49 : j < 49) (h88 : ¬ x2 = 88) (ha : Pt ids (x.2.1 + j) x7) (h : Wn NP w f n D K N q n (nd dd F) g r) (hy : y.toInt = (j : Int)) : pl (BM_item_300 L xs (m + 1) d k x1 x2 x3 x4 (Int32.ofNat n) x6 x7 (upd g fM_items y) r) (kMT f (some (q, attC (x.2.1 + j) x.1 (dd, F), x.2)) (sP c x2 j) un) kN := by
  have hx := rz_ne hZ hH.1
  obtain ⟨n1, D1, K1, hA, hq, hN⟩ := h
  have hG := hA.1
  have hh := hH.gd hG
  have hR : Rm n1 D1 K1 (upd g fM_items y) r := hA.2.cg
  unfold BM_item_300
  refine pl_n (at_core hZ ha hn1 hq hR hA.ml) (fun _ _ _ e => e) (fun g2 r2 e => ?_)
  obtain ⟨K', e1, e2, rfl, e4, e5, e6⟩ := e
  rw [← rz_att hx] at e2
  have en : ((upd g fM_items y) fM_items).toNatClampNeg = j := tn_at hy
  refine pl_if (fun _ => pl_if (fun _ => ?_) (fun _ => trivial)) (fun _ => trivial)
  rw [en]
  have e3 : sP c x2 j = (oN c, oS c, oK c, oM c, oC c, j + 1, upd (oL c) j x2) := by
    unfold sP
    rw [if_neg (fun e3 => e3.elim h88 (fun e4 => by omega))]
  have eI : oI (sP c x2 j) = j + 1 := by
    rw [e3]
    rfl
  obtain ⟨v1, v5, v2, v3, v4⟩ := hh.2.2.2.2.1 hs.1 hs.2
  have hdv := hh.2.2.1 (by omega) (by omega)
  rw [dvM_d (by omega)] at hdv
  refine kMT.mk e1.cg (by rw [sP_T]; exact fun e => by rw [e] at hs; exact absurd hs.1 (by decide)) e2 ?_ (hA.uns hU) hG.2.2.2.1 (hX.att hZ hH.1 e6 (by rw [cQ_nd, hF0, hdd]; rfl) (by rw [hdd]; decide) ⟨(e5 fM_unitNode (by decide)).trans hG.rows.1, (e5 fM_environment (by decide)).trans hG.rows.2.1, (e5 fM_data (by decide)).trans hG.rows.2.2.1, (e5 fM_procedure (by decide)).trans hG.rows.2.2.2⟩ sP_N ⟨by rw [sP_T]; exact id, by rw [sP_T]; exact id, by rw [sP_T]; exact id⟩ (by omega) (by omega))
  rw [sP_N, sP_T, eI]
  refine ⟨hh.1.att (by omega) ha.lt, hh.2.1.att (by omega) ha.lt rfl (e5 fM_its (by decide)) (e5 fM_unitNode (by decide)), fun _ _ => ?_, fun a b => (hh.2.2.2.1 a b).att (by omega) ha.lt, fun a b => ⟨v1, v5, v2.att (by omega) ha.lt, fun i hi => ?_, fun _ => ?_⟩, fun e => by omega, fun e => by omega⟩
  · rw [dvM_d (by omega)]
    show Pt _ _ ((r2 fM_data).2 ((r2 fM_its).2 (oN c - 1)).toNatClampNeg)
    rw [e5 fM_data (by decide), e5 fM_its (by decide)]
    exact hdv.att (by omega) ha.lt
  · show Pt _ _ (upd (r2 fM_itemNode).2 j (Int32.ofNat n) i)
    by_cases ei : i = j
    · rw [ei, upd_eq, show x.2.1 + 1 + j = x.2.1 + j + 1 by omega]
      exact Pt.new ha.lt
    · rw [upd_ne ei, e5 fM_itemNode (by decide)]
      exact (v3 i (by omega)).att (by omega) ha.lt
  · show Int32.ofNat n = upd (r2 fM_itemNode).2 j (Int32.ofNat n) (j + 1 - 1)
    rw [show j + 1 - 1 = j by omega, upd_eq]
theorem zit_223 (hM : Mc c f.2.1 f.2.2) (hH : HM (oN c) (oT c).toInt (oI c) x.2 ids f.2.1 f.2.2) (hZ : Zc K D n ids (rz x.1)) (hU : (f.2.1 fM_units).toInt = (un : Int)) (hX : UMz c ids n D K un f.2.2) (hn1 : 1 ≤ n) (hF0 : cQ F = 0) (hdd : dd.1 = 12) (x1 x4 x6 : Int32) {x2 x3 : Int32} {j : Nat} (hs : 5 ≤ (oT c).toInt ∧ (oT c).toInt ≤ 7) (hP : Pl c x2 x3 j) (ho : oP c x2 = some j) (h : Wn NP w f n D K N q n (nd dd F) g r) (hq : q < w.2.2) : pl (BM_item_223 L xs (m + 1) d k x1 x2 x3 x4 (Int32.ofNat n) x6 g r) (kMT f (some (q + 1, attC (x.2.1 + j) x.1 (dd, F), x.2)) (sP c x2 j) un) kN := by
  have hx := rz_ne hZ hH.1
  have h1 := Wn.lf.2 _ _ _ h hq
  have hG := h.gd
  have hG1 := h1.gd
  have hm := hM.gd hG1
  have hh := hH.gd hG1
  have hI := hm.2.2.2.2.1 hs
  obtain ⟨v1, v5, v2, v3, v4⟩ := hh.2.2.2.2.1 hs.1 hs.2
  unfold BM_item_223 BM_item_274
  refine pl_pos (by rw [c2_eq]; exact hG.2.2.1) ?_
  rcases hP with ⟨hv, rfl, rfl⟩ | ⟨rfl, rfl, hi⟩ | ⟨hv1, hv2, rfl, hj, hj0⟩
  · have n88 : ¬ x2 = 88 := by rcases hv with rfl | rfl <;> decide
    refine pl_pos (by rw [c2_ne]; exact n88) (pl_neg (by decide) (pl_neg (by decide) ?_))
    exact zit_300 hH hZ hU hX hn1 hF0 hdd _ _ _ _ hs (Nat.zero_le _) (by decide) n88 v2 h1 rfl
  · have hjI := (oP_i ho).2 rfl
    subst hjI
    refine pl_neg (by decide) ?_
    have ha : Pt ids (x.2.1 + oI c) (g fM_latest) := by
      have e4 : g fM_latest = _ := v4 hi
      rw [e4]
      have := v3 (oI c - 1) (by omega)
      rw [show x.2.1 + 1 + (oI c - 1) = x.2.1 + oI c by omega] at this
      exact this
    refine ml_at hZ ha hn1 h1 (fun n' D' K' r4 h4 hZ4 hr4 hat => ?_)
    rw [← rz_att hx] at hZ4
    have hG4 := h4.1
    have hh4 := hH.gd hG4
    obtain ⟨u1, u5, u2, u3, u4⟩ := hh4.2.2.2.2.1 hs.1 hs.2
    have hdv := hh4.2.2.1 (by omega) (by omega)
    have es : sP c 88 (oI c) = c := by
      unfold sP
      rw [if_pos (Or.inl rfl)]
    rw [es]
    refine kMT.mk h4.2 (fun e => by rw [e] at hs; exact absurd hs.1 (by decide)) hZ4 ?_ (h4.uns hU) hG4.2.2.2.1 (hX.att hZ hH.1 hat (by rw [cQ_nd, hF0, hdd]; rfl) (by rw [hdd]; decide) hG4.rows rfl ⟨id, id, id⟩ (by omega) (by omega))
    exact ⟨hh4.1.att (by omega) ha.lt, hh4.2.1.att (by omega) ha.lt, fun _ _ => hdv.att (by omega) ha.lt, fun a b => (hh4.2.2.2.1 a b).att (by omega) ha.lt, fun a b => ⟨u1, u5, u2.att (by omega) ha.lt, fun i hi => (u3 i hi).att (by omega) ha.lt, u4⟩, fun e => by omega, fun e => by omega⟩
  · have n88 : ¬ x2 = 88 := fun e => by rw [e] at hv2; exact absurd hv2 (by decide)
    refine pl_pos (by rw [c2_ne]; exact n88) (pl_pos (by decide) ?_)
    refine pl_v (xM_within x2 (lw := oL c) hI.1 (fun t ht => (hI.2.2 t ht).1)) (fun _ _ _ e => e) (fun v g2 r2 e2 => ?_)
    obtain ⟨v', ev, hvv, rfl, rfl⟩ := e2
    cases ev
    rw [← hj] at hvv
    have hjI : j ≤ oI c := by
      rw [hj]
      exact kpN_le _ _ _
    obtain ⟨t, rfl⟩ : ∃ t, j = t + 1 := ⟨j - 1, by omega⟩
    have hlt := kpN_lt hj.symm
    have hge := (hI.2.2 t (by omega)).2
    refine pl_pos (by decide) (pl_if (fun _ => ?_) (fun _ => trivial))
    have hv1' : (v + 1).toInt = ((t + 1 : Nat) : Int) := by
      rw [i32_inc (by omega), hvv]
      omega
    have e1 : (v + 1 - 1).toNatClampNeg = t := by
      rw [nc_eq, i32_dec (by omega), hv1']
      omega
    rw [e1]
    refine zit_300 hH hZ hU hX hn1 hF0 hdd _ _ _ _ hs hjI (by omega) n88 ?_ h1 hv1'
    have := v3 t (by omega)
    rw [show x.2.1 + 1 + t = x.2.1 + (t + 1) by omega] at this
    exact this
/-- what goes on behind an item's clauses -/
def ITT (L : Nat) (xs : Nat → Int32) (m d k : Nat) (w : Ws) (f : Gh) (n : Nat) (D : Nat → TD) (K : Nat → List Nat) (N : Nat → Int32) (c : CU) (x : Xs) (un j : Nat) (dd : TD) (x1 x2 x3 x4 : Int32) : Prop := (∀ (q : Nat) (F : Tf) (g : a2_G) (r : a2_A), cQ F = 0 → Wn NP w f n D K N q n (nd dd F) g r → pl (lp L xs nM_item nm_m162 (m + 1) d k 178 [some (.ref cM), some (.int x1), some (.int x2), some (.int x3), some (.int x4), some (.int (Int32.ofNat n)), some (.int 1)] g r) (kMT f (pI c x x2 j dd (tv w 24 q none F)) (sP c x2 j) un) kN) ∧
  (∀ (z : Option (Nat × Xs)) (b : Nat) (g : a2_G) (r : a2_A), Bd w f b g r → pl (lp L xs nM_item nm_m162 (m + 1) d k 178 [some (.ref cM), some (.int x1), some (.int x2), some (.int x3), some (.int x4), some (.int (Int32.ofNat n)), some (.int 1)] g r) (kMT f z (sP c x2 j) un) kN) ∧
  (∀ (q : Nat) (F : Tf) (g : a2_G) (r : a2_A), cQ F = 0 → Wn NP w f n D K N q n (nd dd F) g r → wk w q 4 = true → pl (lp L xs nM_item nm_m162 (m + 1) d k 178 [some (.ref cM), some (.int x1), some (.int x2), some (.int x3), some (.int x4), some (.int (Int32.ofNat n)), some (.int 0)] g r) (kMT f (some (q + 1, attC (x.2.1 + j) x.1 (dd, F), x.2)) (sP c x2 j) un) kN)
theorem itt_1 {j : Nat} {x1 x2 x3 x4 : Int32} (hn1 : 1 ≤ n) (H : ITT L xs m d k w f n D K N c x un j dd x1 x2 x3 x4) (hF0 : cQ F = 0) (h : Wn NP w f n D K N q n (nd dd F) g r) : pl (BM_item_178 L xs (m + 1) d k x1 x2 x3 x4 (Int32.ofNat n) 1 g r) (kMT f (pI c x x2 j dd (tv w 24 q none F)) (sP c x2 j) un) kN := by
  have hG := h.gd
  unfold BM_item_178 BM_item_207
  refine pl_neg (by decide) (pl_neg (by rw [c2_ne, hG.2.2.1]; decide) ?_)
  rw [tv_24]
  refine pl_u (xM_isKind L xs 4 hG.1.mrd hG.2.2.2.1) (fun e => pl_pos (by decide) (pl_pos (by decide) ?_)) (fun e => pl_neg (by decide) (pl_neg (by decide) ?_))
  · rw [if_pos e]
    exact H.2.2 q F g r hF0 h e
  · rw [if_neg (by rw [e]; exact Bool.false_ne_true)]
    refine pl_n (zM_described2 hn1 h) (fun _ _ _ e => e) (fun g2 r2 e2 => ?_)
    obtain ⟨-, ⟨b, h2⟩ | ⟨q2, s2, T2, ez, h2⟩⟩ := e2
    · exact H.2.1 _ b g2 r2 h2
    · rw [ez, b2_s]
      exact H.1 q2 _ g2 r2 (by rw [cQ_app, hF0, tv_nk rfl ez]) h2
theorem itt_l (hM : Mc c f.2.1 f.2.2) (hH : HM (oN c) (oT c).toInt (oI c) x.2 ids f.2.1 f.2.2) (hZ : Zc K D n ids (rz x.1)) (hU : (f.2.1 fM_units).toInt = (un : Int)) (hX : UMz c ids n D K un f.2.2) (hn1 : 1 ≤ n) (hdd : dd.1 = 12) {j : Nat} {x1 x2 x3 x4 : Int32} (hs : 5 ≤ (oT c).toInt ∧ (oT c).toInt ≤ 7) (hP : Pl c x2 x3 j) (ho : oP c x2 = some j) : ∀ k, ITT L xs m d k w f n D K N c x un j dd x1 x2 x3 x4
  | 0 => ⟨fun _ _ _ _ _ _ => pl_l0, fun _ _ _ _ _ => pl_l0, fun _ _ _ _ _ _ _ => pl_l0⟩
  | k + 1 => ⟨fun q F g r hF0 h => by
      rw [lM_item_178]
      exact itt_1 hn1 (itt_l hM hH hZ hU hX hn1 hdd hs hP ho k) hF0 h, fun z b g r h => by
      rw [lM_item_178]
      unfold BM_item_178 BM_item_223
      exact pl_neg (by decide) (pl_pos (by rw [c2_ne, h.2.2.1]; decide) (pl_neg (by rw [c2_eq, h.2.2.1]; decide) (kMT.b h))), fun q F g r hF0 h e => by
      rw [lM_item_178]
      unfold BM_item_178
      exact pl_pos (by decide) (zit_223 hM hH hZ hU hX hn1 hF0 hdd _ _ _ hs hP ho h (wk_iff.mp e).1)⟩
theorem zit_78 (hM : Mc c f.2.1 f.2.2) (hw : Wv w) (hH : HM (oN c) (oT c).toInt (oI c) x.2 ids f.2.1 f.2.2) (hZ : Zc K D n ids (rz x.1)) (hU : (f.2.1 fM_units).toInt = (un : Int)) (hX : UMz c ids n D K un f.2.2) {x2 x3 : Int32} {j : Nat} (hs : 5 ≤ (oT c).toInt ∧ (oT c).toInt ≤ 7) (hP : Pl c x2 x3 j) (ho : oP c x2 = some j) (h : Am w f p n D K g r) (hp : p < w.2.2) : pl (BM_item_78 L xs (m + 1) d k (Int32.ofNat p) x2 x3 g r) (kMT f (pI c x x2 j (12, 1000 * x2 + (itn w (p + 1)).1, Int32.ofNat p, -1) (tv w 24 (itn w (p + 1)).2 none [])) (sP c x2 j) un) kN := by
  have h158 : ∀ (x4 : Int32) (q : Nat) (g' : a2_G), Am w f q n D K g' r → pl (BM_item_158 L xs (m + 1) d k (Int32.ofNat p) x2 x3 x4 g' r) (kMT f (pI c x x2 j (12, 1000 * x2 + x4, Int32.ofNat p, -1) (tv w 24 q none [])) (sP c x2 j) un) kN := by
    intro x4 q g' h'
    unfold BM_item_158
    refine ml_nm (-1) (fun q => absurd q.1 (by decide)) h' (fun g2 r2 h2 => ?_)
    exact itt_1 h.2.2.1 (itt_l hM hH hZ hU hX h.2.2.1 rfl hs hP ho k) rfl h2
  have h1 := h.up hp
  have hG1 := h1.1
  unfold BM_item_78 itn
  have ea : (g fM_at + 1).toInt = ((p + 1 : Nat) : Int) := h.1.add
  refine pl_u (xM_isKind L xs 1 hG1.1.mrd ea) (fun e => pl_neg (by decide) ?_) (fun e => pl_pos (by decide) ?_)
  · refine pl_if (fun _ => ?_) (fun _ => trivial)
    rw [e, if_pos rfl]
    have hk := wk_iff.mp e
    have hb := hw (p + 1) hk.1 hk.2
    rw [hG1.nat, hG1.1.mrd.2.1]
    unfold BM_item_115
    refine pl_neg (by rw [c2_le, i32_inc (by omega), i32_0]; omega) ?_
    exact h158 _ _ _ (h1.up hk.1)
  · rw [e, if_neg Bool.false_ne_true]
    unfold BM_item_115
    refine pl_pos (by decide) ?_
    refine pl_u (xM_isWord L xs 18 hG1.1.mrd hG1.2.2.2.1) (fun e2 => pl_neg (by decide) ?_) (fun e2 => pl_pos (by decide) ?_)
    · rw [e2]
      exact h158 _ _ _ (h1.up (ww_iff.mp e2).1)
    · rw [e2]
      exact h158 _ _ _ h1
theorem zM_item (hM : Mc c f.2.1 f.2.2) (hw : Wv w) (hH : HM (oN c) (oT c).toInt (oI c) x.2 ids f.2.1 f.2.2) (hZ : Zc K D n ids (rz x.1)) (hU : (f.2.1 fM_units).toInt = (un : Int)) (hX : UMz c ids n D K un f.2.2) (hs : 5 ≤ (oT c).toInt ∧ (oT c).toInt ≤ 7) (h : Am w f p n D K g r) (hp : p < w.2.2) : pl (ev L xs (m + 1) d nM_item [.ref cM] g r) (fun o g' r' => o = none ∧ (g' fM_faults = f.1 + 1 ∨ ∃ i, oP c (w.2.1 p) = some i ∧ kMT f (pI c x (w.2.1 p) i (12, 1000 * w.2.1 p + (itn w (p + 1)).1, Int32.ofNat p, -1) (tv w 24 (itn w (p + 1)).2 none [])) (sP c (w.2.1 p) i) un o g' r')) kN := by
  cases d with
  | zero => trivial
  | succ d =>
    have hG := h.1
    have hm := hM.gd hG
    have hI := hm.2.2.2.2.1 hs
    rw [qM_item, hG.nat, hG.1.mrd.2.1, hG.pla]
    generalize hv : w.2.1 p = v
    have go : ∀ (x3 : Int32) (j : Nat), Pl c v x3 j → oP c v = some j → pl (BM_item_78 L xs (m + 1) d m (Int32.ofNat p) v x3 g r) (fun o g' r' => o = none ∧ (g' fM_faults = f.1 + 1 ∨ ∃ i, oP c v = some i ∧ kMT f (pI c x v i (12, 1000 * v + (itn w (p + 1)).1, Int32.ofNat p, -1) (tv w 24 (itn w (p + 1)).2 none [])) (sP c v i) un o g' r')) kN := by
      intro x3 j hP ho
      refine pl_mono (zit_78 hM hw hH hZ hU hX hs hP ho h hp) (fun o g' r' e => ⟨e.1, Or.inr ⟨j, ho, e⟩⟩) (fun _ _ _ e => e)
    have bad : ∀ x3 : Int32, pl (BM_item_67 L xs (m + 1) d m (Int32.ofNat p) v x3 g r) (fun o g' r' => o = none ∧ (g' fM_faults = f.1 + 1 ∨ ∃ i, oP c v = some i ∧ kMT f (pI c x v i (12, 1000 * v + (itn w (p + 1)).1, Int32.ofNat p, -1) (tv w 24 (itn w (p + 1)).2 none [])) (sP c v i) un o g' r')) kN := by
      intro x3
      unfold BM_item_67
      exact pm_fa hG hG.2.2.2.1 hG.2.2.2.2 (fun g2 r2 h2 f2 => ⟨rfl, Or.inl h2.2.1⟩)
    have b49 : ¬ (v = 1 ∨ v = 77) → pl (BM_item_49 L xs (m + 1) d m (Int32.ofNat p) v 0 g r) (fun o g' r' => o = none ∧ (g' fM_faults = f.1 + 1 ∨ ∃ i, oP c v = some i ∧ kMT f (pI c x v i (12, 1000 * v + (itn w (p + 1)).1, Int32.ofNat p, -1) (tv w 24 (itn w (p + 1)).2 none [])) (sP c v i) un o g' r')) kN := by
      intro n1
      unfold BM_item_49
      refine pl_u xM_in (fun e => pl_neg (by decide) ?_) (fun e => pl_pos (by decide) (bad _))
      rw [Bool.and_eq_true, decide_eq_true_eq, decide_eq_true_eq] at e
      have e' : 2 ≤ v.toInt ∧ v.toInt ≤ 49 := e
      have h88 : ¬ v = 88 := fun e => by rw [e] at e'; exact absurd e'.2 (by decide)
      refine pl_v (xM_within v (lw := oL c) hI.1 (fun t ht => (hI.2.2 t ht).1)) (fun _ _ _ e => e) (fun u g2 r2 e2 => ?_)
      obtain ⟨u', eu, huv, rfl, rfl⟩ := e2
      cases eu
      refine pl_ih (fun e3 => ?_) (fun e3 => bad _)
      rw [i32_0] at e3
      have hk : ¬ kpN (oL c) v (oI c) = 0 := by omega
      refine go 0 (kpN (oL c) v (oI c)) (Or.inr (Or.inr ⟨e'.1, e'.2, rfl, rfl, by omega⟩)) ?_
      unfold oP
      rw [if_neg n1, if_neg h88, if_pos ⟨by omega, e'.2⟩, if_neg hk]
    unfold BM_item_26 BM_item_31
    have eT : (v = 1 ∨ v = 77) → oP c v = some 0 := by
      intro e
      unfold oP
      rw [if_pos e]
    refine pl_if (fun _ => ?_) (fun _ => trivial)
    refine pl_iq (fun e1 => pl_pos (by decide) (go 1 0 (Or.inl ⟨Or.inl e1, rfl, rfl⟩) (eT (Or.inl e1)))) (fun e1 => ?_)
    refine pl_in (fun e77 => ?_) (fun e77 => ?_)
    · have n1 : ¬ (v = 1 ∨ v = 77) := fun e => e.elim e1 e77
      refine pl_neg (by decide) ?_
      refine pl_in (fun e88 => b49 n1) (fun e88 => ?_)
      rw [Decidable.not_not] at e88
      refine pl_ig (fun el => ?_) (fun el => b49 n1)
      rw [i32_0] at el
      have hi := hI.2.1.mp el
      refine go 0 (oI c) (Or.inr (Or.inl ⟨e88, rfl, hi⟩)) ?_
      unfold oP
      rw [if_neg n1, if_pos e88, if_neg (by omega)]
    · rw [Decidable.not_not] at e77
      exact pl_pos (by decide) (go 1 0 (Or.inl ⟨Or.inr e77, rfl, rfl⟩) (eT (Or.inr e77)))
end
