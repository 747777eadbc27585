/-! Where the model keeps the chain's nodes; what a clause does to them. -/
def rz (c : List Ce) : List Ce := match c with
  | [] => []
  | e :: c => ((0, 0, 0, -1), e.2) :: c
def uz (c : CU) (ch : List Ce) : List Ce := if oT c = 0 then renC (oN c) ch 1 0 else ch
theorem uz_n {c : CU} {ch : List Ce} (h : oT c ≠ 0) : uz c ch = ch := if_neg h
theorem rz_att : ∀ {i : Nat} {ch : List Ce} {e : Ce}, ch ≠ [] → rz (attC i ch e) = attC i (rz ch) e
  | 0, x :: c, e, _ => rfl
  | i + 1, x :: c, e, _ => rfl
  | _, [], _, h => absurd rfl h
def dvM (st : Int) (a : Int32) (r : a2_A) : Int32 := if st = 2 then (r fM_environment).2 a.toNatClampNeg else if st ≤ 7 then (r fM_data).2 a.toNatClampNeg else (r fM_procedure).2 a.toNatClampNeg
theorem dvM_e {st : Int} {a : Int32} {r : a2_A} (h : st = 2) : dvM st a r = (r fM_environment).2 a.toNatClampNeg := if_pos h
theorem dvM_d {st : Int} {a : Int32} {r : a2_A} (h : 3 ≤ st ∧ st ≤ 7) : dvM st a r = (r fM_data).2 a.toNatClampNeg := (if_neg (by omega)).trans (if_pos h.2)
theorem dvM_p {st : Int} {a : Int32} {r : a2_A} (h : 8 ≤ st) : dvM st a r = (r fM_procedure).2 a.toNatClampNeg := (if_neg (by omega)).trans (if_neg (by omega))
def Pz (ids : List Nat) (i : Nat) (a : Int32) : Prop := i = 0 ∧ a = 0 ∨ i ≠ 0 ∧ Pt ids i a
theorem Pz.att {ids : List Nat} {i j v : Nat} {a : Int32} (h : Pz ids j a) (hj : j ≤ i) (hi : i < ids.length) : Pz (attI i ids v) j a := h.imp id (fun e => ⟨e.1, e.2.att hj hi⟩)
/-- the open units' nodes -/
def Hun (u : Nat) (ids : List Nat) (g : a2_G) (r : a2_A) : Prop := 0 ≤ (g fM_units).toInt ∧ ∀ i, i < u → (0 ≤ ((r fM_its).2 i).toInt ∧ ((r fM_its).2 i).toInt < (g fM_units).toInt) ∧ Pt ids (i + 1) ((r fM_unitNode).2 ((r fM_its).2 i).toNatClampNeg)
theorem Hun.att {u k n : Nat} {ids : List Nat} {g g' : a2_G} {r r' : a2_A} (h : Hun u ids g r) (hu : u ≤ k) (hk : k < ids.length) (e1 : g' fM_units = g fM_units := by rfl) (e2 : r' fM_its = r fM_its := by rfl) (e3 : r' fM_unitNode = r fM_unitNode := by rfl) : Hun u (attI k ids n) g' r' := by
  unfold Hun
  rw [e1, e2, e3]
  exact ⟨h.1, fun i hi => ⟨(h.2 i hi).1, (h.2 i hi).2.att (by omega) hk⟩⟩
theorem Hun.sm {u u' : Nat} {ids : List Nat} {g g' : a2_G} {r r' : a2_A} (h : Hun u ids g r) (hu : u' ≤ u) (e1 : g' fM_units = g fM_units := by rfl) (e2 : r' fM_its = r fM_its := by rfl) (e3 : r' fM_unitNode = r fM_unitNode := by rfl) : Hun u' ids g' r' := by
  unfold Hun
  rw [e1, e2, e3]
  exact ⟨h.1, fun i hi => h.2 i (by omega)⟩
/-- by the innermost unit's state st; u units and io items are open -/
def HM (u : Nat) (st : Int) (io : Nat) (y : Nat × Nat × Nat) (ids : List Nat) (g : a2_G) (r : a2_A) : Prop :=
  Pt ids 0 0 ∧ Hun u ids g r ∧
  (2 ≤ st → st ≤ 11 → Pt ids (u + 1) (dvM st ((r fM_its).2 (u - 1)) r)) ∧
  (4 ≤ st → st ≤ 5 → Pt ids (u + 2) (g fM_files)) ∧
  (5 ≤ st → st ≤ 7 → u + 2 ≤ y.1 ∧ (st = 5 → u + 3 ≤ y.1) ∧ Pt ids y.1 (g fM_holder) ∧ (∀ i, i < io → Pt ids (y.1 + 1 + i) ((r fM_itemNode).2 i)) ∧ (0 < io → g fM_latest = (r fM_itemNode).2 (io - 1))) ∧
  (st = 9 → Pt ids (u + 2) (g fM_declaratives)) ∧
  (8 ≤ st → st ≤ 11 → Pz ids y.2.1 (g fM_section) ∧ Pz ids y.2.2 (g fM_paragraph) ∧ (y.2.1 ≠ 0 → u + 2 ≤ y.2.1 ∧ (st = 9 → u + 3 ≤ y.2.1)) ∧ (y.2.2 ≠ 0 → u + 2 ≤ y.2.2 ∧ y.2.1 < y.2.2 ∧ (st = 9 → u + 3 ≤ y.2.2)) ∧ (st = 8 → y.2.1 = 0 ∧ y.2.2 = 0))
theorem HM.fr {u : Nat} {st : Int} {io : Nat} {y : Nat × Nat × Nat} {ids : List Nat} {g g' : a2_G} {r r' : a2_A} (h : HM u st io y ids g r) (hF : Fm WS WSa g r g' r') : HM u st io y ids g' r' := by
  unfold HM Hun dvM
  rw [hF.1 fM_units (by decide), hF.2 fM_its (by decide), hF.2 fM_unitNode (by decide), hF.2 fM_environment (by decide), hF.2 fM_data (by decide), hF.2 fM_procedure (by decide), hF.1 fM_files (by decide), hF.1 fM_holder (by decide), hF.2 fM_itemNode (by decide), hF.1 fM_latest (by decide), hF.1 fM_declaratives (by decide), hF.1 fM_section (by decide), hF.1 fM_paragraph (by decide)]
  exact h
theorem HM.gd {u : Nat} {st : Int} {io : Nat} {y : Nat × Nat × Nat} {ids : List Nat} {w : Ws} {f : Gh} {p : Nat} {g : a2_G} {r : a2_A} (h : HM u st io y ids f.2.1 f.2.2) (hg : Gd w f p g r) : HM u st io y ids g r := h.fr hg.1.2.2.1
/-- the model's tree between two clauses; un units so far -/
def TM (c : CU) (x : Xs) (un : Nat) (g : a2_G) (r : a2_A) : Prop := (g fM_units).toInt = (un : Int) ∧ ∃ n D K ids, Rm n D K g r ∧ Zc K D n ids (rz (uz c x.1)) ∧ HM (oN c) (oT c).toInt (oI c) x.2 ids g r ∧ UMz c ids n D K un r
def kMT (f : Gh) (z : Option (Nat × Xs)) (c' : CU) (un : Nat) : Option Value → a2_G → a2_A → Prop := fun o g r => o = none ∧ (g fM_faults = f.1 + 1 ∨ ∃ q x', z = some (q, x') ∧ (g fM_at).toInt = (q : Int) ∧ TM c' x' un g r)
theorem kMT.b {w : Ws} {f : Gh} {z : Option (Nat × Xs)} {c' : CU} {un : Nat} {b : Nat} {g : a2_G} {r : a2_A} (h : Bd w f b g r) : kMT f z c' un none g r := ⟨rfl, Or.inl h.2.1⟩
section
variable {L : Nat} {xs : Nat → Int32} {m d k : Nat} {w : Ws} {f : Gh} {p q : Nat} {c : CU} {x : Xs} {un : Nat} {g g2 : a2_G} {r r2 : a2_A} {kv : Int32 → a2_G → a2_A → Option fn_Z} {kn : a2_G → a2_A → Option fn_Z} {Q : Option Value → a2_G → a2_A → Prop} {X : Nat → a2_G → a2_A → Prop} {n : Nat} {D : Nat → TD} {K : Nat → List Nat} {N : Nat → Int32} {ids : List Nat} {ch : List Ce} {dd : TD} {F : Tf}
theorem rz_ne {i : Nat} {a : Int32} (hZ : Zc K D n ids (rz ch)) (h : Pt ids i a) : ch ≠ [] := fun e => by
  have h1 := h.lt
  have h2 := Zc.len hZ
  rw [e] at h2
  have h3 : ids.length = 0 := h2
  omega
theorem Rm.cg (hR : Rm n D K g r) (en : g2 fM_nodes = g fM_nodes := by rfl) (e1 : r2 fM_kind = r fM_kind := by rfl) (e2 : r2 fM_value = r fM_value := by rfl) (e3 : r2 fM_place = r fM_place := by rfl) (e4 : r2 fM_extra = r fM_extra := by rfl) (e5 : r2 fM_first = r fM_first := by rfl) (e6 : r2 fM_last = r fM_last := by rfl) (e7 : r2 fM_next = r fM_next := by rfl) (e8 : r2 fM_above = r fM_above := by rfl) : Rm n D K g2 r2 := by
  unfold Rm Mz Sz
  rw [en, e1, e2, e3, e4, e5, e6, e7, e8]
  exact hR
theorem kMT.mk {x' : Xs} {c' : CU} (hR : Rm n D K g2 r2) (hT : oT c' ≠ 0) (hZ : Zc K D n ids (rz x'.1)) (hh : HM (oN c') (oT c').toInt (oI c') x'.2 ids g2 r2) (hu : (g2 fM_units).toInt = (un : Int)) (ha : (g2 fM_at).toInt = (q : Int)) (hX : UMx c' ids n D K un r2) : kMT f (some (q, x')) c' un none g2 r2 := ⟨rfl, Or.inr ⟨q, x', rfl, ha, hu, n, D, K, ids, hR, by rw [uz_n hT]; exact hZ, hh, hX, fun j y hj hy => (hR.2.2.2.kid hj hy).2, hR.2.2.1⟩⟩
theorem at_core {i n1 : Nat} {D1 : Nat → TD} {K1 : Nat → List Nat} {a : Int32} (hZ : Zc K D n ids ch) (ha : Pt ids i a) (hn : 1 ≤ n) (hv : Vw NP n D K n (nd dd F) n1 D1 K1) (hR : Rm n1 D1 K1 g r) (hL : ML r) : pl (ev L xs (m + 1) d nM_attach [.ref cM, .int a, .int (Int32.ofNat n)] g r) (fun o g' r' => ∃ K', Rm n1 D1 K' g' r' ∧ Zc K' D1 n1 (attI i ids n) (attC i ch (dd, F)) ∧ g' = g ∧ ML r' ∧ (∀ q, q ∉ WEa → r' q = r q) ∧ Atd n D K i ids dd F n1 D1 K') kN := by
  obtain ⟨b1, b2, b3, b4, b5⟩ := hv
  obtain ⟨t, ht, rfl⟩ := ha
  have hlt := (Zc.ge hZ ht).2
  have rv := b3.rg
  refine pl_mono (zM_attach (i := t) (c := n) (by omega) (by omega) (by omega) (fun j hj hx => b4 j hj hx) hL hR) (fun o g' r' e => ?_) (fun _ _ _ e => e)
  obtain ⟨-, e2, rfl, e4, e5, e6⟩ := e
  have q1 : ∀ y, y < n → y ≠ t → fK K1 t (K1 t ++ [n]) y = K y := fun y hy1 hy2 => (fK_ne hy2).trans (b2 y hy1).1
  have q2 : fK K1 t (K1 t ++ [n]) t = K t ++ [n] := by rw [fK_eq, (b2 t hlt).1]
  have q3 : Tr (fK K1 t (K1 t ++ [n])) D1 n n1 n (nd dd F) := b3.loc (fun y hy1 hy2 => ⟨fK_ne (by omega), rfl⟩)
  exact ⟨_, e2, Zc.att hZ ht rv.2 q1 q2 (fun y hy => (b2 y hy).2) q3, rfl, e4, e6, t, ht, hlt, q1, q2, fun y hy => (b2 y hy).2, q3⟩
/-- what was built, hung below a node of the chain -/
theorem ml_at {i : Nat} {a : Int32} (hZ : Zc K D n ids ch) (ha : Pt ids i a) (hn : 1 ≤ n) (hv : Wn NP w f n D K N q n (nd dd F) g r) (hk : ∀ n' D' K' r', Am w f q n' D' K' g r' → Zc K' D' n' (attI i ids n) (attC i ch (dd, F)) → (∀ q, q ∉ WEa → r' q = r q) → Atd n D K i ids dd F n' D' K' → pl (kn g r') Q X) : pl (fn_n (ev L xs (m + 1) d nM_attach [.ref cM, .int a, .int (Int32.ofNat n)] g r) kn) Q X := by
  obtain ⟨n1, D1, K1, hA, hq, -⟩ := hv
  refine pl_n (at_core hZ ha hn hq hA.2 hA.ml) (fun _ _ _ e => e.elim) (fun g' r' e => ?_)
  obtain ⟨K', e1, e2, rfl, e4, e5, e6⟩ := e
  refine hk n1 D1 K' r' ⟨hA.1.nd e4 (fun _ _ => rfl) ?_ e5, e1⟩ e2 e5 e6
  have := hA.2.1
  have := hA.2.2.1
  omega
theorem ml_he {N0 : Nat} (hN : (g fM_open).toInt = (N0 : Int)) (hp : 0 < N0) (hk : pl (kv ((r fM_its).2 (N0 - 1)) g r) Q X) : pl (fn_v (ev L xs (m + 1) d nM_here [.ref cM] g r) kv) Q X := by
  cases d with
  | zero => trivial
  | succ d =>
    have en : (g fM_open - 1).toNatClampNeg = N0 - 1 := by
      rw [nc_eq, i32_dec (by omega), hN]
      omega
    rw [qM_here, en]
    by_cases hc : am_inr (g fM_open - 1) (r fM_its).1 = true
    · rw [if_pos hc]
      exact hk
    · rw [if_neg hc]
      trivial
theorem HM.uno {u : Nat} {st : Int} {io : Nat} {y : Nat × Nat × Nat} (h : HM u st io y ids g r) (hu : 0 < u) : Pt ids u ((r fM_unitNode).2 ((r fM_its).2 (u - 1)).toNatClampNeg) := by
  have := (h.2.1.2 (u - 1) (by omega)).2
  rw [show u - 1 + 1 = u by omega] at this
  exact this
/-- the innermost unit's row -/
theorem HM.unk {u : Nat} {st : Int} {io : Nat} {y : Nat × Nat × Nat} (h : HM u st io y ids g r) (hu : 0 < u) (hU : (g fM_units).toInt = (un : Int)) : ((r fM_its).2 (u - 1)).toNatClampNeg < un ∧ ∃ t, ids[u]? = some t ∧ (r fM_unitNode).2 ((r fM_its).2 (u - 1)).toNatClampNeg = Int32.ofNat t := by
  obtain ⟨⟨h1, h2⟩, t, h3, h4⟩ := h.2.1.2 (u - 1) (by omega)
  rw [show u - 1 + 1 = u by omega] at h3
  refine ⟨?_, t, h3, h4⟩
  rw [nc_eq]
  omega
/-- which node a heading makes -/
def dK (a : Int32) : Int32 := if a = 4 then 3 else if a = 12 then 7 else if a = 13 then 8 else if a = 14 then 9 else 10
theorem Am.uns (h : Am w f q n D K g r) (hU : (f.2.1 fM_units).toInt = (un : Int)) : (g fM_units).toInt = (un : Int) := by
  rw [h.1.1.2.2.1.1 fM_units (by decide)]
  exact hU
theorem zdv_e (hM : Mc c f.2.1 f.2.2) (hH : HM (oN c) (oT c).toInt (oI c) x.2 ids f.2.1 f.2.2) (hZ : Zc K D n ids (rz x.1)) (hU : (f.2.1 fM_units).toInt = (un : Int)) (hX : UMz c ids n D K un f.2.2) {a1 : Int32} (h1 : a1 = 4 ∨ a1 = 12) (hst : a1 = 4 ∧ (oT c).toInt = 1 ∨ a1 = 12 ∧ 1 ≤ (oT c).toInt ∧ (oT c).toInt ≤ 2) (h : Am w f (p + 1) n D K g r) (hn : 0 < oN c) {c' : CU} (eN : oN c' = oN c) (eT : oT c' = dS a1) : pl (ev L xs (m + 1) d nM_division2 [.ref cM, .int a1, .int (Int32.ofNat p)] g r) (kMT f (some (p + 3, attC (oN c) x.1 ((dK a1, 0, Int32.ofNat p, -1), []), x.2)) c' un) kN := by
  cases d with
  | zero => trivial
  | succ d =>
    have hx := rz_ne hZ hH.1
    have hT0 : oT c' ≠ 0 := by
      rw [eT]
      rcases h1 with rfl | rfl <;> decide
    have h88 : ∀ {g2 : a2_G} (x3 : Int32), x3 = 1 → Am w f (p + 3) n D K g2 r → pl (BM_division2_88 L xs (m + 1) d m a1 (Int32.ofNat p) x3 (dK a1) g2 r) (kMT f (some (p + 3, attC (oN c) x.1 ((dK a1, 0, Int32.ofNat p, -1), []), x.2)) c' un) kN := by
      intro g2 x3 e3 h2
      subst e3
      unfold BM_division2_88
      refine ml_nm (-1) (fun q => absurd q.1 (by rcases h1 with rfl | rfl <;> decide)) h2 (fun g3 r3 h3 => ?_)
      have hG3 := h3.gd
      have hm3 := hM.gd hG3
      have hh3 := hH.gd hG3
      refine ml_he hm3.1 hn (pl_neg (by decide) (pl_if (fun _ => ?_) (fun _ => trivial)))
      unfold BM_division2_123
      have ha := hh3.uno hn
      refine ml_at hZ ha h.2.2.1 h3 (fun n' D' K' r4 h4 hZ4 hr4 hat => ?_)
      have hG4 := h4.1
      have hm4 := hM.gd hG4
      have hh4 := hH.gd hG4
      have hi4 : r4 fM_its = r3 fM_its := hr4 _ (by decide)
      unfold BM_division2_142 BM_division2_157 BM_division2_169 BM_division2_179 BM_division2_232
      rw [← rz_att hx] at hZ4
      have hits : ((r3 fM_its).2 (oN c - 1)).toNatClampNeg = ((f.2.2 fM_its).2 (oN c - 1)).toNatClampNeg := by rw [hG3.1.2.2.1.2 fM_its (by decide)]
      obtain ⟨hu1, t0, hu2, hu3⟩ := hH.unk hn hU
      have hst2 : (oT c).toInt ≤ 2 := by
        rcases hst with q | q <;> omega
      have hst0 : 0 ≤ (oT c).toInt := by
        rcases hst with q | q <;> omega
      have hst1 : a1 = 4 → (oT c).toInt ≤ 1 := by
        intro e
        rcases hst with q | q
        · omega
        · rw [e] at q
          exact absurd q.1 (by decide)
      rcases h1 with rfl | rfl
      · refine pl_neg (by decide) (pl_if (fun _ => pl_pos (by decide) (pl_pos (by decide) (pl_pos (by decide) (pl_neg (by decide) ?_)))) (fun _ => trivial))
        refine pm_to (N := oN c) hm4.1 hn ?_
        refine kMT.mk (h4.2.cg) hT0 hZ4 ?_ (h4.uns hU) hG4.2.2.2.1 ?_
        rotate_left
        · refine hX.1.hd (kk := 3) hZ hH.1 (by have := hX.2.2; omega) hX.2.1 hat rfl rfl hu2 hu1 hu3 ⟨congrArg Prod.snd hG4.rows.1, ?_, congrArg Prod.snd hG4.rows.2.2.1, congrArg Prod.snd hG4.rows.2.2.2⟩ eN hst0 (Or.inl ⟨rfl, hst1 rfl, by rw [eT]; rfl⟩)
          rw [if_pos rfl]
          show upd (r4 fM_environment).2 ((r3 fM_its).2 (oN c - 1)).toNatClampNeg _ = _
          rw [hits, hG4.rows.2.1]
        rw [eN, eT]
        refine ⟨hh4.1.att (by omega) ha.lt, hh4.2.1.att (Nat.le_refl _) ha.lt, fun _ _ => ?_, fun e => absurd e (by decide), fun e => absurd e (by decide), fun e => absurd e (by decide), fun e => absurd e (by decide)⟩
        rw [dvM_e (by decide)]
        show Pt _ _ (upd (r4 fM_environment).2 ((r3 fM_its).2 (oN c - 1)).toNatClampNeg (Int32.ofNat n) ((r4 fM_its).2 (oN c - 1)).toNatClampNeg)
        rw [hi4, upd_eq]
        exact Pt.new ha.lt
      · refine pl_pos (by decide) (pl_neg (by decide) (pl_if (fun _ => pl_pos (by decide) (pl_pos (by decide) (pl_pos (by decide) (pl_neg (by decide) ?_)))) (fun _ => trivial)))
        refine pm_to (N := oN c) hm4.1 hn ?_
        refine kMT.mk (h4.2.cg) hT0 hZ4 ?_ (h4.uns hU) hG4.2.2.2.1 ?_
        rotate_left
        · refine hX.1.hd (kk := 7) hZ hH.1 (by have := hX.2.2; omega) hX.2.1 hat rfl rfl hu2 hu1 hu3 ⟨congrArg Prod.snd hG4.rows.1, congrArg Prod.snd hG4.rows.2.1, ?_, congrArg Prod.snd hG4.rows.2.2.2⟩ eN hst0 (Or.inr (Or.inl ⟨rfl, hst2, by rw [eT]; rfl⟩))
          rw [if_pos rfl]
          show upd (r4 fM_data).2 ((r3 fM_its).2 (oN c - 1)).toNatClampNeg _ = _
          rw [hits, hG4.rows.2.2.1]
        rw [eN, eT]
        refine ⟨hh4.1.att (by omega) ha.lt, hh4.2.1.att (Nat.le_refl _) ha.lt, fun _ _ => ?_, fun e => absurd e (by decide), fun e => absurd e (by decide), fun e => absurd e (by decide), fun e => absurd e (by decide)⟩
        rw [dvM_d (by decide)]
        show Pt _ _ (upd (r4 fM_data).2 ((r3 fM_its).2 (oN c - 1)).toNatClampNeg (Int32.ofNat n) ((r4 fM_its).2 (oN c - 1)).toNatClampNeg)
        rw [hi4, upd_eq]
        exact Pt.new ha.lt
    have h28 : pl (BM_division2_28 L xs (m + 1) d m a1 (Int32.ofNat p) 1 1 g r) (kMT f (some (p + 3, attC (oN c) x.1 ((dK a1, 0, Int32.ofNat p, -1), []), x.2)) c' un) kN := by
      unfold BM_division2_28 BM_division2_42
      refine ml_mu Am.lf h (fun e g2 h2 => pl_neg (by decide) ?_) (fun e g2 r2 h2 => pl_pos (by decide) (kMT.b h2))
      refine ml_mk Am.lf h2 (fun e g3 h3 => pl_pos (by decide) ?_) (fun e g3 r3 h3 => pl_neg (by decide) (kMT.b h3))
      rcases h1 with rfl | rfl
      · exact pl_neg (by decide) (h88 _ rfl h3)
      · exact pl_pos (by decide) (pl_neg (by decide) (h88 _ rfl h3))
    rw [qM_division2]
    unfold BM_division2_11 BM_division2_16
    rcases h1 with rfl | rfl
    · exact pl_pos (by decide) (pl_neg (by decide) h28)
    · exact pl_neg (by decide) (pl_neg (by decide) (pl_neg (by decide) h28))
theorem zdv_s (hM : Mc c f.2.1 f.2.2) (hH : HM (oN c) (oT c).toInt (oI c) x.2 ids f.2.1 f.2.2) (hZ : Zc K D n ids (rz x.1)) (hU : (f.2.1 fM_units).toInt = (un : Int)) (hX : UMz c ids n D K un f.2.2) {a1 : Int32} (h1 : a1 = 13 ∨ a1 = 14 ∨ a1 = 15) (h : Am w f (p + 1) n D K g r) (hn : 0 < oN c) (hs : 3 ≤ (oT c).toInt ∧ (oT c).toInt ≤ 7) {c' : CU} (eN : oN c' = oN c) (eT : oT c' = dS a1) (eI : oI c' = 0) : pl (ev L xs (m + 1) d nM_division2 [.ref cM, .int a1, .int (Int32.ofNat p)] g r) (kMT f (some (p + 3, attC (oN c + 1) x.1 ((dK a1, 0, Int32.ofNat p, -1), []), oN c + 2, x.2.2)) c' un) kN := by
  cases d with
  | zero => trivial
  | succ d =>
    have hdd : dK a1 ≠ 3 ∧ dK a1 ≠ 7 ∧ dK a1 ≠ 20 := by
      rcases h1 with rfl | rfl | rfl <;> decide
    have hx := rz_ne hZ hH.1
    have hT0 : oT c' ≠ 0 := by
      rw [eT]
      rcases h1 with rfl | rfl | rfl <;> decide
    have h88 : ∀ {g2 : a2_G} (x3 : Int32), x3 = 0 → Am w f (p + 3) n D K g2 r → pl (BM_division2_88 L xs (m + 1) d m a1 (Int32.ofNat p) x3 (dK a1) g2 r) (kMT f (some (p + 3, attC (oN c + 1) x.1 ((dK a1, 0, Int32.ofNat p, -1), []), oN c + 2, x.2.2)) c' un) kN := by
      intro g2 x3 e3 h2
      subst e3
      unfold BM_division2_88
      refine ml_nm (-1) (fun q => absurd q.1 (by rcases h1 with rfl | rfl | rfl <;> decide)) h2 (fun g3 r3 h3 => ?_)
      have hG3 := h3.gd
      have hm3 := hM.gd hG3
      have hh3 := hH.gd hG3
      refine ml_he hm3.1 hn (pl_pos (by decide) (pl_if (fun _ => ?_) (fun _ => trivial)))
      unfold BM_division2_123
      have ha := hh3.2.2.1 (by omega) (by omega)
      rw [dvM_d hs] at ha
      refine ml_at hZ ha h.2.2.1 h3 (fun n' D' K' r4 h4 hZ4 hr4 hat => ?_)
      have hG4 := h4.1
      have hm4 := hM.gd hG4
      have hh4 := hH.gd hG4
      have hdv := hh4.2.2.1 (by omega) (by omega)
      rw [dvM_d hs] at hdv
      unfold BM_division2_142 BM_division2_157 BM_division2_169 BM_division2_179 BM_division2_232
      rw [← rz_att hx] at hZ4
      have fin : ∀ {g5 : a2_G} {r5 : a2_A} {st : Int}, st = 4 ∨ st = 6 ∨ st = 7 → g5 fM_units = g3 fM_units → r5 fM_its = r4 fM_its → r5 fM_unitNode = r4 fM_unitNode → r5 fM_data = r4 fM_data → (st = 4 → g5 fM_files = Int32.ofNat n) → g5 fM_holder = Int32.ofNat n → HM (oN c) st 0 (oN c + 2, x.2.2) (attI (oN c + 1) ids n) g5 r5 := by
        intro g5 r5 st hst e1 e2 e3 e4 e5 e6
        refine ⟨hh4.1.att (by omega) ha.lt, hh4.2.1.att (by omega) ha.lt e1 e2 e3, fun _ _ => ?_, fun a b => ?_, fun a b => ⟨Nat.le_refl _, fun e => absurd e (by omega), ?_, (fun i hi => absurd hi (Nat.not_lt_zero _)), fun e => absurd e (by decide)⟩, fun e => absurd e (by omega), fun e => absurd e (by omega)⟩
        · rw [dvM_d (by omega), e4, e2]
          exact hdv.att (Nat.le_refl _) ha.lt
        · rw [e5 (by omega)]
          exact Pt.new ha.lt
        · rw [e6]
          exact Pt.new ha.lt
      rcases h1 with rfl | rfl | rfl
      · refine pl_pos (by decide) (pl_pos (by decide) (pl_neg (by decide) (pl_neg (by decide) (pl_pos (by decide) (pl_pos (by decide) (pl_neg (by decide) ?_))))))
        refine pm_to (N := oN c) hm4.1 hn ?_
        refine kMT.mk (h4.2.cg) hT0 hZ4 ?_ (h4.uns hU) hG4.2.2.2.1 (hX.att hZ hH.1 hat rfl hdd hG4.rows eN ⟨by rw [eT]; exact fun e => absurd e (by decide), by rw [eT]; exact fun e => absurd e (by decide), fun _ => hs.2⟩ (by omega) (by omega))
        rw [eN, eT, eI]
        exact fin (Or.inl rfl) rfl rfl rfl rfl (fun _ => rfl) rfl
      · refine pl_pos (by decide) (pl_pos (by decide) (pl_pos (by decide) (pl_neg (by decide) (pl_pos (by decide) (pl_pos (by decide) (pl_pos (by decide) (pl_neg (by decide) ?_)))))))
        refine pm_to (N := oN c) hm4.1 hn ?_
        refine kMT.mk (h4.2.cg) hT0 hZ4 ?_ (h4.uns hU) hG4.2.2.2.1 (hX.att hZ hH.1 hat rfl hdd hG4.rows eN ⟨by rw [eT]; exact fun e => absurd e (by decide), by rw [eT]; exact fun e => absurd e (by decide), fun _ => hs.2⟩ (by omega) (by omega))
        rw [eN, eT, eI]
        exact fin (Or.inr (Or.inl rfl)) rfl rfl rfl rfl (fun e => absurd e (by decide)) rfl
      · refine pl_pos (by decide) (pl_pos (by decide) (pl_pos (by decide) (pl_neg (by decide) (pl_pos (by decide) (pl_pos (by decide) (pl_pos (by decide) (pl_pos (by decide) ?_)))))))
        refine pm_to (N := oN c) hm4.1 hn ?_
        refine kMT.mk (h4.2.cg) hT0 hZ4 ?_ (h4.uns hU) hG4.2.2.2.1 (hX.att hZ hH.1 hat rfl hdd hG4.rows eN ⟨by rw [eT]; exact fun e => absurd e (by decide), by rw [eT]; exact fun e => absurd e (by decide), fun _ => hs.2⟩ (by omega) (by omega))
        rw [eN, eT, eI]
        exact fin (Or.inr (Or.inr rfl)) rfl rfl rfl rfl (fun e => absurd e (by decide)) rfl
    have h28 : pl (BM_division2_28 L xs (m + 1) d m a1 (Int32.ofNat p) 0 16 g r) (kMT f (some (p + 3, attC (oN c + 1) x.1 ((dK a1, 0, Int32.ofNat p, -1), []), oN c + 2, x.2.2)) c' un) kN := by
      unfold BM_division2_28 BM_division2_42
      refine ml_mu Am.lf h (fun e g2 h2 => pl_neg (by decide) ?_) (fun e g2 r2 h2 => pl_pos (by decide) (kMT.b h2))
      refine ml_mk Am.lf h2 (fun e g3 h3 => pl_pos (by decide) ?_) (fun e g3 r3 h3 => pl_neg (by decide) (kMT.b h3))
      rcases h1 with rfl | rfl | rfl
      · exact pl_pos (by decide) (pl_pos (by decide) (pl_neg (by decide) (h88 _ rfl h3)))
      · exact pl_pos (by decide) (pl_pos (by decide) (pl_pos (by decide) (pl_neg (by decide) (h88 _ rfl h3))))
      · exact pl_pos (by decide) (pl_pos (by decide) (pl_pos (by decide) (pl_pos (by decide) (h88 _ rfl h3))))
    rw [qM_division2]
    unfold BM_division2_16
    rcases h1 with rfl | rfl | rfl
    · exact pl_neg (by decide) (pl_pos (by decide) (pl_pos (by decide) h28))
    · exact pl_neg (by decide) (pl_pos (by decide) (pl_pos (by decide) h28))
    · exact pl_neg (by decide) (pl_pos (by decide) (pl_pos (by decide) h28))
/-- FD -/
theorem zM_described (hM : Mc c f.2.1 f.2.2) (hH : HM (oN c) (oT c).toInt (oI c) x.2 ids f.2.1 f.2.2) (hZ : Zc K D n ids (rz x.1)) (hU : (f.2.1 fM_units).toInt = (un : Int)) (hX : UMz c ids n D K un f.2.2) (h : Am w f (p + 1) n D K g r) (hn : 0 < oN c) (hs : 4 ≤ (oT c).toInt ∧ (oT c).toInt ≤ 5) {c' : CU} (eN : oN c' = oN c) (eT : oT c' = 5) (eI : oI c' = 0) : pl (ev L xs (m + 1) d nM_described [.ref cM, .int (Int32.ofNat p)] g r) (kMT f (some (p + 3, attC (oN c + 2) x.1 ((11, w.2.1 (p + 1), Int32.ofNat p, -1), []), oN c + 3, x.2.2)) c' un) kN := by
  cases d with
  | zero => trivial
  | succ d =>
    have hx := rz_ne hZ hH.1
    rw [qM_described]
    refine ml_mk Am.lf h (fun e g1 h1 => pl_pos (by decide) ?_) (fun e g1 r1 h1 => pl_neg (by decide) (kMT.b h1))
    refine ml_pa h1.1 ?_
    refine ml_nm (-1) (fun q => absurd q.1 (by decide)) h1 (fun g2 r2 h2 => ?_)
    refine ml_mk Wn.lf h2 (fun e g3 h3 => pl_pos (by decide) ?_) (fun e g3 r3 h3 => pl_neg (by decide) (kMT.b h3))
    have hh3 := hH.gd h3.gd
    have ha := hh3.2.2.2.1 hs.1 hs.2
    refine ml_at hZ ha h.2.2.1 h3 (fun n' D' K' r4 h4 hZ4 hr4 hat => ?_)
    have hG4 := h4.1
    have hm4 := hM.gd hG4
    have hh4 := hH.gd hG4
    have hdv := hh4.2.2.1 (by omega) (by omega)
    rw [dvM_d (by omega)] at hdv
    rw [← rz_att hx] at hZ4
    refine pm_to (N := oN c) hm4.1 hn ?_
    refine kMT.mk (h4.2.cg) (by rw [eT]; decide) hZ4 ?_ (h4.uns hU) hG4.2.2.2.1 (hX.att hZ hH.1 hat rfl ⟨by show (11 : Int32) ≠ 3; decide, by show (11 : Int32) ≠ 7; decide, by show (11 : Int32) ≠ 20; decide⟩ hG4.rows eN ⟨by rw [eT]; exact fun e => absurd e (by decide), by rw [eT]; exact fun e => absurd e (by decide), fun _ => by omega⟩ (by omega) (by omega))
    rw [eN, eT, eI]
    refine ⟨hh4.1.att (by omega) ha.lt, hh4.2.1.att (by omega) ha.lt, fun _ _ => ?_, fun a b => (hh4.2.2.2.1 hs.1 hs.2).att (Nat.le_refl _) ha.lt, fun a b => ⟨by show oN c + 2 ≤ oN c + 3; omega, fun e => Nat.le_refl _, Pt.new ha.lt, (fun i hi => absurd hi (Nat.not_lt_zero _)), fun e => absurd e (by decide)⟩, fun e => absurd e (by decide), fun e => absurd e (by decide)⟩
    rw [dvM_d (by decide)]
    exact hdv.att (by omega) ha.lt
/-- PROCEDURE DIVISION -/
theorem zbe_34 (hM : Mc c f.2.1 f.2.2) (hH : HM (oN c) (oT c).toInt (oI c) x.2 ids f.2.1 f.2.2) (hZ : Zc K D n ids (rz x.1)) (hU : (f.2.1 fM_units).toInt = (un : Int)) (hX : UMz c ids n D K un f.2.2) (hn1 : 1 ≤ n) (hF0 : cQ F = 0) (hs7 : 1 ≤ (oT c).toInt ∧ (oT c).toInt ≤ 7) (h : Wn NP w f n D K N q n (nd (20, 0, Int32.ofNat p, -1) F) g r) (hn : 0 < oN c) {c' : CU} (eN : oN c' = oN c) (eT : oT c' = 8) : pl (BM_begun_34 L xs (m + 1) d k (Int32.ofNat p) (Int32.ofNat n) g r) (kMT f (some (q + 1, attC (oN c) x.1 ((20, 0, Int32.ofNat p, -1), F), x.2.1, 0, 0)) c' un) kN := by
  have hx := rz_ne hZ hH.1
  unfold BM_begun_34
  refine ml_mk Wn.lf h (fun e g3 h3 => pl_pos (by decide) ?_) (fun e g3 r3 h3 => pl_neg (by decide) (kMT.b h3))
  have hm3 := hM.gd h3.gd
  have hh3 := hH.gd h3.gd
  refine ml_he hm3.1 hn (pl_if (fun _ => ?_) (fun _ => trivial))
  have ha := hh3.uno hn
  refine ml_at hZ ha hn1 h3 (fun n' D' K' r4 h4 hZ4 hr4 hat => ?_)
  have hG4 := h4.1
  have hm4 := hM.gd hG4
  have hh4 := hH.gd hG4
  rw [← rz_att hx] at hZ4
  refine ml_he hm4.1 hn (pl_if (fun _ => ?_) (fun _ => trivial))
  refine pm_to (N := oN c) hm4.1 hn ?_
  obtain ⟨hu1, t0, hu2, hu3⟩ := hH.unk hn hU
  refine kMT.mk (h4.2.cg) (by rw [eT]; decide) hZ4 ?_ (h4.uns hU) hG4.2.2.2.1 ?_
  rotate_left
  · refine hX.1.hd (kk := 20) hZ hH.1 (by have := hX.2.2; omega) hX.2.1 hat (by rw [cQ_nd, hF0]; rfl) rfl hu2 hu1 hu3 ⟨congrArg Prod.snd hG4.rows.1, congrArg Prod.snd hG4.rows.2.1, congrArg Prod.snd hG4.rows.2.2.1, ?_⟩ eN (by omega) (Or.inr (Or.inr ⟨rfl, by omega, by rw [eT]; rfl⟩))
    rw [if_pos rfl]
    show upd (r4 fM_procedure).2 ((r4 fM_its).2 (oN c - 1)).toNatClampNeg _ = _
    rw [hG4.1.2.2.1.2 fM_its (by decide), hG4.rows.2.2.2]
  rw [eN, eT]
  refine ⟨hh4.1.att (by omega) ha.lt, hh4.2.1.att (Nat.le_refl _) ha.lt, fun _ _ => ?_, fun _ e => absurd e (by decide), fun _ e => absurd e (by decide), fun e => absurd e (by decide), fun _ _ => ⟨Or.inl ⟨rfl, rfl⟩, Or.inl ⟨rfl, rfl⟩, fun e => absurd rfl e, fun e => absurd rfl e, fun _ => ⟨rfl, rfl⟩⟩⟩
  rw [dvM_p (by decide)]
  show Pt _ _ (upd (r4 fM_procedure).2 ((r4 fM_its).2 (oN c - 1)).toNatClampNeg (Int32.ofNat n) ((r4 fM_its).2 (oN c - 1)).toNatClampNeg)
  rw [upd_eq]
  exact Pt.new ha.lt
theorem zM_begun (hM : Mc c f.2.1 f.2.2) (hH : HM (oN c) (oT c).toInt (oI c) x.2 ids f.2.1 f.2.2) (hZ : Zc K D n ids (rz x.1)) (hU : (f.2.1 fM_units).toInt = (un : Int)) (hX : UMz c ids n D K un f.2.2) (hs7 : 1 ≤ (oT c).toInt ∧ (oT c).toInt ≤ 7) (h : Am w f (p + 1) n D K g r) (hn : 0 < oN c) {c' : CU} (eN : oN c' = oN c) (eT : oT c' = 8) : pl (ev L xs (m + 1) d nM_begun [.ref cM, .int (Int32.ofNat p)] g r) (kMT f (if ww w (p + 2) 31 then (match tv w 38 (p + 3) none [] with
      | some (q, _, F) => some (q + 1, attC (oN c) x.1 ((20, 0, Int32.ofNat p, -1), F), x.2.1, 0, 0)
      | none => none) else some (p + 3, attC (oN c) x.1 ((20, 0, Int32.ofNat p, -1), []), x.2.1, 0, 0)) c' un) kN := by
  cases d with
  | zero => trivial
  | succ d =>
    rw [qM_begun]
    have hn1 := h.2.2.1
    refine ml_mu Am.lf h (fun e g1 h1 => pl_pos (by decide) ?_) (fun e g1 r1 h1 => pl_neg (by decide) (kMT.b h1))
    refine ml_nm (-1) (fun q => absurd q.1 (by decide)) h1 (fun g2 r2 h2 => ?_)
    refine ml_ms Wn.lf h2 (fun e3 g3 h3 => pl_neg (by decide) ?_) (fun e3 => pl_pos (by decide) ?_)
    · rw [if_pos (show ww w (p + 2) 31 = true from e3)]
      refine pl_n (zM_names L xs (fun q => absurd q.1 (by decide)) hn1 (tv38_ok w) h3) (fun _ _ _ e => e) (fun g4 r4 e4 => ?_)
      obtain ⟨-, ⟨b, h4⟩ | ⟨q4, s4, T4, ez, h4⟩⟩ := e4
      · unfold BM_begun_34
        exact pb_mk h4 (fun g5 r5 h5 f5 => pl_neg (by decide) (kMT.b h5))
      · rw [show tv w 38 (p + 3) none [] = some (q4, s4, T4) from ez]
        exact zbe_34 hM hH hZ hU hX hn1 (tv_nk rfl ez) hs7 h4 hn eN eT
    · rw [if_neg (by rw [show ww w (p + 2) 31 = false from e3]; exact Bool.false_ne_true)]
      exact zbe_34 hM hH hZ hU hX hn1 rfl hs7 h2 hn eN eT
end
